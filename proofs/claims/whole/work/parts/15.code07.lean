/-! GroveWorksModel.<init>(I)V makes -/
theorem dX9_init_0 : decode cX9_init 0 = .ok (.aload_n 0, 1) := by decide +kernel
theorem dX9_init_1 : decode cX9_init 1 = .ok (.invokespecial 1, 3) := by decide +kernel
theorem dX9_init_4 : decode cX9_init 4 = .ok (.aload_n 0, 1) := by decide +kernel
theorem dX9_init_5 : decode cX9_init 5 = .ok (.bipush 40, 2) := by decide +kernel
theorem dX9_init_7 : decode cX9_init 7 = .ok (.newarray .int, 2) := by decide +kernel
theorem dX9_init_9 : decode cX9_init 9 = .ok (.putfield 7, 3) := by decide +kernel
theorem dX9_init_12 : decode cX9_init 12 = .ok (.aload_n 0, 1) := by decide +kernel
theorem dX9_init_13 : decode cX9_init 13 = .ok (.bipush 40, 2) := by decide +kernel
theorem dX9_init_15 : decode cX9_init 15 = .ok (.newarray .int, 2) := by decide +kernel
theorem dX9_init_17 : decode cX9_init 17 = .ok (.putfield 13, 3) := by decide +kernel
theorem dX9_init_20 : decode cX9_init 20 = .ok (.aload_n 0, 1) := by decide +kernel
theorem dX9_init_21 : decode cX9_init 21 = .ok (.bipush 16, 2) := by decide +kernel
theorem dX9_init_23 : decode cX9_init 23 = .ok (.newarray .boolean, 2) := by decide +kernel
theorem dX9_init_25 : decode cX9_init 25 = .ok (.putfield 16, 3) := by decide +kernel
theorem dX9_init_28 : decode cX9_init 28 = .ok (.aload_n 0, 1) := by decide +kernel
theorem dX9_init_29 : decode cX9_init 29 = .ok (.bipush 16, 2) := by decide +kernel
theorem dX9_init_31 : decode cX9_init 31 = .ok (.newarray .int, 2) := by decide +kernel
theorem dX9_init_33 : decode cX9_init 33 = .ok (.putfield 20, 3) := by decide +kernel
theorem dX9_init_36 : decode cX9_init 36 = .ok (.aload_n 0, 1) := by decide +kernel
theorem dX9_init_37 : decode cX9_init 37 = .ok (.bipush 8, 2) := by decide +kernel
theorem dX9_init_39 : decode cX9_init 39 = .ok (.newarray .int, 2) := by decide +kernel
theorem dX9_init_41 : decode cX9_init 41 = .ok (.putfield 23, 3) := by decide +kernel
theorem dX9_init_44 : decode cX9_init 44 = .ok (.aload_n 0, 1) := by decide +kernel
theorem dX9_init_45 : decode cX9_init 45 = .ok (.bipush 16, 2) := by decide +kernel
theorem dX9_init_47 : decode cX9_init 47 = .ok (.newarray .int, 2) := by decide +kernel
theorem dX9_init_49 : decode cX9_init 49 = .ok (.putfield 26, 3) := by decide +kernel
theorem dX9_init_52 : decode cX9_init 52 = .ok (.aload_n 0, 1) := by decide +kernel
theorem dX9_init_53 : decode cX9_init 53 = .ok (.bipush 16, 2) := by decide +kernel
theorem dX9_init_55 : decode cX9_init 55 = .ok (.newarray .int, 2) := by decide +kernel
theorem dX9_init_57 : decode cX9_init 57 = .ok (.putfield 29, 3) := by decide +kernel
theorem dX9_init_60 : decode cX9_init 60 = .ok (.aload_n 0, 1) := by decide +kernel
theorem dX9_init_61 : decode cX9_init 61 = .ok (.sipush 6400, 3) := by decide +kernel
theorem dX9_init_64 : decode cX9_init 64 = .ok (.newarray .int, 2) := by decide +kernel
theorem dX9_init_66 : decode cX9_init 66 = .ok (.putfield 32, 3) := by decide +kernel
theorem dX9_init_69 : decode cX9_init 69 = .ok (.aload_n 0, 1) := by decide +kernel
theorem dX9_init_70 : decode cX9_init 70 = .ok (.bipush 16, 2) := by decide +kernel
theorem dX9_init_72 : decode cX9_init 72 = .ok (.newarray .int, 2) := by decide +kernel
theorem dX9_init_74 : decode cX9_init 74 = .ok (.putfield 35, 3) := by decide +kernel
theorem dX9_init_77 : decode cX9_init 77 = .ok (.aload_n 0, 1) := by decide +kernel
theorem dX9_init_78 : decode cX9_init 78 = .ok (.bipush 16, 2) := by decide +kernel
theorem dX9_init_80 : decode cX9_init 80 = .ok (.newarray .int, 2) := by decide +kernel
theorem dX9_init_82 : decode cX9_init 82 = .ok (.putfield 38, 3) := by decide +kernel
theorem dX9_init_85 : decode cX9_init 85 = .ok (.aload_n 0, 1) := by decide +kernel
theorem dX9_init_86 : decode cX9_init 86 = .ok (.sipush 5120, 3) := by decide +kernel
theorem dX9_init_89 : decode cX9_init 89 = .ok (.newarray .int, 2) := by decide +kernel
theorem dX9_init_91 : decode cX9_init 91 = .ok (.putfield 41, 3) := by decide +kernel
theorem dX9_init_94 : decode cX9_init 94 = .ok (.aload_n 0, 1) := by decide +kernel
theorem dX9_init_95 : decode cX9_init 95 = .ok (.bipush 16, 2) := by decide +kernel
theorem dX9_init_97 : decode cX9_init 97 = .ok (.newarray .int, 2) := by decide +kernel
theorem dX9_init_99 : decode cX9_init 99 = .ok (.putfield 44, 3) := by decide +kernel
theorem dX9_init_102 : decode cX9_init 102 = .ok (.aload_n 0, 1) := by decide +kernel
theorem dX9_init_103 : decode cX9_init 103 = .ok (.sipush 5120, 3) := by decide +kernel
theorem dX9_init_106 : decode cX9_init 106 = .ok (.newarray .int, 2) := by decide +kernel
theorem dX9_init_108 : decode cX9_init 108 = .ok (.putfield 47, 3) := by decide +kernel
theorem dX9_init_111 : decode cX9_init 111 = .ok (.aload_n 0, 1) := by decide +kernel
theorem dX9_init_112 : decode cX9_init 112 = .ok (.iconst 1, 1) := by decide +kernel
theorem dX9_init_113 : decode cX9_init 113 = .ok (.putfield 50, 3) := by decide +kernel
theorem dX9_init_116 : decode cX9_init 116 = .ok (.aload_n 0, 1) := by decide +kernel
theorem dX9_init_117 : decode cX9_init 117 = .ok (.sipush 260, 3) := by decide +kernel
theorem dX9_init_120 : decode cX9_init 120 = .ok (.newarray .int, 2) := by decide +kernel
theorem dX9_init_122 : decode cX9_init 122 = .ok (.putfield 54, 3) := by decide +kernel
theorem dX9_init_125 : decode cX9_init 125 = .ok (.aload_n 0, 1) := by decide +kernel
theorem dX9_init_126 : decode cX9_init 126 = .ok (.sipush 260, 3) := by decide +kernel
theorem dX9_init_129 : decode cX9_init 129 = .ok (.newarray .int, 2) := by decide +kernel
theorem dX9_init_131 : decode cX9_init 131 = .ok (.putfield 57, 3) := by decide +kernel
theorem dX9_init_134 : decode cX9_init 134 = .ok (.aload_n 0, 1) := by decide +kernel
theorem dX9_init_135 : decode cX9_init 135 = .ok (.sipush 260, 3) := by decide +kernel
theorem dX9_init_138 : decode cX9_init 138 = .ok (.newarray .int, 2) := by decide +kernel
theorem dX9_init_140 : decode cX9_init 140 = .ok (.putfield 60, 3) := by decide +kernel
theorem dX9_init_143 : decode cX9_init 143 = .ok (.aload_n 0, 1) := by decide +kernel
theorem dX9_init_144 : decode cX9_init 144 = .ok (.sipush 400, 3) := by decide +kernel
theorem dX9_init_147 : decode cX9_init 147 = .ok (.newarray .int, 2) := by decide +kernel
theorem dX9_init_149 : decode cX9_init 149 = .ok (.putfield 63, 3) := by decide +kernel
theorem dX9_init_152 : decode cX9_init 152 = .ok (.aload_n 0, 1) := by decide +kernel
theorem dX9_init_153 : decode cX9_init 153 = .ok (.bipush 40, 2) := by decide +kernel
theorem dX9_init_155 : decode cX9_init 155 = .ok (.newarray .int, 2) := by decide +kernel
theorem dX9_init_157 : decode cX9_init 157 = .ok (.putfield 66, 3) := by decide +kernel
theorem dX9_init_160 : decode cX9_init 160 = .ok (.aload_n 0, 1) := by decide +kernel
theorem dX9_init_161 : decode cX9_init 161 = .ok (.bipush 40, 2) := by decide +kernel
theorem dX9_init_163 : decode cX9_init 163 = .ok (.newarray .int, 2) := by decide +kernel
theorem dX9_init_165 : decode cX9_init 165 = .ok (.putfield 69, 3) := by decide +kernel
theorem dX9_init_168 : decode cX9_init 168 = .ok (.aload_n 0, 1) := by decide +kernel
theorem dX9_init_169 : decode cX9_init 169 = .ok (.sipush 320, 3) := by decide +kernel
theorem dX9_init_172 : decode cX9_init 172 = .ok (.newarray .int, 2) := by decide +kernel
theorem dX9_init_174 : decode cX9_init 174 = .ok (.putfield 72, 3) := by decide +kernel
theorem dX9_init_177 : decode cX9_init 177 = .ok (.aload_n 0, 1) := by decide +kernel
theorem dX9_init_178 : decode cX9_init 178 = .ok (.sipush 5440, 3) := by decide +kernel
theorem dX9_init_181 : decode cX9_init 181 = .ok (.newarray .int, 2) := by decide +kernel
theorem dX9_init_183 : decode cX9_init 183 = .ok (.putfield 75, 3) := by decide +kernel
theorem dX9_init_186 : decode cX9_init 186 = .ok (.aload_n 0, 1) := by decide +kernel
theorem dX9_init_187 : decode cX9_init 187 = .ok (.sipush 5120, 3) := by decide +kernel
theorem dX9_init_190 : decode cX9_init 190 = .ok (.newarray .int, 2) := by decide +kernel
theorem dX9_init_192 : decode cX9_init 192 = .ok (.putfield 78, 3) := by decide +kernel
theorem dX9_init_195 : decode cX9_init 195 = .ok (.aload_n 0, 1) := by decide +kernel
theorem dX9_init_196 : decode cX9_init 196 = .ok (.sipush 5120, 3) := by decide +kernel
theorem dX9_init_199 : decode cX9_init 199 = .ok (.newarray .int, 2) := by decide +kernel
theorem dX9_init_201 : decode cX9_init 201 = .ok (.putfield 81, 3) := by decide +kernel
theorem dX9_init_204 : decode cX9_init 204 = .ok (.aload_n 0, 1) := by decide +kernel
theorem dX9_init_205 : decode cX9_init 205 = .ok (.sipush 5120, 3) := by decide +kernel
theorem dX9_init_208 : decode cX9_init 208 = .ok (.newarray .int, 2) := by decide +kernel
theorem dX9_init_210 : decode cX9_init 210 = .ok (.putfield 84, 3) := by decide +kernel
theorem dX9_init_213 : decode cX9_init 213 = .ok (.aload_n 0, 1) := by decide +kernel
theorem dX9_init_214 : decode cX9_init 214 = .ok (.sipush 1360, 3) := by decide +kernel
theorem dX9_init_217 : decode cX9_init 217 = .ok (.newarray .int, 2) := by decide +kernel
theorem dX9_init_219 : decode cX9_init 219 = .ok (.putfield 87, 3) := by decide +kernel
theorem dX9_init_222 : decode cX9_init 222 = .ok (.aload_n 0, 1) := by decide +kernel
theorem dX9_init_223 : decode cX9_init 223 = .ok (.sipush 1360, 3) := by decide +kernel
theorem dX9_init_226 : decode cX9_init 226 = .ok (.newarray .int, 2) := by decide +kernel
theorem dX9_init_228 : decode cX9_init 228 = .ok (.putfield 90, 3) := by decide +kernel
theorem dX9_init_231 : decode cX9_init 231 = .ok (.aload_n 0, 1) := by decide +kernel
theorem dX9_init_232 : decode cX9_init 232 = .ok (.sipush 1360, 3) := by decide +kernel
theorem dX9_init_235 : decode cX9_init 235 = .ok (.newarray .int, 2) := by decide +kernel
theorem dX9_init_237 : decode cX9_init 237 = .ok (.putfield 93, 3) := by decide +kernel
theorem dX9_init_240 : decode cX9_init 240 = .ok (.aload_n 0, 1) := by decide +kernel
theorem dX9_init_241 : decode cX9_init 241 = .ok (.bipush 80, 2) := by decide +kernel
theorem dX9_init_243 : decode cX9_init 243 = .ok (.newarray .int, 2) := by decide +kernel
theorem dX9_init_245 : decode cX9_init 245 = .ok (.putfield 96, 3) := by decide +kernel
theorem dX9_init_248 : decode cX9_init 248 = .ok (.aload_n 0, 1) := by decide +kernel
theorem dX9_init_249 : decode cX9_init 249 = .ok (.sipush 1280, 3) := by decide +kernel
theorem dX9_init_252 : decode cX9_init 252 = .ok (.newarray .int, 2) := by decide +kernel
theorem dX9_init_254 : decode cX9_init 254 = .ok (.putfield 99, 3) := by decide +kernel
theorem dX9_init_257 : decode cX9_init 257 = .ok (.aload_n 0, 1) := by decide +kernel
theorem dX9_init_258 : decode cX9_init 258 = .ok (.sipush 1280, 3) := by decide +kernel
theorem dX9_init_261 : decode cX9_init 261 = .ok (.newarray .int, 2) := by decide +kernel
theorem dX9_init_263 : decode cX9_init 263 = .ok (.putfield 102, 3) := by decide +kernel
theorem dX9_init_266 : decode cX9_init 266 = .ok (.aload_n 0, 1) := by decide +kernel
theorem dX9_init_267 : decode cX9_init 267 = .ok (.sipush 1280, 3) := by decide +kernel
theorem dX9_init_270 : decode cX9_init 270 = .ok (.newarray .int, 2) := by decide +kernel
theorem dX9_init_272 : decode cX9_init 272 = .ok (.putfield 105, 3) := by decide +kernel
theorem dX9_init_275 : decode cX9_init 275 = .ok (.aload_n 0, 1) := by decide +kernel
theorem dX9_init_276 : decode cX9_init 276 = .ok (.iload_n 1, 1) := by decide +kernel
theorem dX9_init_277 : decode cX9_init 277 = .ok (.iconst 1, 1) := by decide +kernel
theorem dX9_init_278 : decode cX9_init 278 = .ok (.if_icmp .ge 7, 3) := by decide +kernel
theorem dX9_init_281 : decode cX9_init 281 = .ok (.iconst 1, 1) := by decide +kernel
theorem dX9_init_282 : decode cX9_init 282 = .ok (.goto 15, 3) := by decide +kernel
theorem dX9_init_285 : decode cX9_init 285 = .ok (.iload_n 1, 1) := by decide +kernel
theorem dX9_init_286 : decode cX9_init 286 = .ok (.bipush 10, 2) := by decide +kernel
theorem dX9_init_288 : decode cX9_init 288 = .ok (.if_icmp .le 8, 3) := by decide +kernel
theorem dX9_init_291 : decode cX9_init 291 = .ok (.bipush 10, 2) := by decide +kernel
theorem dX9_init_293 : decode cX9_init 293 = .ok (.goto 4, 3) := by decide +kernel
theorem dX9_init_296 : decode cX9_init 296 = .ok (.iload_n 1, 1) := by decide +kernel
theorem dX9_init_297 : decode cX9_init 297 = .ok (.putfield 108, 3) := by decide +kernel
theorem dX9_init_300 : decode cX9_init 300 = .ok (.iconst 0, 1) := by decide +kernel
theorem dX9_init_301 : decode cX9_init 301 = .ok (.istore_n 2, 1) := by decide +kernel
theorem dX9_init_302 : decode cX9_init 302 = .ok (.iload_n 2, 1) := by decide +kernel
theorem dX9_init_303 : decode cX9_init 303 = .ok (.bipush 40, 2) := by decide +kernel
theorem dX9_init_305 : decode cX9_init 305 = .ok (.if_icmp .ge 30, 3) := by decide +kernel
theorem dX9_init_308 : decode cX9_init 308 = .ok (.aload_n 0, 1) := by decide +kernel
theorem dX9_init_309 : decode cX9_init 309 = .ok (.getfield 7, 3) := by decide +kernel
theorem dX9_init_312 : decode cX9_init 312 = .ok (.iload_n 2, 1) := by decide +kernel
theorem dX9_init_313 : decode cX9_init 313 = .ok (.iconst (-1), 1) := by decide +kernel
theorem dX9_init_314 : decode cX9_init 314 = .ok (.iastore, 1) := by decide +kernel
theorem dX9_init_315 : decode cX9_init 315 = .ok (.aload_n 0, 1) := by decide +kernel
theorem dX9_init_316 : decode cX9_init 316 = .ok (.getfield 66, 3) := by decide +kernel
theorem dX9_init_319 : decode cX9_init 319 = .ok (.iload_n 2, 1) := by decide +kernel
theorem dX9_init_320 : decode cX9_init 320 = .ok (.iconst (-1), 1) := by decide +kernel
theorem dX9_init_321 : decode cX9_init 321 = .ok (.iastore, 1) := by decide +kernel
theorem dX9_init_322 : decode cX9_init 322 = .ok (.aload_n 0, 1) := by decide +kernel
theorem dX9_init_323 : decode cX9_init 323 = .ok (.getfield 69, 3) := by decide +kernel
theorem dX9_init_326 : decode cX9_init 326 = .ok (.iload_n 2, 1) := by decide +kernel
theorem dX9_init_327 : decode cX9_init 327 = .ok (.iconst (-1), 1) := by decide +kernel
theorem dX9_init_328 : decode cX9_init 328 = .ok (.iastore, 1) := by decide +kernel
theorem dX9_init_329 : decode cX9_init 329 = .ok (.iinc 2 1, 3) := by decide +kernel
theorem dX9_init_332 : decode cX9_init 332 = .ok (.goto (-30), 3) := by decide +kernel
theorem dX9_init_335 : decode cX9_init 335 = .ok (.iconst 0, 1) := by decide +kernel
theorem dX9_init_336 : decode cX9_init 336 = .ok (.istore_n 2, 1) := by decide +kernel
theorem dX9_init_337 : decode cX9_init 337 = .ok (.iload_n 2, 1) := by decide +kernel
theorem dX9_init_338 : decode cX9_init 338 = .ok (.bipush 16, 2) := by decide +kernel
theorem dX9_init_340 : decode cX9_init 340 = .ok (.if_icmp .ge 16, 3) := by decide +kernel
theorem dX9_init_343 : decode cX9_init 343 = .ok (.aload_n 0, 1) := by decide +kernel
theorem dX9_init_344 : decode cX9_init 344 = .ok (.getfield 20, 3) := by decide +kernel
theorem dX9_init_347 : decode cX9_init 347 = .ok (.iload_n 2, 1) := by decide +kernel
theorem dX9_init_348 : decode cX9_init 348 = .ok (.iconst (-1), 1) := by decide +kernel
theorem dX9_init_349 : decode cX9_init 349 = .ok (.iastore, 1) := by decide +kernel
theorem dX9_init_350 : decode cX9_init 350 = .ok (.iinc 2 1, 3) := by decide +kernel
theorem dX9_init_353 : decode cX9_init 353 = .ok (.goto (-16), 3) := by decide +kernel
theorem dX9_init_356 : decode cX9_init 356 = .ok (.iconst 0, 1) := by decide +kernel
theorem dX9_init_357 : decode cX9_init 357 = .ok (.istore_n 2, 1) := by decide +kernel
theorem dX9_init_358 : decode cX9_init 358 = .ok (.iload_n 2, 1) := by decide +kernel
theorem dX9_init_359 : decode cX9_init 359 = .ok (.sipush 5120, 3) := by decide +kernel
theorem dX9_init_362 : decode cX9_init 362 = .ok (.if_icmp .ge 23, 3) := by decide +kernel
theorem dX9_init_365 : decode cX9_init 365 = .ok (.aload_n 0, 1) := by decide +kernel
theorem dX9_init_366 : decode cX9_init 366 = .ok (.getfield 78, 3) := by decide +kernel
theorem dX9_init_369 : decode cX9_init 369 = .ok (.iload_n 2, 1) := by decide +kernel
theorem dX9_init_370 : decode cX9_init 370 = .ok (.iconst (-1), 1) := by decide +kernel
theorem dX9_init_371 : decode cX9_init 371 = .ok (.iastore, 1) := by decide +kernel
theorem dX9_init_372 : decode cX9_init 372 = .ok (.aload_n 0, 1) := by decide +kernel
theorem dX9_init_373 : decode cX9_init 373 = .ok (.getfield 81, 3) := by decide +kernel
theorem dX9_init_376 : decode cX9_init 376 = .ok (.iload_n 2, 1) := by decide +kernel
theorem dX9_init_377 : decode cX9_init 377 = .ok (.iconst (-1), 1) := by decide +kernel
theorem dX9_init_378 : decode cX9_init 378 = .ok (.iastore, 1) := by decide +kernel
theorem dX9_init_379 : decode cX9_init 379 = .ok (.iinc 2 1, 3) := by decide +kernel
theorem dX9_init_382 : decode cX9_init 382 = .ok (.goto (-24), 3) := by decide +kernel
theorem dX9_init_385 : decode cX9_init 385 = .ok (.iconst 0, 1) := by decide +kernel
theorem dX9_init_386 : decode cX9_init 386 = .ok (.istore_n 2, 1) := by decide +kernel
theorem dX9_init_387 : decode cX9_init 387 = .ok (.iload_n 2, 1) := by decide +kernel
theorem dX9_init_388 : decode cX9_init 388 = .ok (.sipush 1360, 3) := by decide +kernel
theorem dX9_init_391 : decode cX9_init 391 = .ok (.if_icmp .ge 23, 3) := by decide +kernel
theorem dX9_init_394 : decode cX9_init 394 = .ok (.aload_n 0, 1) := by decide +kernel
theorem dX9_init_395 : decode cX9_init 395 = .ok (.getfield 87, 3) := by decide +kernel
theorem dX9_init_398 : decode cX9_init 398 = .ok (.iload_n 2, 1) := by decide +kernel
theorem dX9_init_399 : decode cX9_init 399 = .ok (.iconst (-1), 1) := by decide +kernel
theorem dX9_init_400 : decode cX9_init 400 = .ok (.iastore, 1) := by decide +kernel
theorem dX9_init_401 : decode cX9_init 401 = .ok (.aload_n 0, 1) := by decide +kernel
theorem dX9_init_402 : decode cX9_init 402 = .ok (.getfield 90, 3) := by decide +kernel
theorem dX9_init_405 : decode cX9_init 405 = .ok (.iload_n 2, 1) := by decide +kernel
theorem dX9_init_406 : decode cX9_init 406 = .ok (.iconst (-1), 1) := by decide +kernel
theorem dX9_init_407 : decode cX9_init 407 = .ok (.iastore, 1) := by decide +kernel
theorem dX9_init_408 : decode cX9_init 408 = .ok (.iinc 2 1, 3) := by decide +kernel
theorem dX9_init_411 : decode cX9_init 411 = .ok (.goto (-24), 3) := by decide +kernel
theorem dX9_init_414 : decode cX9_init 414 = .ok (.iconst 0, 1) := by decide +kernel
theorem dX9_init_415 : decode cX9_init 415 = .ok (.istore_n 2, 1) := by decide +kernel
theorem dX9_init_416 : decode cX9_init 416 = .ok (.iload_n 2, 1) := by decide +kernel
theorem dX9_init_417 : decode cX9_init 417 = .ok (.sipush 1280, 3) := by decide +kernel
theorem dX9_init_420 : decode cX9_init 420 = .ok (.if_icmp .ge 16, 3) := by decide +kernel
theorem dX9_init_423 : decode cX9_init 423 = .ok (.aload_n 0, 1) := by decide +kernel
theorem dX9_init_424 : decode cX9_init 424 = .ok (.getfield 105, 3) := by decide +kernel
theorem dX9_init_427 : decode cX9_init 427 = .ok (.iload_n 2, 1) := by decide +kernel
theorem dX9_init_428 : decode cX9_init 428 = .ok (.iconst (-1), 1) := by decide +kernel
theorem dX9_init_429 : decode cX9_init 429 = .ok (.iastore, 1) := by decide +kernel
theorem dX9_init_430 : decode cX9_init 430 = .ok (.iinc 2 1, 3) := by decide +kernel
theorem dX9_init_433 : decode cX9_init 433 = .ok (.goto (-17), 3) := by decide +kernel
theorem dX9_init_436 : decode cX9_init 436 = .ok (.return_, 1) := by decide +kernel
def d_X9_init_416 : Nat → Nat → Int32 → Hp → Option (Hp)
  | 0, _, _, _ => none
  | n_ + 1, x0, x2, G =>
    mV G <|
    if 1280 ≤ x2 then
      some G
    else
      gd (hc G x0 = 10) <|
      gd (hc G ((hr G x0 39)) = 11 ∧ ix x2 (hl G ((hr G x0 39)))) <|
      bd (sI G ((hr G x0 39)) x2.toNatClampNeg (-1)) fun G4 =>
      d_X9_init_416 n_ x0 ((x2 + 1)) G4
def d_X9_init_387 : Nat → Nat → Int32 → Hp → Option (Hp)
  | 0, _, _, _ => none
  | n_ + 1, x0, x2, G =>
    mV G <|
    if 1360 ≤ x2 then
      d_X9_init_416 FU x0 0 G
    else
      gd (hc G x0 = 10) <|
      gd (hc G ((hr G x0 33)) = 11 ∧ ix x2 (hl G ((hr G x0 33)))) <|
      bd (sI G ((hr G x0 33)) x2.toNatClampNeg (-1)) fun G4 =>
      gd (hc G4 x0 = 10) <|
      gd (hc G4 ((hr G4 x0 34)) = 11 ∧ ix x2 (hl G4 ((hr G4 x0 34)))) <|
      bd (sI G4 ((hr G4 x0 34)) x2.toNatClampNeg (-1)) fun G7 =>
      d_X9_init_387 n_ x0 ((x2 + 1)) G7
def d_X9_init_358 : Nat → Nat → Int32 → Hp → Option (Hp)
  | 0, _, _, _ => none
  | n_ + 1, x0, x2, G =>
    mV G <|
    if 5120 ≤ x2 then
      d_X9_init_387 FU x0 0 G
    else
      gd (hc G x0 = 10) <|
      gd (hc G ((hr G x0 30)) = 11 ∧ ix x2 (hl G ((hr G x0 30)))) <|
      bd (sI G ((hr G x0 30)) x2.toNatClampNeg (-1)) fun G4 =>
      gd (hc G4 x0 = 10) <|
      gd (hc G4 ((hr G4 x0 31)) = 11 ∧ ix x2 (hl G4 ((hr G4 x0 31)))) <|
      bd (sI G4 ((hr G4 x0 31)) x2.toNatClampNeg (-1)) fun G7 =>
      d_X9_init_358 n_ x0 ((x2 + 1)) G7
def d_X9_init_337 : Nat → Nat → Int32 → Hp → Option (Hp)
  | 0, _, _, _ => none
  | n_ + 1, x0, x2, G =>
    mV G <|
    if 16 ≤ x2 then
      d_X9_init_358 FU x0 0 G
    else
      gd (hc G x0 = 10) <|
      gd (hc G ((hr G x0 11)) = 11 ∧ ix x2 (hl G ((hr G x0 11)))) <|
      bd (sI G ((hr G x0 11)) x2.toNatClampNeg (-1)) fun G4 =>
      d_X9_init_337 n_ x0 ((x2 + 1)) G4
def d_X9_init_302 : Nat → Nat → Int32 → Hp → Option (Hp)
  | 0, _, _, _ => none
  | n_ + 1, x0, x2, G =>
    mV G <|
    if 40 ≤ x2 then
      d_X9_init_337 FU x0 0 G
    else
      gd (hc G x0 = 10) <|
      gd (hc G ((hr G x0 8)) = 11 ∧ ix x2 (hl G ((hr G x0 8)))) <|
      bd (sI G ((hr G x0 8)) x2.toNatClampNeg (-1)) fun G4 =>
      gd (hc G4 x0 = 10) <|
      gd (hc G4 ((hr G4 x0 26)) = 11 ∧ ix x2 (hl G4 ((hr G4 x0 26)))) <|
      bd (sI G4 ((hr G4 x0 26)) x2.toNatClampNeg (-1)) fun G7 =>
      gd (hc G7 x0 = 10) <|
      gd (hc G7 ((hr G7 x0 27)) = 11 ∧ ix x2 (hl G7 ((hr G7 x0 27)))) <|
      bd (sI G7 ((hr G7 x0 27)) x2.toNatClampNeg (-1)) fun G10 =>
      d_X9_init_302 n_ x0 ((x2 + 1)) G10
def d_X9_init (x0 : Nat) (x1 : Int32) (G : Hp) : Option (Hp) :=
  mV G <|
  gd (hc G x0 = 10) <|
  bd (hn G) fun q2 =>
  bd (nC G 11 (40 : Int32).toNatClampNeg (40 : Int32).toNatClampNeg) fun G3 =>
  mV G3 <|
  gd (hc G3 x0 = 10) <|
  bd (sR G3 x0 8 q2) fun G5 =>
  bd (hn G5) fun q6 =>
  bd (nC G5 11 (40 : Int32).toNatClampNeg (40 : Int32).toNatClampNeg) fun G7 =>
  mV G7 <|
  gd (hc G7 x0 = 10) <|
  bd (sR G7 x0 9 q6) fun G9 =>
  bd (hn G9) fun q10 =>
  bd (nC G9 12 (16 : Int32).toNatClampNeg (16 : Int32).toNatClampNeg) fun G11 =>
  mV G11 <|
  gd (hc G11 x0 = 10) <|
  bd (sR G11 x0 10 q10) fun G13 =>
  bd (hn G13) fun q14 =>
  bd (nC G13 11 (16 : Int32).toNatClampNeg (16 : Int32).toNatClampNeg) fun G15 =>
  mV G15 <|
  gd (hc G15 x0 = 10) <|
  bd (sR G15 x0 11 q14) fun G17 =>
  bd (hn G17) fun q18 =>
  bd (nC G17 11 (8 : Int32).toNatClampNeg (8 : Int32).toNatClampNeg) fun G19 =>
  mV G19 <|
  gd (hc G19 x0 = 10) <|
  bd (sR G19 x0 12 q18) fun G21 =>
  bd (hn G21) fun q22 =>
  bd (nC G21 11 (16 : Int32).toNatClampNeg (16 : Int32).toNatClampNeg) fun G23 =>
  mV G23 <|
  gd (hc G23 x0 = 10) <|
  bd (sR G23 x0 13 q22) fun G25 =>
  bd (hn G25) fun q26 =>
  bd (nC G25 11 (16 : Int32).toNatClampNeg (16 : Int32).toNatClampNeg) fun G27 =>
  mV G27 <|
  gd (hc G27 x0 = 10) <|
  bd (sR G27 x0 14 q26) fun G29 =>
  bd (hn G29) fun q30 =>
  bd (nC G29 11 (6400 : Int32).toNatClampNeg (6400 : Int32).toNatClampNeg) fun G31 =>
  mV G31 <|
  gd (hc G31 x0 = 10) <|
  bd (sR G31 x0 15 q30) fun G33 =>
  bd (hn G33) fun q34 =>
  bd (nC G33 11 (16 : Int32).toNatClampNeg (16 : Int32).toNatClampNeg) fun G35 =>
  mV G35 <|
  gd (hc G35 x0 = 10) <|
  bd (sR G35 x0 16 q34) fun G37 =>
  bd (hn G37) fun q38 =>
  bd (nC G37 11 (16 : Int32).toNatClampNeg (16 : Int32).toNatClampNeg) fun G39 =>
  mV G39 <|
  gd (hc G39 x0 = 10) <|
  bd (sR G39 x0 17 q38) fun G41 =>
  bd (hn G41) fun q42 =>
  bd (nC G41 11 (5120 : Int32).toNatClampNeg (5120 : Int32).toNatClampNeg) fun G43 =>
  mV G43 <|
  gd (hc G43 x0 = 10) <|
  bd (sR G43 x0 18 q42) fun G45 =>
  bd (hn G45) fun q46 =>
  bd (nC G45 11 (16 : Int32).toNatClampNeg (16 : Int32).toNatClampNeg) fun G47 =>
  mV G47 <|
  gd (hc G47 x0 = 10) <|
  bd (sR G47 x0 19 q46) fun G49 =>
  bd (hn G49) fun q50 =>
  bd (nC G49 11 (5120 : Int32).toNatClampNeg (5120 : Int32).toNatClampNeg) fun G51 =>
  mV G51 <|
  gd (hc G51 x0 = 10) <|
  bd (sR G51 x0 20 q50) fun G53 =>
  gd (hc G53 x0 = 10) <|
  bd (sI G53 x0 21 1) fun G55 =>
  bd (hn G55) fun q56 =>
  bd (nC G55 11 (260 : Int32).toNatClampNeg (260 : Int32).toNatClampNeg) fun G57 =>
  mV G57 <|
  gd (hc G57 x0 = 10) <|
  bd (sR G57 x0 22 q56) fun G59 =>
  bd (hn G59) fun q60 =>
  bd (nC G59 11 (260 : Int32).toNatClampNeg (260 : Int32).toNatClampNeg) fun G61 =>
  mV G61 <|
  gd (hc G61 x0 = 10) <|
  bd (sR G61 x0 23 q60) fun G63 =>
  bd (hn G63) fun q64 =>
  bd (nC G63 11 (260 : Int32).toNatClampNeg (260 : Int32).toNatClampNeg) fun G65 =>
  mV G65 <|
  gd (hc G65 x0 = 10) <|
  bd (sR G65 x0 24 q64) fun G67 =>
  bd (hn G67) fun q68 =>
  bd (nC G67 11 (400 : Int32).toNatClampNeg (400 : Int32).toNatClampNeg) fun G69 =>
  mV G69 <|
  gd (hc G69 x0 = 10) <|
  bd (sR G69 x0 25 q68) fun G71 =>
  bd (hn G71) fun q72 =>
  bd (nC G71 11 (40 : Int32).toNatClampNeg (40 : Int32).toNatClampNeg) fun G73 =>
  mV G73 <|
  gd (hc G73 x0 = 10) <|
  bd (sR G73 x0 26 q72) fun G75 =>
  bd (hn G75) fun q76 =>
  bd (nC G75 11 (40 : Int32).toNatClampNeg (40 : Int32).toNatClampNeg) fun G77 =>
  mV G77 <|
  gd (hc G77 x0 = 10) <|
  bd (sR G77 x0 27 q76) fun G79 =>
  bd (hn G79) fun q80 =>
  bd (nC G79 11 (320 : Int32).toNatClampNeg (320 : Int32).toNatClampNeg) fun G81 =>
  mV G81 <|
  gd (hc G81 x0 = 10) <|
  bd (sR G81 x0 28 q80) fun G83 =>
  bd (hn G83) fun q84 =>
  bd (nC G83 11 (5440 : Int32).toNatClampNeg (5440 : Int32).toNatClampNeg) fun G85 =>
  mV G85 <|
  gd (hc G85 x0 = 10) <|
  bd (sR G85 x0 29 q84) fun G87 =>
  bd (hn G87) fun q88 =>
  bd (nC G87 11 (5120 : Int32).toNatClampNeg (5120 : Int32).toNatClampNeg) fun G89 =>
  mV G89 <|
  gd (hc G89 x0 = 10) <|
  bd (sR G89 x0 30 q88) fun G91 =>
  bd (hn G91) fun q92 =>
  bd (nC G91 11 (5120 : Int32).toNatClampNeg (5120 : Int32).toNatClampNeg) fun G93 =>
  mV G93 <|
  gd (hc G93 x0 = 10) <|
  bd (sR G93 x0 31 q92) fun G95 =>
  bd (hn G95) fun q96 =>
  bd (nC G95 11 (5120 : Int32).toNatClampNeg (5120 : Int32).toNatClampNeg) fun G97 =>
  mV G97 <|
  gd (hc G97 x0 = 10) <|
  bd (sR G97 x0 32 q96) fun G99 =>
  bd (hn G99) fun q100 =>
  bd (nC G99 11 (1360 : Int32).toNatClampNeg (1360 : Int32).toNatClampNeg) fun G101 =>
  mV G101 <|
  gd (hc G101 x0 = 10) <|
  bd (sR G101 x0 33 q100) fun G103 =>
  bd (hn G103) fun q104 =>
  bd (nC G103 11 (1360 : Int32).toNatClampNeg (1360 : Int32).toNatClampNeg) fun G105 =>
  mV G105 <|
  gd (hc G105 x0 = 10) <|
  bd (sR G105 x0 34 q104) fun G107 =>
  bd (hn G107) fun q108 =>
  bd (nC G107 11 (1360 : Int32).toNatClampNeg (1360 : Int32).toNatClampNeg) fun G109 =>
  mV G109 <|
  gd (hc G109 x0 = 10) <|
  bd (sR G109 x0 35 q108) fun G111 =>
  bd (hn G111) fun q112 =>
  bd (nC G111 11 (80 : Int32).toNatClampNeg (80 : Int32).toNatClampNeg) fun G113 =>
  mV G113 <|
  gd (hc G113 x0 = 10) <|
  bd (sR G113 x0 36 q112) fun G115 =>
  bd (hn G115) fun q116 =>
  bd (nC G115 11 (1280 : Int32).toNatClampNeg (1280 : Int32).toNatClampNeg) fun G117 =>
  mV G117 <|
  gd (hc G117 x0 = 10) <|
  bd (sR G117 x0 37 q116) fun G119 =>
  bd (hn G119) fun q120 =>
  bd (nC G119 11 (1280 : Int32).toNatClampNeg (1280 : Int32).toNatClampNeg) fun G121 =>
  mV G121 <|
  gd (hc G121 x0 = 10) <|
  bd (sR G121 x0 38 q120) fun G123 =>
  bd (hn G123) fun q124 =>
  bd (nC G123 11 (1280 : Int32).toNatClampNeg (1280 : Int32).toNatClampNeg) fun G125 =>
  mV G125 <|
  gd (hc G125 x0 = 10) <|
  bd (sR G125 x0 39 q124) fun G127 =>
  if 1 ≤ x1 then
    if x1 ≤ 10 then
      gd (hc G127 x0 = 10) <|
      bd (sI G127 x0 1 x1) fun G131 =>
      d_X9_init_302 FU x0 0 G131
    else
      gd (hc G127 x0 = 10) <|
      bd (sI G127 x0 1 10) fun G133 =>
      d_X9_init_302 FU x0 0 G133
  else
    gd (hc G127 x0 = 10) <|
    bd (sI G127 x0 1 1) fun G135 =>
    d_X9_init_302 FU x0 0 G135
section
variable {p : Program} {l : Launch} {e : Env} {s : State} {m : MethodId} {args : Array Value} {below : List Frame} {meth : Method} {c : Code} {b0 : Nat} {D : va_G} {E : Nat → ClassId}
set_option maxHeartbeats 4000000 in
set_option maxRecDepth 100000 in
theorem k_X9_init_416 (C : Cx p s m args meth c RX9 cX9_init 3 none b0 D E) (hnm : meth.name = "<init>") {GG : Hp} {n0 s0 : Nat} : ∀ (n_ : Nat) {x0 : Nat} {x2 : Int32} {G : Hp} {ls : Array Slot} {H : Heap} {locs : List Loc}, lx ls 3 [(0, .inr x0), (2, .inl x2)] → Rp b0 D E G H → SS b0 s H locs → b0 ≤ hn G → (n0 ≤ hn G ∧ s0 ≤ hs G) → d_X9_init_416 n_ x0 x2 G = some GG → W p l e (rmd 1 (hn GG - n0) (hs GG - s0)) s m args below meth c H locs (hn G - n0) (hs G - s0) (MQ below (CQ b0 D E none GG) args s (hn GG - n0) (hs GG - s0) (fun q => b0 ≤ q)) (F0 m 416 ls []) := by
  intro n_
  induction n_ with
  | zero =>
    intro x0 x2 G ls H locs hL hR hS hB hZ hd
    cases (show (none : Option _) = some _ from hd)
  | succ n_ ih =>
    intro x0 x2 G ls H locs hL hR hS hB hZ hd
    rw [d_X9_init_416.eq_2] at hd
    obtain ⟨hM, hd⟩ := mV_ex hd
    have hx := C.1
    have hb := C.2.1
    refine x_iload_n C dX9_init_416 hL 1 rfl ?_
    refine lv_sipush (v := 1280) hx hb dX9_init_417 (by decide) ?_
    refine lv_icmp_ge (tgt := 436) hx hb dX9_init_420 (by decide) (fun c1 => ?_) (fun c1 => ?_)
    · rw [if_pos c1] at hd
      cases hd
      exact r_vret C dX9_init_436 hR hS
    · rw [if_neg c1] at hd
      refine x_aload_n C dX9_init_423 hL 0 rfl ?_
      obtain ⟨g2, hd⟩ := gd_ex hd
      refine r_getr (ci := 9) (k := 39) C fl_X9_105 rfl dX9_init_424 hR g2 ?_
      refine x_iload_n C dX9_init_427 hL 1 rfl ?_
      refine lv_iconst (v := (-1)) hx hb dX9_init_428 (by decide) ?_
      obtain ⟨g3, hd⟩ := gd_ex hd
      obtain ⟨G4, eG4, hd⟩ := bd_ex hd
      refine r_iast C dX9_init_429 hR hS g3 (fun H locs hR hS => ?_)
      replace hR : Rp b0 D E G4 H := by rw [eG4]; exact hR
      refine W_cs (c2 := hn G4 - n0) (s2 := hs G4 - s0) (by rw [eG4] <;> rfl) (by rw [eG4] <;> rfl) ?_
      replace hB : b0 ≤ hn G4 := by rw [eG4]; exact hB
      replace hZ : n0 ≤ hn G4 ∧ s0 ≤ hs G4 := by rw [eG4]; exact hZ
      replace hM : hn G4 ≤ hn GG ∧ hs G4 ≤ hs GG := by rw [eG4]; exact hM
      refine x_iinc (lv' := [(2, .inl ((x2 + 1))), (0, .inr x0)]) C dX9_init_430 hL 1 rfl rfl (by decide) rfl (fun ls hL => ?_)
      refine lv_goto (tgt := 416) hx hb dX9_init_433 (by decide) ?_
      exact ih (lx_sub hL [1, 0] rfl) hR hS hB hZ hd
set_option maxHeartbeats 4000000 in
set_option maxRecDepth 100000 in
theorem k_X9_init_387 (C : Cx p s m args meth c RX9 cX9_init 3 none b0 D E) (hnm : meth.name = "<init>") {GG : Hp} {n0 s0 : Nat} : ∀ (n_ : Nat) {x0 : Nat} {x2 : Int32} {G : Hp} {ls : Array Slot} {H : Heap} {locs : List Loc}, lx ls 3 [(0, .inr x0), (2, .inl x2)] → Rp b0 D E G H → SS b0 s H locs → b0 ≤ hn G → (n0 ≤ hn G ∧ s0 ≤ hs G) → d_X9_init_387 n_ x0 x2 G = some GG → W p l e (rmd 1 (hn GG - n0) (hs GG - s0)) s m args below meth c H locs (hn G - n0) (hs G - s0) (MQ below (CQ b0 D E none GG) args s (hn GG - n0) (hs GG - s0) (fun q => b0 ≤ q)) (F0 m 387 ls []) := by
  intro n_
  induction n_ with
  | zero =>
    intro x0 x2 G ls H locs hL hR hS hB hZ hd
    cases (show (none : Option _) = some _ from hd)
  | succ n_ ih =>
    intro x0 x2 G ls H locs hL hR hS hB hZ hd
    rw [d_X9_init_387.eq_2] at hd
    obtain ⟨hM, hd⟩ := mV_ex hd
    have hx := C.1
    have hb := C.2.1
    refine x_iload_n C dX9_init_387 hL 1 rfl ?_
    refine lv_sipush (v := 1360) hx hb dX9_init_388 (by decide) ?_
    refine lv_icmp_ge (tgt := 414) hx hb dX9_init_391 (by decide) (fun c1 => ?_) (fun c1 => ?_)
    · rw [if_pos c1] at hd
      refine lv_iconst (v := 0) hx hb dX9_init_414 (by decide) ?_
      refine x_istore_n (lv' := [(2, .inl 0), (0, .inr x0)]) C dX9_init_415 hL (by decide) rfl (fun ls hL => ?_)
      exact k_X9_init_416 C hnm FU (lx_sub hL [1, 0] rfl) hR hS hB hZ hd
    · rw [if_neg c1] at hd
      refine x_aload_n C dX9_init_394 hL 0 rfl ?_
      obtain ⟨g2, hd⟩ := gd_ex hd
      refine r_getr (ci := 9) (k := 33) C fl_X9_87 rfl dX9_init_395 hR g2 ?_
      refine x_iload_n C dX9_init_398 hL 1 rfl ?_
      refine lv_iconst (v := (-1)) hx hb dX9_init_399 (by decide) ?_
      obtain ⟨g3, hd⟩ := gd_ex hd
      obtain ⟨G4, eG4, hd⟩ := bd_ex hd
      refine r_iast C dX9_init_400 hR hS g3 (fun H locs hR hS => ?_)
      replace hR : Rp b0 D E G4 H := by rw [eG4]; exact hR
      refine W_cs (c2 := hn G4 - n0) (s2 := hs G4 - s0) (by rw [eG4] <;> rfl) (by rw [eG4] <;> rfl) ?_
      replace hB : b0 ≤ hn G4 := by rw [eG4]; exact hB
      replace hZ : n0 ≤ hn G4 ∧ s0 ≤ hs G4 := by rw [eG4]; exact hZ
      replace hM : hn G4 ≤ hn GG ∧ hs G4 ≤ hs GG := by rw [eG4]; exact hM
      refine x_aload_n C dX9_init_401 hL 0 rfl ?_
      obtain ⟨g5, hd⟩ := gd_ex hd
      refine r_getr (ci := 9) (k := 34) C fl_X9_90 rfl dX9_init_402 hR g5 ?_
      refine x_iload_n C dX9_init_405 hL 1 rfl ?_
      refine lv_iconst (v := (-1)) hx hb dX9_init_406 (by decide) ?_
      obtain ⟨g6, hd⟩ := gd_ex hd
      obtain ⟨G7, eG7, hd⟩ := bd_ex hd
      refine r_iast C dX9_init_407 hR hS g6 (fun H locs hR hS => ?_)
      replace hR : Rp b0 D E G7 H := by rw [eG7]; exact hR
      refine W_cs (c2 := hn G7 - n0) (s2 := hs G7 - s0) (by rw [eG7] <;> rfl) (by rw [eG7] <;> rfl) ?_
      replace hB : b0 ≤ hn G7 := by rw [eG7]; exact hB
      replace hZ : n0 ≤ hn G7 ∧ s0 ≤ hs G7 := by rw [eG7]; exact hZ
      replace hM : hn G7 ≤ hn GG ∧ hs G7 ≤ hs GG := by rw [eG7]; exact hM
      refine x_iinc (lv' := [(2, .inl ((x2 + 1))), (0, .inr x0)]) C dX9_init_408 hL 1 rfl rfl (by decide) rfl (fun ls hL => ?_)
      refine lv_goto (tgt := 387) hx hb dX9_init_411 (by decide) ?_
      exact ih (lx_sub hL [1, 0] rfl) hR hS hB hZ hd
set_option maxHeartbeats 4000000 in
set_option maxRecDepth 100000 in
theorem k_X9_init_358 (C : Cx p s m args meth c RX9 cX9_init 3 none b0 D E) (hnm : meth.name = "<init>") {GG : Hp} {n0 s0 : Nat} : ∀ (n_ : Nat) {x0 : Nat} {x2 : Int32} {G : Hp} {ls : Array Slot} {H : Heap} {locs : List Loc}, lx ls 3 [(0, .inr x0), (2, .inl x2)] → Rp b0 D E G H → SS b0 s H locs → b0 ≤ hn G → (n0 ≤ hn G ∧ s0 ≤ hs G) → d_X9_init_358 n_ x0 x2 G = some GG → W p l e (rmd 1 (hn GG - n0) (hs GG - s0)) s m args below meth c H locs (hn G - n0) (hs G - s0) (MQ below (CQ b0 D E none GG) args s (hn GG - n0) (hs GG - s0) (fun q => b0 ≤ q)) (F0 m 358 ls []) := by
  intro n_
  induction n_ with
  | zero =>
    intro x0 x2 G ls H locs hL hR hS hB hZ hd
    cases (show (none : Option _) = some _ from hd)
  | succ n_ ih =>
    intro x0 x2 G ls H locs hL hR hS hB hZ hd
    rw [d_X9_init_358.eq_2] at hd
    obtain ⟨hM, hd⟩ := mV_ex hd
    have hx := C.1
    have hb := C.2.1
    refine x_iload_n C dX9_init_358 hL 1 rfl ?_
    refine lv_sipush (v := 5120) hx hb dX9_init_359 (by decide) ?_
    refine lv_icmp_ge (tgt := 385) hx hb dX9_init_362 (by decide) (fun c1 => ?_) (fun c1 => ?_)
    · rw [if_pos c1] at hd
      refine lv_iconst (v := 0) hx hb dX9_init_385 (by decide) ?_
      refine x_istore_n (lv' := [(2, .inl 0), (0, .inr x0)]) C dX9_init_386 hL (by decide) rfl (fun ls hL => ?_)
      exact k_X9_init_387 C hnm FU (lx_sub hL [1, 0] rfl) hR hS hB hZ hd
    · rw [if_neg c1] at hd
      refine x_aload_n C dX9_init_365 hL 0 rfl ?_
      obtain ⟨g2, hd⟩ := gd_ex hd
      refine r_getr (ci := 9) (k := 30) C fl_X9_78 rfl dX9_init_366 hR g2 ?_
      refine x_iload_n C dX9_init_369 hL 1 rfl ?_
      refine lv_iconst (v := (-1)) hx hb dX9_init_370 (by decide) ?_
      obtain ⟨g3, hd⟩ := gd_ex hd
      obtain ⟨G4, eG4, hd⟩ := bd_ex hd
      refine r_iast C dX9_init_371 hR hS g3 (fun H locs hR hS => ?_)
      replace hR : Rp b0 D E G4 H := by rw [eG4]; exact hR
      refine W_cs (c2 := hn G4 - n0) (s2 := hs G4 - s0) (by rw [eG4] <;> rfl) (by rw [eG4] <;> rfl) ?_
      replace hB : b0 ≤ hn G4 := by rw [eG4]; exact hB
      replace hZ : n0 ≤ hn G4 ∧ s0 ≤ hs G4 := by rw [eG4]; exact hZ
      replace hM : hn G4 ≤ hn GG ∧ hs G4 ≤ hs GG := by rw [eG4]; exact hM
      refine x_aload_n C dX9_init_372 hL 0 rfl ?_
      obtain ⟨g5, hd⟩ := gd_ex hd
      refine r_getr (ci := 9) (k := 31) C fl_X9_81 rfl dX9_init_373 hR g5 ?_
      refine x_iload_n C dX9_init_376 hL 1 rfl ?_
      refine lv_iconst (v := (-1)) hx hb dX9_init_377 (by decide) ?_
      obtain ⟨g6, hd⟩ := gd_ex hd
      obtain ⟨G7, eG7, hd⟩ := bd_ex hd
      refine r_iast C dX9_init_378 hR hS g6 (fun H locs hR hS => ?_)
      replace hR : Rp b0 D E G7 H := by rw [eG7]; exact hR
      refine W_cs (c2 := hn G7 - n0) (s2 := hs G7 - s0) (by rw [eG7] <;> rfl) (by rw [eG7] <;> rfl) ?_
      replace hB : b0 ≤ hn G7 := by rw [eG7]; exact hB
      replace hZ : n0 ≤ hn G7 ∧ s0 ≤ hs G7 := by rw [eG7]; exact hZ
      replace hM : hn G7 ≤ hn GG ∧ hs G7 ≤ hs GG := by rw [eG7]; exact hM
      refine x_iinc (lv' := [(2, .inl ((x2 + 1))), (0, .inr x0)]) C dX9_init_379 hL 1 rfl rfl (by decide) rfl (fun ls hL => ?_)
      refine lv_goto (tgt := 358) hx hb dX9_init_382 (by decide) ?_
      exact ih (lx_sub hL [1, 0] rfl) hR hS hB hZ hd
set_option maxHeartbeats 4000000 in
set_option maxRecDepth 100000 in
theorem k_X9_init_337 (C : Cx p s m args meth c RX9 cX9_init 3 none b0 D E) (hnm : meth.name = "<init>") {GG : Hp} {n0 s0 : Nat} : ∀ (n_ : Nat) {x0 : Nat} {x2 : Int32} {G : Hp} {ls : Array Slot} {H : Heap} {locs : List Loc}, lx ls 3 [(0, .inr x0), (2, .inl x2)] → Rp b0 D E G H → SS b0 s H locs → b0 ≤ hn G → (n0 ≤ hn G ∧ s0 ≤ hs G) → d_X9_init_337 n_ x0 x2 G = some GG → W p l e (rmd 1 (hn GG - n0) (hs GG - s0)) s m args below meth c H locs (hn G - n0) (hs G - s0) (MQ below (CQ b0 D E none GG) args s (hn GG - n0) (hs GG - s0) (fun q => b0 ≤ q)) (F0 m 337 ls []) := by
  intro n_
  induction n_ with
  | zero =>
    intro x0 x2 G ls H locs hL hR hS hB hZ hd
    cases (show (none : Option _) = some _ from hd)
  | succ n_ ih =>
    intro x0 x2 G ls H locs hL hR hS hB hZ hd
    rw [d_X9_init_337.eq_2] at hd
    obtain ⟨hM, hd⟩ := mV_ex hd
    have hx := C.1
    have hb := C.2.1
    refine x_iload_n C dX9_init_337 hL 1 rfl ?_
    refine lv_bipush (v := 16) hx hb dX9_init_338 (by decide) ?_
    refine lv_icmp_ge (tgt := 356) hx hb dX9_init_340 (by decide) (fun c1 => ?_) (fun c1 => ?_)
    · rw [if_pos c1] at hd
      refine lv_iconst (v := 0) hx hb dX9_init_356 (by decide) ?_
      refine x_istore_n (lv' := [(2, .inl 0), (0, .inr x0)]) C dX9_init_357 hL (by decide) rfl (fun ls hL => ?_)
      exact k_X9_init_358 C hnm FU (lx_sub hL [1, 0] rfl) hR hS hB hZ hd
    · rw [if_neg c1] at hd
      refine x_aload_n C dX9_init_343 hL 0 rfl ?_
      obtain ⟨g2, hd⟩ := gd_ex hd
      refine r_getr (ci := 9) (k := 11) C fl_X9_20 rfl dX9_init_344 hR g2 ?_
      refine x_iload_n C dX9_init_347 hL 1 rfl ?_
      refine lv_iconst (v := (-1)) hx hb dX9_init_348 (by decide) ?_
      obtain ⟨g3, hd⟩ := gd_ex hd
      obtain ⟨G4, eG4, hd⟩ := bd_ex hd
      refine r_iast C dX9_init_349 hR hS g3 (fun H locs hR hS => ?_)
      replace hR : Rp b0 D E G4 H := by rw [eG4]; exact hR
      refine W_cs (c2 := hn G4 - n0) (s2 := hs G4 - s0) (by rw [eG4] <;> rfl) (by rw [eG4] <;> rfl) ?_
      replace hB : b0 ≤ hn G4 := by rw [eG4]; exact hB
      replace hZ : n0 ≤ hn G4 ∧ s0 ≤ hs G4 := by rw [eG4]; exact hZ
      replace hM : hn G4 ≤ hn GG ∧ hs G4 ≤ hs GG := by rw [eG4]; exact hM
      refine x_iinc (lv' := [(2, .inl ((x2 + 1))), (0, .inr x0)]) C dX9_init_350 hL 1 rfl rfl (by decide) rfl (fun ls hL => ?_)
      refine lv_goto (tgt := 337) hx hb dX9_init_353 (by decide) ?_
      exact ih (lx_sub hL [1, 0] rfl) hR hS hB hZ hd
set_option maxHeartbeats 4000000 in
set_option maxRecDepth 100000 in
theorem k_X9_init_302 (C : Cx p s m args meth c RX9 cX9_init 3 none b0 D E) (hnm : meth.name = "<init>") {GG : Hp} {n0 s0 : Nat} : ∀ (n_ : Nat) {x0 : Nat} {x2 : Int32} {G : Hp} {ls : Array Slot} {H : Heap} {locs : List Loc}, lx ls 3 [(0, .inr x0), (2, .inl x2)] → Rp b0 D E G H → SS b0 s H locs → b0 ≤ hn G → (n0 ≤ hn G ∧ s0 ≤ hs G) → d_X9_init_302 n_ x0 x2 G = some GG → W p l e (rmd 1 (hn GG - n0) (hs GG - s0)) s m args below meth c H locs (hn G - n0) (hs G - s0) (MQ below (CQ b0 D E none GG) args s (hn GG - n0) (hs GG - s0) (fun q => b0 ≤ q)) (F0 m 302 ls []) := by
  intro n_
  induction n_ with
  | zero =>
    intro x0 x2 G ls H locs hL hR hS hB hZ hd
    cases (show (none : Option _) = some _ from hd)
  | succ n_ ih =>
    intro x0 x2 G ls H locs hL hR hS hB hZ hd
    rw [d_X9_init_302.eq_2] at hd
    obtain ⟨hM, hd⟩ := mV_ex hd
    have hx := C.1
    have hb := C.2.1
    refine x_iload_n C dX9_init_302 hL 1 rfl ?_
    refine lv_bipush (v := 40) hx hb dX9_init_303 (by decide) ?_
    refine lv_icmp_ge (tgt := 335) hx hb dX9_init_305 (by decide) (fun c1 => ?_) (fun c1 => ?_)
    · rw [if_pos c1] at hd
      refine lv_iconst (v := 0) hx hb dX9_init_335 (by decide) ?_
      refine x_istore_n (lv' := [(2, .inl 0), (0, .inr x0)]) C dX9_init_336 hL (by decide) rfl (fun ls hL => ?_)
      exact k_X9_init_337 C hnm FU (lx_sub hL [1, 0] rfl) hR hS hB hZ hd
    · rw [if_neg c1] at hd
      refine x_aload_n C dX9_init_308 hL 0 rfl ?_
      obtain ⟨g2, hd⟩ := gd_ex hd
      refine r_getr (ci := 9) (k := 8) C fl_X9_7 rfl dX9_init_309 hR g2 ?_
      refine x_iload_n C dX9_init_312 hL 1 rfl ?_
      refine lv_iconst (v := (-1)) hx hb dX9_init_313 (by decide) ?_
      obtain ⟨g3, hd⟩ := gd_ex hd
      obtain ⟨G4, eG4, hd⟩ := bd_ex hd
      refine r_iast C dX9_init_314 hR hS g3 (fun H locs hR hS => ?_)
      replace hR : Rp b0 D E G4 H := by rw [eG4]; exact hR
      refine W_cs (c2 := hn G4 - n0) (s2 := hs G4 - s0) (by rw [eG4] <;> rfl) (by rw [eG4] <;> rfl) ?_
      replace hB : b0 ≤ hn G4 := by rw [eG4]; exact hB
      replace hZ : n0 ≤ hn G4 ∧ s0 ≤ hs G4 := by rw [eG4]; exact hZ
      replace hM : hn G4 ≤ hn GG ∧ hs G4 ≤ hs GG := by rw [eG4]; exact hM
      refine x_aload_n C dX9_init_315 hL 0 rfl ?_
      obtain ⟨g5, hd⟩ := gd_ex hd
      refine r_getr (ci := 9) (k := 26) C fl_X9_66 rfl dX9_init_316 hR g5 ?_
      refine x_iload_n C dX9_init_319 hL 1 rfl ?_
      refine lv_iconst (v := (-1)) hx hb dX9_init_320 (by decide) ?_
      obtain ⟨g6, hd⟩ := gd_ex hd
      obtain ⟨G7, eG7, hd⟩ := bd_ex hd
      refine r_iast C dX9_init_321 hR hS g6 (fun H locs hR hS => ?_)
      replace hR : Rp b0 D E G7 H := by rw [eG7]; exact hR
      refine W_cs (c2 := hn G7 - n0) (s2 := hs G7 - s0) (by rw [eG7] <;> rfl) (by rw [eG7] <;> rfl) ?_
      replace hB : b0 ≤ hn G7 := by rw [eG7]; exact hB
      replace hZ : n0 ≤ hn G7 ∧ s0 ≤ hs G7 := by rw [eG7]; exact hZ
      replace hM : hn G7 ≤ hn GG ∧ hs G7 ≤ hs GG := by rw [eG7]; exact hM
      refine x_aload_n C dX9_init_322 hL 0 rfl ?_
      obtain ⟨g8, hd⟩ := gd_ex hd
      refine r_getr (ci := 9) (k := 27) C fl_X9_69 rfl dX9_init_323 hR g8 ?_
      refine x_iload_n C dX9_init_326 hL 1 rfl ?_
      refine lv_iconst (v := (-1)) hx hb dX9_init_327 (by decide) ?_
      obtain ⟨g9, hd⟩ := gd_ex hd
      obtain ⟨G10, eG10, hd⟩ := bd_ex hd
      refine r_iast C dX9_init_328 hR hS g9 (fun H locs hR hS => ?_)
      replace hR : Rp b0 D E G10 H := by rw [eG10]; exact hR
      refine W_cs (c2 := hn G10 - n0) (s2 := hs G10 - s0) (by rw [eG10] <;> rfl) (by rw [eG10] <;> rfl) ?_
      replace hB : b0 ≤ hn G10 := by rw [eG10]; exact hB
      replace hZ : n0 ≤ hn G10 ∧ s0 ≤ hs G10 := by rw [eG10]; exact hZ
      replace hM : hn G10 ≤ hn GG ∧ hs G10 ≤ hs GG := by rw [eG10]; exact hM
      refine x_iinc (lv' := [(2, .inl ((x2 + 1))), (0, .inr x0)]) C dX9_init_329 hL 1 rfl rfl (by decide) rfl (fun ls hL => ?_)
      refine lv_goto (tgt := 302) hx hb dX9_init_332 (by decide) ?_
      exact ih (lx_sub hL [1, 0] rfl) hR hS hB hZ hd
set_option maxHeartbeats 4000000 in
set_option maxRecDepth 100000 in
theorem k_X9_init (C : Cx p s m args meth c RX9 cX9_init 3 none b0 D E) (hnm : meth.name = "<init>") {GG : Hp} {n0 s0 : Nat} {x0 : Nat} {x1 : Int32} {G : Hp} {ls : Array Slot} {H : Heap} {locs : List Loc} : lx ls 3 [(0, .inr x0), (1, .inl x1)] → Rp b0 D E G H → SS b0 s H locs → b0 ≤ hn G → (n0 ≤ hn G ∧ s0 ≤ hs G) → d_X9_init x0 x1 G = some GG → W p l e (rmd 1 (hn GG - n0) (hs GG - s0)) s m args below meth c H locs (hn G - n0) (hs G - s0) (MQ below (CQ b0 D E none GG) args s (hn GG - n0) (hs GG - s0) (fun q => b0 ≤ q)) (F0 m 0 ls []) := by
  intro hL hR hS hB hZ hd
  unfold d_X9_init at hd
  obtain ⟨hM, hd⟩ := mV_ex hd
  have hx := C.1
  have hb := C.2.1
  refine x_aload_n C dX9_init_0 hL 0 rfl ?_
  obtain ⟨g1, hd⟩ := gd_ex hd
  refine r_objI (a := x0) C ml_X9_1 dX9_init_1 (lx_size hL) hR (by rw [g1]; decide) ⟨Nat.le_of_ble_eq_true rfl, Nat.le_of_ble_eq_true rfl⟩ (cat_le [] (Nat.le_of_ble_eq_true rfl)) ?_
  refine x_aload_n C dX9_init_4 hL 0 rfl ?_
  refine lv_bipush (v := 40) hx hb dX9_init_5 (by decide) ?_
  obtain ⟨q2, eq2, hd⟩ := bd_ex hd
  obtain ⟨G3, eG3, hd⟩ := bd_ex hd
  obtain ⟨hM, hd⟩ := mV_ex hd
  have hm1 : hn G3 = hn G + 1 ∧ hs G3 = hs G + (40 : Int32).toNatClampNeg := by rw [eG3]; exact ⟨rfl, rfl⟩
  refine r_newa (t := 11) C (Or.inl ⟨rfl, rfl⟩) dX9_init_7 hR hS hB hZ (by decide) ⟨by show hn G + 1 - n0 ≤ hn GG - n0; omega, by show hs G + (40 : Int32).toNatClampNeg - s0 ≤ hs GG - s0; omega⟩ (fun H locs hR hS => ?_)
  rw [← eq2]
  refine W_cs (c2 := hn G3 - n0) (s2 := hs G3 - s0) (by rw [eG3] <;> rfl) (by rw [eG3] <;> rfl) ?_
  replace hR : Rp b0 D E G3 H := by rw [eG3]; exact hR
  replace hB : b0 ≤ hn G3 := by omega
  replace hZ : n0 ≤ hn G3 ∧ s0 ≤ hs G3 := by omega
  obtain ⟨g4, hd⟩ := gd_ex hd
  obtain ⟨G5, eG5, hd⟩ := bd_ex hd
  refine r_putr (ci := 9) (k := 8) C fl_X9_7 (Or.inr ⟨_, rfl⟩) (Or.inr ⟨rfl, hnm, rfl⟩) dX9_init_9 hR hS g4 (fun H locs hR hS => ?_)
  replace hR : Rp b0 D E G5 H := by rw [eG5]; exact hR
  refine W_cs (c2 := hn G5 - n0) (s2 := hs G5 - s0) (by rw [eG5] <;> rfl) (by rw [eG5] <;> rfl) ?_
  replace hB : b0 ≤ hn G5 := by rw [eG5]; exact hB
  replace hZ : n0 ≤ hn G5 ∧ s0 ≤ hs G5 := by rw [eG5]; exact hZ
  replace hM : hn G5 ≤ hn GG ∧ hs G5 ≤ hs GG := by rw [eG5]; exact hM
  refine x_aload_n C dX9_init_12 hL 0 rfl ?_
  refine lv_bipush (v := 40) hx hb dX9_init_13 (by decide) ?_
  obtain ⟨q6, eq6, hd⟩ := bd_ex hd
  obtain ⟨G7, eG7, hd⟩ := bd_ex hd
  obtain ⟨hM, hd⟩ := mV_ex hd
  have hm1 : hn G7 = hn G5 + 1 ∧ hs G7 = hs G5 + (40 : Int32).toNatClampNeg := by rw [eG7]; exact ⟨rfl, rfl⟩
  refine r_newa (t := 11) C (Or.inl ⟨rfl, rfl⟩) dX9_init_15 hR hS hB hZ (by decide) ⟨by show hn G5 + 1 - n0 ≤ hn GG - n0; omega, by show hs G5 + (40 : Int32).toNatClampNeg - s0 ≤ hs GG - s0; omega⟩ (fun H locs hR hS => ?_)
  rw [← eq6]
  refine W_cs (c2 := hn G7 - n0) (s2 := hs G7 - s0) (by rw [eG7] <;> rfl) (by rw [eG7] <;> rfl) ?_
  replace hR : Rp b0 D E G7 H := by rw [eG7]; exact hR
  replace hB : b0 ≤ hn G7 := by omega
  replace hZ : n0 ≤ hn G7 ∧ s0 ≤ hs G7 := by omega
  obtain ⟨g8, hd⟩ := gd_ex hd
  obtain ⟨G9, eG9, hd⟩ := bd_ex hd
  refine r_putr (ci := 9) (k := 9) C fl_X9_13 (Or.inr ⟨_, rfl⟩) (Or.inr ⟨rfl, hnm, rfl⟩) dX9_init_17 hR hS g8 (fun H locs hR hS => ?_)
  replace hR : Rp b0 D E G9 H := by rw [eG9]; exact hR
  refine W_cs (c2 := hn G9 - n0) (s2 := hs G9 - s0) (by rw [eG9] <;> rfl) (by rw [eG9] <;> rfl) ?_
  replace hB : b0 ≤ hn G9 := by rw [eG9]; exact hB
  replace hZ : n0 ≤ hn G9 ∧ s0 ≤ hs G9 := by rw [eG9]; exact hZ
  replace hM : hn G9 ≤ hn GG ∧ hs G9 ≤ hs GG := by rw [eG9]; exact hM
  refine x_aload_n C dX9_init_20 hL 0 rfl ?_
  refine lv_bipush (v := 16) hx hb dX9_init_21 (by decide) ?_
  obtain ⟨q10, eq10, hd⟩ := bd_ex hd
  obtain ⟨G11, eG11, hd⟩ := bd_ex hd
  obtain ⟨hM, hd⟩ := mV_ex hd
  have hm1 : hn G11 = hn G9 + 1 ∧ hs G11 = hs G9 + (16 : Int32).toNatClampNeg := by rw [eG11]; exact ⟨rfl, rfl⟩
  refine r_newa (t := 12) C (Or.inr ⟨rfl, rfl⟩) dX9_init_23 hR hS hB hZ (by decide) ⟨by show hn G9 + 1 - n0 ≤ hn GG - n0; omega, by show hs G9 + (16 : Int32).toNatClampNeg - s0 ≤ hs GG - s0; omega⟩ (fun H locs hR hS => ?_)
  rw [← eq10]
  refine W_cs (c2 := hn G11 - n0) (s2 := hs G11 - s0) (by rw [eG11] <;> rfl) (by rw [eG11] <;> rfl) ?_
  replace hR : Rp b0 D E G11 H := by rw [eG11]; exact hR
  replace hB : b0 ≤ hn G11 := by omega
  replace hZ : n0 ≤ hn G11 ∧ s0 ≤ hs G11 := by omega
  obtain ⟨g12, hd⟩ := gd_ex hd
  obtain ⟨G13, eG13, hd⟩ := bd_ex hd
  refine r_putr (ci := 9) (k := 10) C fl_X9_16 (Or.inr ⟨_, rfl⟩) (Or.inr ⟨rfl, hnm, rfl⟩) dX9_init_25 hR hS g12 (fun H locs hR hS => ?_)
  replace hR : Rp b0 D E G13 H := by rw [eG13]; exact hR
  refine W_cs (c2 := hn G13 - n0) (s2 := hs G13 - s0) (by rw [eG13] <;> rfl) (by rw [eG13] <;> rfl) ?_
  replace hB : b0 ≤ hn G13 := by rw [eG13]; exact hB
  replace hZ : n0 ≤ hn G13 ∧ s0 ≤ hs G13 := by rw [eG13]; exact hZ
  replace hM : hn G13 ≤ hn GG ∧ hs G13 ≤ hs GG := by rw [eG13]; exact hM
  refine x_aload_n C dX9_init_28 hL 0 rfl ?_
  refine lv_bipush (v := 16) hx hb dX9_init_29 (by decide) ?_
  obtain ⟨q14, eq14, hd⟩ := bd_ex hd
  obtain ⟨G15, eG15, hd⟩ := bd_ex hd
  obtain ⟨hM, hd⟩ := mV_ex hd
  have hm1 : hn G15 = hn G13 + 1 ∧ hs G15 = hs G13 + (16 : Int32).toNatClampNeg := by rw [eG15]; exact ⟨rfl, rfl⟩
  refine r_newa (t := 11) C (Or.inl ⟨rfl, rfl⟩) dX9_init_31 hR hS hB hZ (by decide) ⟨by show hn G13 + 1 - n0 ≤ hn GG - n0; omega, by show hs G13 + (16 : Int32).toNatClampNeg - s0 ≤ hs GG - s0; omega⟩ (fun H locs hR hS => ?_)
  rw [← eq14]
  refine W_cs (c2 := hn G15 - n0) (s2 := hs G15 - s0) (by rw [eG15] <;> rfl) (by rw [eG15] <;> rfl) ?_
  replace hR : Rp b0 D E G15 H := by rw [eG15]; exact hR
  replace hB : b0 ≤ hn G15 := by omega
  replace hZ : n0 ≤ hn G15 ∧ s0 ≤ hs G15 := by omega
  obtain ⟨g16, hd⟩ := gd_ex hd
  obtain ⟨G17, eG17, hd⟩ := bd_ex hd
  refine r_putr (ci := 9) (k := 11) C fl_X9_20 (Or.inr ⟨_, rfl⟩) (Or.inr ⟨rfl, hnm, rfl⟩) dX9_init_33 hR hS g16 (fun H locs hR hS => ?_)
  replace hR : Rp b0 D E G17 H := by rw [eG17]; exact hR
  refine W_cs (c2 := hn G17 - n0) (s2 := hs G17 - s0) (by rw [eG17] <;> rfl) (by rw [eG17] <;> rfl) ?_
  replace hB : b0 ≤ hn G17 := by rw [eG17]; exact hB
  replace hZ : n0 ≤ hn G17 ∧ s0 ≤ hs G17 := by rw [eG17]; exact hZ
  replace hM : hn G17 ≤ hn GG ∧ hs G17 ≤ hs GG := by rw [eG17]; exact hM
  refine x_aload_n C dX9_init_36 hL 0 rfl ?_
  refine lv_bipush (v := 8) hx hb dX9_init_37 (by decide) ?_
  obtain ⟨q18, eq18, hd⟩ := bd_ex hd
  obtain ⟨G19, eG19, hd⟩ := bd_ex hd
  obtain ⟨hM, hd⟩ := mV_ex hd
  have hm1 : hn G19 = hn G17 + 1 ∧ hs G19 = hs G17 + (8 : Int32).toNatClampNeg := by rw [eG19]; exact ⟨rfl, rfl⟩
  refine r_newa (t := 11) C (Or.inl ⟨rfl, rfl⟩) dX9_init_39 hR hS hB hZ (by decide) ⟨by show hn G17 + 1 - n0 ≤ hn GG - n0; omega, by show hs G17 + (8 : Int32).toNatClampNeg - s0 ≤ hs GG - s0; omega⟩ (fun H locs hR hS => ?_)
  rw [← eq18]
  refine W_cs (c2 := hn G19 - n0) (s2 := hs G19 - s0) (by rw [eG19] <;> rfl) (by rw [eG19] <;> rfl) ?_
  replace hR : Rp b0 D E G19 H := by rw [eG19]; exact hR
  replace hB : b0 ≤ hn G19 := by omega
  replace hZ : n0 ≤ hn G19 ∧ s0 ≤ hs G19 := by omega
  obtain ⟨g20, hd⟩ := gd_ex hd
  obtain ⟨G21, eG21, hd⟩ := bd_ex hd
  refine r_putr (ci := 9) (k := 12) C fl_X9_23 (Or.inr ⟨_, rfl⟩) (Or.inr ⟨rfl, hnm, rfl⟩) dX9_init_41 hR hS g20 (fun H locs hR hS => ?_)
  replace hR : Rp b0 D E G21 H := by rw [eG21]; exact hR
  refine W_cs (c2 := hn G21 - n0) (s2 := hs G21 - s0) (by rw [eG21] <;> rfl) (by rw [eG21] <;> rfl) ?_
  replace hB : b0 ≤ hn G21 := by rw [eG21]; exact hB
  replace hZ : n0 ≤ hn G21 ∧ s0 ≤ hs G21 := by rw [eG21]; exact hZ
  replace hM : hn G21 ≤ hn GG ∧ hs G21 ≤ hs GG := by rw [eG21]; exact hM
  refine x_aload_n C dX9_init_44 hL 0 rfl ?_
  refine lv_bipush (v := 16) hx hb dX9_init_45 (by decide) ?_
  obtain ⟨q22, eq22, hd⟩ := bd_ex hd
  obtain ⟨G23, eG23, hd⟩ := bd_ex hd
  obtain ⟨hM, hd⟩ := mV_ex hd
  have hm1 : hn G23 = hn G21 + 1 ∧ hs G23 = hs G21 + (16 : Int32).toNatClampNeg := by rw [eG23]; exact ⟨rfl, rfl⟩
  refine r_newa (t := 11) C (Or.inl ⟨rfl, rfl⟩) dX9_init_47 hR hS hB hZ (by decide) ⟨by show hn G21 + 1 - n0 ≤ hn GG - n0; omega, by show hs G21 + (16 : Int32).toNatClampNeg - s0 ≤ hs GG - s0; omega⟩ (fun H locs hR hS => ?_)
  rw [← eq22]
  refine W_cs (c2 := hn G23 - n0) (s2 := hs G23 - s0) (by rw [eG23] <;> rfl) (by rw [eG23] <;> rfl) ?_
  replace hR : Rp b0 D E G23 H := by rw [eG23]; exact hR
  replace hB : b0 ≤ hn G23 := by omega
  replace hZ : n0 ≤ hn G23 ∧ s0 ≤ hs G23 := by omega
  obtain ⟨g24, hd⟩ := gd_ex hd
  obtain ⟨G25, eG25, hd⟩ := bd_ex hd
  refine r_putr (ci := 9) (k := 13) C fl_X9_26 (Or.inr ⟨_, rfl⟩) (Or.inr ⟨rfl, hnm, rfl⟩) dX9_init_49 hR hS g24 (fun H locs hR hS => ?_)
  replace hR : Rp b0 D E G25 H := by rw [eG25]; exact hR
  refine W_cs (c2 := hn G25 - n0) (s2 := hs G25 - s0) (by rw [eG25] <;> rfl) (by rw [eG25] <;> rfl) ?_
  replace hB : b0 ≤ hn G25 := by rw [eG25]; exact hB
  replace hZ : n0 ≤ hn G25 ∧ s0 ≤ hs G25 := by rw [eG25]; exact hZ
  replace hM : hn G25 ≤ hn GG ∧ hs G25 ≤ hs GG := by rw [eG25]; exact hM
  refine x_aload_n C dX9_init_52 hL 0 rfl ?_
  refine lv_bipush (v := 16) hx hb dX9_init_53 (by decide) ?_
  obtain ⟨q26, eq26, hd⟩ := bd_ex hd
  obtain ⟨G27, eG27, hd⟩ := bd_ex hd
  obtain ⟨hM, hd⟩ := mV_ex hd
  have hm1 : hn G27 = hn G25 + 1 ∧ hs G27 = hs G25 + (16 : Int32).toNatClampNeg := by rw [eG27]; exact ⟨rfl, rfl⟩
  refine r_newa (t := 11) C (Or.inl ⟨rfl, rfl⟩) dX9_init_55 hR hS hB hZ (by decide) ⟨by show hn G25 + 1 - n0 ≤ hn GG - n0; omega, by show hs G25 + (16 : Int32).toNatClampNeg - s0 ≤ hs GG - s0; omega⟩ (fun H locs hR hS => ?_)
  rw [← eq26]
  refine W_cs (c2 := hn G27 - n0) (s2 := hs G27 - s0) (by rw [eG27] <;> rfl) (by rw [eG27] <;> rfl) ?_
  replace hR : Rp b0 D E G27 H := by rw [eG27]; exact hR
  replace hB : b0 ≤ hn G27 := by omega
  replace hZ : n0 ≤ hn G27 ∧ s0 ≤ hs G27 := by omega
  obtain ⟨g28, hd⟩ := gd_ex hd
  obtain ⟨G29, eG29, hd⟩ := bd_ex hd
  refine r_putr (ci := 9) (k := 14) C fl_X9_29 (Or.inr ⟨_, rfl⟩) (Or.inr ⟨rfl, hnm, rfl⟩) dX9_init_57 hR hS g28 (fun H locs hR hS => ?_)
  replace hR : Rp b0 D E G29 H := by rw [eG29]; exact hR
  refine W_cs (c2 := hn G29 - n0) (s2 := hs G29 - s0) (by rw [eG29] <;> rfl) (by rw [eG29] <;> rfl) ?_
  replace hB : b0 ≤ hn G29 := by rw [eG29]; exact hB
  replace hZ : n0 ≤ hn G29 ∧ s0 ≤ hs G29 := by rw [eG29]; exact hZ
  replace hM : hn G29 ≤ hn GG ∧ hs G29 ≤ hs GG := by rw [eG29]; exact hM
  refine x_aload_n C dX9_init_60 hL 0 rfl ?_
  refine lv_sipush (v := 6400) hx hb dX9_init_61 (by decide) ?_
  obtain ⟨q30, eq30, hd⟩ := bd_ex hd
  obtain ⟨G31, eG31, hd⟩ := bd_ex hd
  obtain ⟨hM, hd⟩ := mV_ex hd
  have hm1 : hn G31 = hn G29 + 1 ∧ hs G31 = hs G29 + (6400 : Int32).toNatClampNeg := by rw [eG31]; exact ⟨rfl, rfl⟩
  refine r_newa (t := 11) C (Or.inl ⟨rfl, rfl⟩) dX9_init_64 hR hS hB hZ (by decide) ⟨by show hn G29 + 1 - n0 ≤ hn GG - n0; omega, by show hs G29 + (6400 : Int32).toNatClampNeg - s0 ≤ hs GG - s0; omega⟩ (fun H locs hR hS => ?_)
  rw [← eq30]
  refine W_cs (c2 := hn G31 - n0) (s2 := hs G31 - s0) (by rw [eG31] <;> rfl) (by rw [eG31] <;> rfl) ?_
  replace hR : Rp b0 D E G31 H := by rw [eG31]; exact hR
  replace hB : b0 ≤ hn G31 := by omega
  replace hZ : n0 ≤ hn G31 ∧ s0 ≤ hs G31 := by omega
  obtain ⟨g32, hd⟩ := gd_ex hd
  obtain ⟨G33, eG33, hd⟩ := bd_ex hd
  refine r_putr (ci := 9) (k := 15) C fl_X9_32 (Or.inr ⟨_, rfl⟩) (Or.inr ⟨rfl, hnm, rfl⟩) dX9_init_66 hR hS g32 (fun H locs hR hS => ?_)
  replace hR : Rp b0 D E G33 H := by rw [eG33]; exact hR
  refine W_cs (c2 := hn G33 - n0) (s2 := hs G33 - s0) (by rw [eG33] <;> rfl) (by rw [eG33] <;> rfl) ?_
  replace hB : b0 ≤ hn G33 := by rw [eG33]; exact hB
  replace hZ : n0 ≤ hn G33 ∧ s0 ≤ hs G33 := by rw [eG33]; exact hZ
  replace hM : hn G33 ≤ hn GG ∧ hs G33 ≤ hs GG := by rw [eG33]; exact hM
  refine x_aload_n C dX9_init_69 hL 0 rfl ?_
  refine lv_bipush (v := 16) hx hb dX9_init_70 (by decide) ?_
  obtain ⟨q34, eq34, hd⟩ := bd_ex hd
  obtain ⟨G35, eG35, hd⟩ := bd_ex hd
  obtain ⟨hM, hd⟩ := mV_ex hd
  have hm1 : hn G35 = hn G33 + 1 ∧ hs G35 = hs G33 + (16 : Int32).toNatClampNeg := by rw [eG35]; exact ⟨rfl, rfl⟩
  refine r_newa (t := 11) C (Or.inl ⟨rfl, rfl⟩) dX9_init_72 hR hS hB hZ (by decide) ⟨by show hn G33 + 1 - n0 ≤ hn GG - n0; omega, by show hs G33 + (16 : Int32).toNatClampNeg - s0 ≤ hs GG - s0; omega⟩ (fun H locs hR hS => ?_)
  rw [← eq34]
  refine W_cs (c2 := hn G35 - n0) (s2 := hs G35 - s0) (by rw [eG35] <;> rfl) (by rw [eG35] <;> rfl) ?_
  replace hR : Rp b0 D E G35 H := by rw [eG35]; exact hR
  replace hB : b0 ≤ hn G35 := by omega
  replace hZ : n0 ≤ hn G35 ∧ s0 ≤ hs G35 := by omega
  obtain ⟨g36, hd⟩ := gd_ex hd
  obtain ⟨G37, eG37, hd⟩ := bd_ex hd
  refine r_putr (ci := 9) (k := 16) C fl_X9_35 (Or.inr ⟨_, rfl⟩) (Or.inr ⟨rfl, hnm, rfl⟩) dX9_init_74 hR hS g36 (fun H locs hR hS => ?_)
  replace hR : Rp b0 D E G37 H := by rw [eG37]; exact hR
  refine W_cs (c2 := hn G37 - n0) (s2 := hs G37 - s0) (by rw [eG37] <;> rfl) (by rw [eG37] <;> rfl) ?_
  replace hB : b0 ≤ hn G37 := by rw [eG37]; exact hB
  replace hZ : n0 ≤ hn G37 ∧ s0 ≤ hs G37 := by rw [eG37]; exact hZ
  replace hM : hn G37 ≤ hn GG ∧ hs G37 ≤ hs GG := by rw [eG37]; exact hM
  refine x_aload_n C dX9_init_77 hL 0 rfl ?_
  refine lv_bipush (v := 16) hx hb dX9_init_78 (by decide) ?_
  obtain ⟨q38, eq38, hd⟩ := bd_ex hd
  obtain ⟨G39, eG39, hd⟩ := bd_ex hd
  obtain ⟨hM, hd⟩ := mV_ex hd
  have hm1 : hn G39 = hn G37 + 1 ∧ hs G39 = hs G37 + (16 : Int32).toNatClampNeg := by rw [eG39]; exact ⟨rfl, rfl⟩
  refine r_newa (t := 11) C (Or.inl ⟨rfl, rfl⟩) dX9_init_80 hR hS hB hZ (by decide) ⟨by show hn G37 + 1 - n0 ≤ hn GG - n0; omega, by show hs G37 + (16 : Int32).toNatClampNeg - s0 ≤ hs GG - s0; omega⟩ (fun H locs hR hS => ?_)
  rw [← eq38]
  refine W_cs (c2 := hn G39 - n0) (s2 := hs G39 - s0) (by rw [eG39] <;> rfl) (by rw [eG39] <;> rfl) ?_
  replace hR : Rp b0 D E G39 H := by rw [eG39]; exact hR
  replace hB : b0 ≤ hn G39 := by omega
  replace hZ : n0 ≤ hn G39 ∧ s0 ≤ hs G39 := by omega
  obtain ⟨g40, hd⟩ := gd_ex hd
  obtain ⟨G41, eG41, hd⟩ := bd_ex hd
  refine r_putr (ci := 9) (k := 17) C fl_X9_38 (Or.inr ⟨_, rfl⟩) (Or.inr ⟨rfl, hnm, rfl⟩) dX9_init_82 hR hS g40 (fun H locs hR hS => ?_)
  replace hR : Rp b0 D E G41 H := by rw [eG41]; exact hR
  refine W_cs (c2 := hn G41 - n0) (s2 := hs G41 - s0) (by rw [eG41] <;> rfl) (by rw [eG41] <;> rfl) ?_
  replace hB : b0 ≤ hn G41 := by rw [eG41]; exact hB
  replace hZ : n0 ≤ hn G41 ∧ s0 ≤ hs G41 := by rw [eG41]; exact hZ
  replace hM : hn G41 ≤ hn GG ∧ hs G41 ≤ hs GG := by rw [eG41]; exact hM
  refine x_aload_n C dX9_init_85 hL 0 rfl ?_
  refine lv_sipush (v := 5120) hx hb dX9_init_86 (by decide) ?_
  obtain ⟨q42, eq42, hd⟩ := bd_ex hd
  obtain ⟨G43, eG43, hd⟩ := bd_ex hd
  obtain ⟨hM, hd⟩ := mV_ex hd
  have hm1 : hn G43 = hn G41 + 1 ∧ hs G43 = hs G41 + (5120 : Int32).toNatClampNeg := by rw [eG43]; exact ⟨rfl, rfl⟩
  refine r_newa (t := 11) C (Or.inl ⟨rfl, rfl⟩) dX9_init_89 hR hS hB hZ (by decide) ⟨by show hn G41 + 1 - n0 ≤ hn GG - n0; omega, by show hs G41 + (5120 : Int32).toNatClampNeg - s0 ≤ hs GG - s0; omega⟩ (fun H locs hR hS => ?_)
  rw [← eq42]
  refine W_cs (c2 := hn G43 - n0) (s2 := hs G43 - s0) (by rw [eG43] <;> rfl) (by rw [eG43] <;> rfl) ?_
  replace hR : Rp b0 D E G43 H := by rw [eG43]; exact hR
  replace hB : b0 ≤ hn G43 := by omega
  replace hZ : n0 ≤ hn G43 ∧ s0 ≤ hs G43 := by omega
  obtain ⟨g44, hd⟩ := gd_ex hd
  obtain ⟨G45, eG45, hd⟩ := bd_ex hd
  refine r_putr (ci := 9) (k := 18) C fl_X9_41 (Or.inr ⟨_, rfl⟩) (Or.inr ⟨rfl, hnm, rfl⟩) dX9_init_91 hR hS g44 (fun H locs hR hS => ?_)
  replace hR : Rp b0 D E G45 H := by rw [eG45]; exact hR
  refine W_cs (c2 := hn G45 - n0) (s2 := hs G45 - s0) (by rw [eG45] <;> rfl) (by rw [eG45] <;> rfl) ?_
  replace hB : b0 ≤ hn G45 := by rw [eG45]; exact hB
  replace hZ : n0 ≤ hn G45 ∧ s0 ≤ hs G45 := by rw [eG45]; exact hZ
  replace hM : hn G45 ≤ hn GG ∧ hs G45 ≤ hs GG := by rw [eG45]; exact hM
  refine x_aload_n C dX9_init_94 hL 0 rfl ?_
  refine lv_bipush (v := 16) hx hb dX9_init_95 (by decide) ?_
  obtain ⟨q46, eq46, hd⟩ := bd_ex hd
  obtain ⟨G47, eG47, hd⟩ := bd_ex hd
  obtain ⟨hM, hd⟩ := mV_ex hd
  have hm1 : hn G47 = hn G45 + 1 ∧ hs G47 = hs G45 + (16 : Int32).toNatClampNeg := by rw [eG47]; exact ⟨rfl, rfl⟩
  refine r_newa (t := 11) C (Or.inl ⟨rfl, rfl⟩) dX9_init_97 hR hS hB hZ (by decide) ⟨by show hn G45 + 1 - n0 ≤ hn GG - n0; omega, by show hs G45 + (16 : Int32).toNatClampNeg - s0 ≤ hs GG - s0; omega⟩ (fun H locs hR hS => ?_)
  rw [← eq46]
  refine W_cs (c2 := hn G47 - n0) (s2 := hs G47 - s0) (by rw [eG47] <;> rfl) (by rw [eG47] <;> rfl) ?_
  replace hR : Rp b0 D E G47 H := by rw [eG47]; exact hR
  replace hB : b0 ≤ hn G47 := by omega
  replace hZ : n0 ≤ hn G47 ∧ s0 ≤ hs G47 := by omega
  obtain ⟨g48, hd⟩ := gd_ex hd
  obtain ⟨G49, eG49, hd⟩ := bd_ex hd
  refine r_putr (ci := 9) (k := 19) C fl_X9_44 (Or.inr ⟨_, rfl⟩) (Or.inr ⟨rfl, hnm, rfl⟩) dX9_init_99 hR hS g48 (fun H locs hR hS => ?_)
  replace hR : Rp b0 D E G49 H := by rw [eG49]; exact hR
  refine W_cs (c2 := hn G49 - n0) (s2 := hs G49 - s0) (by rw [eG49] <;> rfl) (by rw [eG49] <;> rfl) ?_
  replace hB : b0 ≤ hn G49 := by rw [eG49]; exact hB
  replace hZ : n0 ≤ hn G49 ∧ s0 ≤ hs G49 := by rw [eG49]; exact hZ
  replace hM : hn G49 ≤ hn GG ∧ hs G49 ≤ hs GG := by rw [eG49]; exact hM
  refine x_aload_n C dX9_init_102 hL 0 rfl ?_
  refine lv_sipush (v := 5120) hx hb dX9_init_103 (by decide) ?_
  obtain ⟨q50, eq50, hd⟩ := bd_ex hd
  obtain ⟨G51, eG51, hd⟩ := bd_ex hd
  obtain ⟨hM, hd⟩ := mV_ex hd
  have hm1 : hn G51 = hn G49 + 1 ∧ hs G51 = hs G49 + (5120 : Int32).toNatClampNeg := by rw [eG51]; exact ⟨rfl, rfl⟩
  refine r_newa (t := 11) C (Or.inl ⟨rfl, rfl⟩) dX9_init_106 hR hS hB hZ (by decide) ⟨by show hn G49 + 1 - n0 ≤ hn GG - n0; omega, by show hs G49 + (5120 : Int32).toNatClampNeg - s0 ≤ hs GG - s0; omega⟩ (fun H locs hR hS => ?_)
  rw [← eq50]
  refine W_cs (c2 := hn G51 - n0) (s2 := hs G51 - s0) (by rw [eG51] <;> rfl) (by rw [eG51] <;> rfl) ?_
  replace hR : Rp b0 D E G51 H := by rw [eG51]; exact hR
  replace hB : b0 ≤ hn G51 := by omega
  replace hZ : n0 ≤ hn G51 ∧ s0 ≤ hs G51 := by omega
  obtain ⟨g52, hd⟩ := gd_ex hd
  obtain ⟨G53, eG53, hd⟩ := bd_ex hd
  refine r_putr (ci := 9) (k := 20) C fl_X9_47 (Or.inr ⟨_, rfl⟩) (Or.inr ⟨rfl, hnm, rfl⟩) dX9_init_108 hR hS g52 (fun H locs hR hS => ?_)
  replace hR : Rp b0 D E G53 H := by rw [eG53]; exact hR
  refine W_cs (c2 := hn G53 - n0) (s2 := hs G53 - s0) (by rw [eG53] <;> rfl) (by rw [eG53] <;> rfl) ?_
  replace hB : b0 ≤ hn G53 := by rw [eG53]; exact hB
  replace hZ : n0 ≤ hn G53 ∧ s0 ≤ hs G53 := by rw [eG53]; exact hZ
  replace hM : hn G53 ≤ hn GG ∧ hs G53 ≤ hs GG := by rw [eG53]; exact hM
  refine x_aload_n C dX9_init_111 hL 0 rfl ?_
  refine lv_iconst (v := 1) hx hb dX9_init_112 (by decide) ?_
  obtain ⟨g54, hd⟩ := gd_ex hd
  obtain ⟨G55, eG55, hd⟩ := bd_ex hd
  refine r_putz (ci := 9) (k := 21) C fl_X9_50 rfl (Or.inl rfl) (by decide) dX9_init_113 hR hS g54 (fun H locs hR hS => ?_)
  replace hR : Rp b0 D E G55 H := by rw [eG55]; exact hR
  refine W_cs (c2 := hn G55 - n0) (s2 := hs G55 - s0) (by rw [eG55] <;> rfl) (by rw [eG55] <;> rfl) ?_
  replace hB : b0 ≤ hn G55 := by rw [eG55]; exact hB
  replace hZ : n0 ≤ hn G55 ∧ s0 ≤ hs G55 := by rw [eG55]; exact hZ
  replace hM : hn G55 ≤ hn GG ∧ hs G55 ≤ hs GG := by rw [eG55]; exact hM
  refine x_aload_n C dX9_init_116 hL 0 rfl ?_
  refine lv_sipush (v := 260) hx hb dX9_init_117 (by decide) ?_
  obtain ⟨q56, eq56, hd⟩ := bd_ex hd
  obtain ⟨G57, eG57, hd⟩ := bd_ex hd
  obtain ⟨hM, hd⟩ := mV_ex hd
  have hm1 : hn G57 = hn G55 + 1 ∧ hs G57 = hs G55 + (260 : Int32).toNatClampNeg := by rw [eG57]; exact ⟨rfl, rfl⟩
  refine r_newa (t := 11) C (Or.inl ⟨rfl, rfl⟩) dX9_init_120 hR hS hB hZ (by decide) ⟨by show hn G55 + 1 - n0 ≤ hn GG - n0; omega, by show hs G55 + (260 : Int32).toNatClampNeg - s0 ≤ hs GG - s0; omega⟩ (fun H locs hR hS => ?_)
  rw [← eq56]
  refine W_cs (c2 := hn G57 - n0) (s2 := hs G57 - s0) (by rw [eG57] <;> rfl) (by rw [eG57] <;> rfl) ?_
  replace hR : Rp b0 D E G57 H := by rw [eG57]; exact hR
  replace hB : b0 ≤ hn G57 := by omega
  replace hZ : n0 ≤ hn G57 ∧ s0 ≤ hs G57 := by omega
  obtain ⟨g58, hd⟩ := gd_ex hd
  obtain ⟨G59, eG59, hd⟩ := bd_ex hd
  refine r_putr (ci := 9) (k := 22) C fl_X9_54 (Or.inr ⟨_, rfl⟩) (Or.inr ⟨rfl, hnm, rfl⟩) dX9_init_122 hR hS g58 (fun H locs hR hS => ?_)
  replace hR : Rp b0 D E G59 H := by rw [eG59]; exact hR
  refine W_cs (c2 := hn G59 - n0) (s2 := hs G59 - s0) (by rw [eG59] <;> rfl) (by rw [eG59] <;> rfl) ?_
  replace hB : b0 ≤ hn G59 := by rw [eG59]; exact hB
  replace hZ : n0 ≤ hn G59 ∧ s0 ≤ hs G59 := by rw [eG59]; exact hZ
  replace hM : hn G59 ≤ hn GG ∧ hs G59 ≤ hs GG := by rw [eG59]; exact hM
  refine x_aload_n C dX9_init_125 hL 0 rfl ?_
  refine lv_sipush (v := 260) hx hb dX9_init_126 (by decide) ?_
  obtain ⟨q60, eq60, hd⟩ := bd_ex hd
  obtain ⟨G61, eG61, hd⟩ := bd_ex hd
  obtain ⟨hM, hd⟩ := mV_ex hd
  have hm1 : hn G61 = hn G59 + 1 ∧ hs G61 = hs G59 + (260 : Int32).toNatClampNeg := by rw [eG61]; exact ⟨rfl, rfl⟩
  refine r_newa (t := 11) C (Or.inl ⟨rfl, rfl⟩) dX9_init_129 hR hS hB hZ (by decide) ⟨by show hn G59 + 1 - n0 ≤ hn GG - n0; omega, by show hs G59 + (260 : Int32).toNatClampNeg - s0 ≤ hs GG - s0; omega⟩ (fun H locs hR hS => ?_)
  rw [← eq60]
  refine W_cs (c2 := hn G61 - n0) (s2 := hs G61 - s0) (by rw [eG61] <;> rfl) (by rw [eG61] <;> rfl) ?_
  replace hR : Rp b0 D E G61 H := by rw [eG61]; exact hR
  replace hB : b0 ≤ hn G61 := by omega
  replace hZ : n0 ≤ hn G61 ∧ s0 ≤ hs G61 := by omega
  obtain ⟨g62, hd⟩ := gd_ex hd
  obtain ⟨G63, eG63, hd⟩ := bd_ex hd
  refine r_putr (ci := 9) (k := 23) C fl_X9_57 (Or.inr ⟨_, rfl⟩) (Or.inr ⟨rfl, hnm, rfl⟩) dX9_init_131 hR hS g62 (fun H locs hR hS => ?_)
  replace hR : Rp b0 D E G63 H := by rw [eG63]; exact hR
  refine W_cs (c2 := hn G63 - n0) (s2 := hs G63 - s0) (by rw [eG63] <;> rfl) (by rw [eG63] <;> rfl) ?_
  replace hB : b0 ≤ hn G63 := by rw [eG63]; exact hB
  replace hZ : n0 ≤ hn G63 ∧ s0 ≤ hs G63 := by rw [eG63]; exact hZ
  replace hM : hn G63 ≤ hn GG ∧ hs G63 ≤ hs GG := by rw [eG63]; exact hM
  refine x_aload_n C dX9_init_134 hL 0 rfl ?_
  refine lv_sipush (v := 260) hx hb dX9_init_135 (by decide) ?_
  obtain ⟨q64, eq64, hd⟩ := bd_ex hd
  obtain ⟨G65, eG65, hd⟩ := bd_ex hd
  obtain ⟨hM, hd⟩ := mV_ex hd
  have hm1 : hn G65 = hn G63 + 1 ∧ hs G65 = hs G63 + (260 : Int32).toNatClampNeg := by rw [eG65]; exact ⟨rfl, rfl⟩
  refine r_newa (t := 11) C (Or.inl ⟨rfl, rfl⟩) dX9_init_138 hR hS hB hZ (by decide) ⟨by show hn G63 + 1 - n0 ≤ hn GG - n0; omega, by show hs G63 + (260 : Int32).toNatClampNeg - s0 ≤ hs GG - s0; omega⟩ (fun H locs hR hS => ?_)
  rw [← eq64]
  refine W_cs (c2 := hn G65 - n0) (s2 := hs G65 - s0) (by rw [eG65] <;> rfl) (by rw [eG65] <;> rfl) ?_
  replace hR : Rp b0 D E G65 H := by rw [eG65]; exact hR
  replace hB : b0 ≤ hn G65 := by omega
  replace hZ : n0 ≤ hn G65 ∧ s0 ≤ hs G65 := by omega
  obtain ⟨g66, hd⟩ := gd_ex hd
  obtain ⟨G67, eG67, hd⟩ := bd_ex hd
  refine r_putr (ci := 9) (k := 24) C fl_X9_60 (Or.inr ⟨_, rfl⟩) (Or.inr ⟨rfl, hnm, rfl⟩) dX9_init_140 hR hS g66 (fun H locs hR hS => ?_)
  replace hR : Rp b0 D E G67 H := by rw [eG67]; exact hR
  refine W_cs (c2 := hn G67 - n0) (s2 := hs G67 - s0) (by rw [eG67] <;> rfl) (by rw [eG67] <;> rfl) ?_
  replace hB : b0 ≤ hn G67 := by rw [eG67]; exact hB
  replace hZ : n0 ≤ hn G67 ∧ s0 ≤ hs G67 := by rw [eG67]; exact hZ
  replace hM : hn G67 ≤ hn GG ∧ hs G67 ≤ hs GG := by rw [eG67]; exact hM
  refine x_aload_n C dX9_init_143 hL 0 rfl ?_
  refine lv_sipush (v := 400) hx hb dX9_init_144 (by decide) ?_
  obtain ⟨q68, eq68, hd⟩ := bd_ex hd
  obtain ⟨G69, eG69, hd⟩ := bd_ex hd
  obtain ⟨hM, hd⟩ := mV_ex hd
  have hm1 : hn G69 = hn G67 + 1 ∧ hs G69 = hs G67 + (400 : Int32).toNatClampNeg := by rw [eG69]; exact ⟨rfl, rfl⟩
  refine r_newa (t := 11) C (Or.inl ⟨rfl, rfl⟩) dX9_init_147 hR hS hB hZ (by decide) ⟨by show hn G67 + 1 - n0 ≤ hn GG - n0; omega, by show hs G67 + (400 : Int32).toNatClampNeg - s0 ≤ hs GG - s0; omega⟩ (fun H locs hR hS => ?_)
  rw [← eq68]
  refine W_cs (c2 := hn G69 - n0) (s2 := hs G69 - s0) (by rw [eG69] <;> rfl) (by rw [eG69] <;> rfl) ?_
  replace hR : Rp b0 D E G69 H := by rw [eG69]; exact hR
  replace hB : b0 ≤ hn G69 := by omega
  replace hZ : n0 ≤ hn G69 ∧ s0 ≤ hs G69 := by omega
  obtain ⟨g70, hd⟩ := gd_ex hd
  obtain ⟨G71, eG71, hd⟩ := bd_ex hd
  refine r_putr (ci := 9) (k := 25) C fl_X9_63 (Or.inr ⟨_, rfl⟩) (Or.inr ⟨rfl, hnm, rfl⟩) dX9_init_149 hR hS g70 (fun H locs hR hS => ?_)
  replace hR : Rp b0 D E G71 H := by rw [eG71]; exact hR
  refine W_cs (c2 := hn G71 - n0) (s2 := hs G71 - s0) (by rw [eG71] <;> rfl) (by rw [eG71] <;> rfl) ?_
  replace hB : b0 ≤ hn G71 := by rw [eG71]; exact hB
  replace hZ : n0 ≤ hn G71 ∧ s0 ≤ hs G71 := by rw [eG71]; exact hZ
  replace hM : hn G71 ≤ hn GG ∧ hs G71 ≤ hs GG := by rw [eG71]; exact hM
  refine x_aload_n C dX9_init_152 hL 0 rfl ?_
  refine lv_bipush (v := 40) hx hb dX9_init_153 (by decide) ?_
  obtain ⟨q72, eq72, hd⟩ := bd_ex hd
  obtain ⟨G73, eG73, hd⟩ := bd_ex hd
  obtain ⟨hM, hd⟩ := mV_ex hd
  have hm1 : hn G73 = hn G71 + 1 ∧ hs G73 = hs G71 + (40 : Int32).toNatClampNeg := by rw [eG73]; exact ⟨rfl, rfl⟩
  refine r_newa (t := 11) C (Or.inl ⟨rfl, rfl⟩) dX9_init_155 hR hS hB hZ (by decide) ⟨by show hn G71 + 1 - n0 ≤ hn GG - n0; omega, by show hs G71 + (40 : Int32).toNatClampNeg - s0 ≤ hs GG - s0; omega⟩ (fun H locs hR hS => ?_)
  rw [← eq72]
  refine W_cs (c2 := hn G73 - n0) (s2 := hs G73 - s0) (by rw [eG73] <;> rfl) (by rw [eG73] <;> rfl) ?_
  replace hR : Rp b0 D E G73 H := by rw [eG73]; exact hR
  replace hB : b0 ≤ hn G73 := by omega
  replace hZ : n0 ≤ hn G73 ∧ s0 ≤ hs G73 := by omega
  obtain ⟨g74, hd⟩ := gd_ex hd
  obtain ⟨G75, eG75, hd⟩ := bd_ex hd
  refine r_putr (ci := 9) (k := 26) C fl_X9_66 (Or.inr ⟨_, rfl⟩) (Or.inr ⟨rfl, hnm, rfl⟩) dX9_init_157 hR hS g74 (fun H locs hR hS => ?_)
  replace hR : Rp b0 D E G75 H := by rw [eG75]; exact hR
  refine W_cs (c2 := hn G75 - n0) (s2 := hs G75 - s0) (by rw [eG75] <;> rfl) (by rw [eG75] <;> rfl) ?_
  replace hB : b0 ≤ hn G75 := by rw [eG75]; exact hB
  replace hZ : n0 ≤ hn G75 ∧ s0 ≤ hs G75 := by rw [eG75]; exact hZ
  replace hM : hn G75 ≤ hn GG ∧ hs G75 ≤ hs GG := by rw [eG75]; exact hM
  refine x_aload_n C dX9_init_160 hL 0 rfl ?_
  refine lv_bipush (v := 40) hx hb dX9_init_161 (by decide) ?_
  obtain ⟨q76, eq76, hd⟩ := bd_ex hd
  obtain ⟨G77, eG77, hd⟩ := bd_ex hd
  obtain ⟨hM, hd⟩ := mV_ex hd
  have hm1 : hn G77 = hn G75 + 1 ∧ hs G77 = hs G75 + (40 : Int32).toNatClampNeg := by rw [eG77]; exact ⟨rfl, rfl⟩
  refine r_newa (t := 11) C (Or.inl ⟨rfl, rfl⟩) dX9_init_163 hR hS hB hZ (by decide) ⟨by show hn G75 + 1 - n0 ≤ hn GG - n0; omega, by show hs G75 + (40 : Int32).toNatClampNeg - s0 ≤ hs GG - s0; omega⟩ (fun H locs hR hS => ?_)
  rw [← eq76]
  refine W_cs (c2 := hn G77 - n0) (s2 := hs G77 - s0) (by rw [eG77] <;> rfl) (by rw [eG77] <;> rfl) ?_
  replace hR : Rp b0 D E G77 H := by rw [eG77]; exact hR
  replace hB : b0 ≤ hn G77 := by omega
  replace hZ : n0 ≤ hn G77 ∧ s0 ≤ hs G77 := by omega
  obtain ⟨g78, hd⟩ := gd_ex hd
  obtain ⟨G79, eG79, hd⟩ := bd_ex hd
  refine r_putr (ci := 9) (k := 27) C fl_X9_69 (Or.inr ⟨_, rfl⟩) (Or.inr ⟨rfl, hnm, rfl⟩) dX9_init_165 hR hS g78 (fun H locs hR hS => ?_)
  replace hR : Rp b0 D E G79 H := by rw [eG79]; exact hR
  refine W_cs (c2 := hn G79 - n0) (s2 := hs G79 - s0) (by rw [eG79] <;> rfl) (by rw [eG79] <;> rfl) ?_
  replace hB : b0 ≤ hn G79 := by rw [eG79]; exact hB
  replace hZ : n0 ≤ hn G79 ∧ s0 ≤ hs G79 := by rw [eG79]; exact hZ
  replace hM : hn G79 ≤ hn GG ∧ hs G79 ≤ hs GG := by rw [eG79]; exact hM
  refine x_aload_n C dX9_init_168 hL 0 rfl ?_
  refine lv_sipush (v := 320) hx hb dX9_init_169 (by decide) ?_
  obtain ⟨q80, eq80, hd⟩ := bd_ex hd
  obtain ⟨G81, eG81, hd⟩ := bd_ex hd
  obtain ⟨hM, hd⟩ := mV_ex hd
  have hm1 : hn G81 = hn G79 + 1 ∧ hs G81 = hs G79 + (320 : Int32).toNatClampNeg := by rw [eG81]; exact ⟨rfl, rfl⟩
  refine r_newa (t := 11) C (Or.inl ⟨rfl, rfl⟩) dX9_init_172 hR hS hB hZ (by decide) ⟨by show hn G79 + 1 - n0 ≤ hn GG - n0; omega, by show hs G79 + (320 : Int32).toNatClampNeg - s0 ≤ hs GG - s0; omega⟩ (fun H locs hR hS => ?_)
  rw [← eq80]
  refine W_cs (c2 := hn G81 - n0) (s2 := hs G81 - s0) (by rw [eG81] <;> rfl) (by rw [eG81] <;> rfl) ?_
  replace hR : Rp b0 D E G81 H := by rw [eG81]; exact hR
  replace hB : b0 ≤ hn G81 := by omega
  replace hZ : n0 ≤ hn G81 ∧ s0 ≤ hs G81 := by omega
  obtain ⟨g82, hd⟩ := gd_ex hd
  obtain ⟨G83, eG83, hd⟩ := bd_ex hd
  refine r_putr (ci := 9) (k := 28) C fl_X9_72 (Or.inr ⟨_, rfl⟩) (Or.inr ⟨rfl, hnm, rfl⟩) dX9_init_174 hR hS g82 (fun H locs hR hS => ?_)
  replace hR : Rp b0 D E G83 H := by rw [eG83]; exact hR
  refine W_cs (c2 := hn G83 - n0) (s2 := hs G83 - s0) (by rw [eG83] <;> rfl) (by rw [eG83] <;> rfl) ?_
  replace hB : b0 ≤ hn G83 := by rw [eG83]; exact hB
  replace hZ : n0 ≤ hn G83 ∧ s0 ≤ hs G83 := by rw [eG83]; exact hZ
  replace hM : hn G83 ≤ hn GG ∧ hs G83 ≤ hs GG := by rw [eG83]; exact hM
  refine x_aload_n C dX9_init_177 hL 0 rfl ?_
  refine lv_sipush (v := 5440) hx hb dX9_init_178 (by decide) ?_
  obtain ⟨q84, eq84, hd⟩ := bd_ex hd
  obtain ⟨G85, eG85, hd⟩ := bd_ex hd
  obtain ⟨hM, hd⟩ := mV_ex hd
  have hm1 : hn G85 = hn G83 + 1 ∧ hs G85 = hs G83 + (5440 : Int32).toNatClampNeg := by rw [eG85]; exact ⟨rfl, rfl⟩
  refine r_newa (t := 11) C (Or.inl ⟨rfl, rfl⟩) dX9_init_181 hR hS hB hZ (by decide) ⟨by show hn G83 + 1 - n0 ≤ hn GG - n0; omega, by show hs G83 + (5440 : Int32).toNatClampNeg - s0 ≤ hs GG - s0; omega⟩ (fun H locs hR hS => ?_)
  rw [← eq84]
  refine W_cs (c2 := hn G85 - n0) (s2 := hs G85 - s0) (by rw [eG85] <;> rfl) (by rw [eG85] <;> rfl) ?_
  replace hR : Rp b0 D E G85 H := by rw [eG85]; exact hR
  replace hB : b0 ≤ hn G85 := by omega
  replace hZ : n0 ≤ hn G85 ∧ s0 ≤ hs G85 := by omega
  obtain ⟨g86, hd⟩ := gd_ex hd
  obtain ⟨G87, eG87, hd⟩ := bd_ex hd
  refine r_putr (ci := 9) (k := 29) C fl_X9_75 (Or.inr ⟨_, rfl⟩) (Or.inr ⟨rfl, hnm, rfl⟩) dX9_init_183 hR hS g86 (fun H locs hR hS => ?_)
  replace hR : Rp b0 D E G87 H := by rw [eG87]; exact hR
  refine W_cs (c2 := hn G87 - n0) (s2 := hs G87 - s0) (by rw [eG87] <;> rfl) (by rw [eG87] <;> rfl) ?_
  replace hB : b0 ≤ hn G87 := by rw [eG87]; exact hB
  replace hZ : n0 ≤ hn G87 ∧ s0 ≤ hs G87 := by rw [eG87]; exact hZ
  replace hM : hn G87 ≤ hn GG ∧ hs G87 ≤ hs GG := by rw [eG87]; exact hM
  refine x_aload_n C dX9_init_186 hL 0 rfl ?_
  refine lv_sipush (v := 5120) hx hb dX9_init_187 (by decide) ?_
  obtain ⟨q88, eq88, hd⟩ := bd_ex hd
  obtain ⟨G89, eG89, hd⟩ := bd_ex hd
  obtain ⟨hM, hd⟩ := mV_ex hd
  have hm1 : hn G89 = hn G87 + 1 ∧ hs G89 = hs G87 + (5120 : Int32).toNatClampNeg := by rw [eG89]; exact ⟨rfl, rfl⟩
  refine r_newa (t := 11) C (Or.inl ⟨rfl, rfl⟩) dX9_init_190 hR hS hB hZ (by decide) ⟨by show hn G87 + 1 - n0 ≤ hn GG - n0; omega, by show hs G87 + (5120 : Int32).toNatClampNeg - s0 ≤ hs GG - s0; omega⟩ (fun H locs hR hS => ?_)
  rw [← eq88]
  refine W_cs (c2 := hn G89 - n0) (s2 := hs G89 - s0) (by rw [eG89] <;> rfl) (by rw [eG89] <;> rfl) ?_
  replace hR : Rp b0 D E G89 H := by rw [eG89]; exact hR
  replace hB : b0 ≤ hn G89 := by omega
  replace hZ : n0 ≤ hn G89 ∧ s0 ≤ hs G89 := by omega
  obtain ⟨g90, hd⟩ := gd_ex hd
  obtain ⟨G91, eG91, hd⟩ := bd_ex hd
  refine r_putr (ci := 9) (k := 30) C fl_X9_78 (Or.inr ⟨_, rfl⟩) (Or.inr ⟨rfl, hnm, rfl⟩) dX9_init_192 hR hS g90 (fun H locs hR hS => ?_)
  replace hR : Rp b0 D E G91 H := by rw [eG91]; exact hR
  refine W_cs (c2 := hn G91 - n0) (s2 := hs G91 - s0) (by rw [eG91] <;> rfl) (by rw [eG91] <;> rfl) ?_
  replace hB : b0 ≤ hn G91 := by rw [eG91]; exact hB
  replace hZ : n0 ≤ hn G91 ∧ s0 ≤ hs G91 := by rw [eG91]; exact hZ
  replace hM : hn G91 ≤ hn GG ∧ hs G91 ≤ hs GG := by rw [eG91]; exact hM
  refine x_aload_n C dX9_init_195 hL 0 rfl ?_
  refine lv_sipush (v := 5120) hx hb dX9_init_196 (by decide) ?_
  obtain ⟨q92, eq92, hd⟩ := bd_ex hd
  obtain ⟨G93, eG93, hd⟩ := bd_ex hd
  obtain ⟨hM, hd⟩ := mV_ex hd
  have hm1 : hn G93 = hn G91 + 1 ∧ hs G93 = hs G91 + (5120 : Int32).toNatClampNeg := by rw [eG93]; exact ⟨rfl, rfl⟩
  refine r_newa (t := 11) C (Or.inl ⟨rfl, rfl⟩) dX9_init_199 hR hS hB hZ (by decide) ⟨by show hn G91 + 1 - n0 ≤ hn GG - n0; omega, by show hs G91 + (5120 : Int32).toNatClampNeg - s0 ≤ hs GG - s0; omega⟩ (fun H locs hR hS => ?_)
  rw [← eq92]
  refine W_cs (c2 := hn G93 - n0) (s2 := hs G93 - s0) (by rw [eG93] <;> rfl) (by rw [eG93] <;> rfl) ?_
  replace hR : Rp b0 D E G93 H := by rw [eG93]; exact hR
  replace hB : b0 ≤ hn G93 := by omega
  replace hZ : n0 ≤ hn G93 ∧ s0 ≤ hs G93 := by omega
  obtain ⟨g94, hd⟩ := gd_ex hd
  obtain ⟨G95, eG95, hd⟩ := bd_ex hd
  refine r_putr (ci := 9) (k := 31) C fl_X9_81 (Or.inr ⟨_, rfl⟩) (Or.inr ⟨rfl, hnm, rfl⟩) dX9_init_201 hR hS g94 (fun H locs hR hS => ?_)
  replace hR : Rp b0 D E G95 H := by rw [eG95]; exact hR
  refine W_cs (c2 := hn G95 - n0) (s2 := hs G95 - s0) (by rw [eG95] <;> rfl) (by rw [eG95] <;> rfl) ?_
  replace hB : b0 ≤ hn G95 := by rw [eG95]; exact hB
  replace hZ : n0 ≤ hn G95 ∧ s0 ≤ hs G95 := by rw [eG95]; exact hZ
  replace hM : hn G95 ≤ hn GG ∧ hs G95 ≤ hs GG := by rw [eG95]; exact hM
  refine x_aload_n C dX9_init_204 hL 0 rfl ?_
  refine lv_sipush (v := 5120) hx hb dX9_init_205 (by decide) ?_
  obtain ⟨q96, eq96, hd⟩ := bd_ex hd
  obtain ⟨G97, eG97, hd⟩ := bd_ex hd
  obtain ⟨hM, hd⟩ := mV_ex hd
  have hm1 : hn G97 = hn G95 + 1 ∧ hs G97 = hs G95 + (5120 : Int32).toNatClampNeg := by rw [eG97]; exact ⟨rfl, rfl⟩
  refine r_newa (t := 11) C (Or.inl ⟨rfl, rfl⟩) dX9_init_208 hR hS hB hZ (by decide) ⟨by show hn G95 + 1 - n0 ≤ hn GG - n0; omega, by show hs G95 + (5120 : Int32).toNatClampNeg - s0 ≤ hs GG - s0; omega⟩ (fun H locs hR hS => ?_)
  rw [← eq96]
  refine W_cs (c2 := hn G97 - n0) (s2 := hs G97 - s0) (by rw [eG97] <;> rfl) (by rw [eG97] <;> rfl) ?_
  replace hR : Rp b0 D E G97 H := by rw [eG97]; exact hR
  replace hB : b0 ≤ hn G97 := by omega
  replace hZ : n0 ≤ hn G97 ∧ s0 ≤ hs G97 := by omega
  obtain ⟨g98, hd⟩ := gd_ex hd
  obtain ⟨G99, eG99, hd⟩ := bd_ex hd
  refine r_putr (ci := 9) (k := 32) C fl_X9_84 (Or.inr ⟨_, rfl⟩) (Or.inr ⟨rfl, hnm, rfl⟩) dX9_init_210 hR hS g98 (fun H locs hR hS => ?_)
  replace hR : Rp b0 D E G99 H := by rw [eG99]; exact hR
  refine W_cs (c2 := hn G99 - n0) (s2 := hs G99 - s0) (by rw [eG99] <;> rfl) (by rw [eG99] <;> rfl) ?_
  replace hB : b0 ≤ hn G99 := by rw [eG99]; exact hB
  replace hZ : n0 ≤ hn G99 ∧ s0 ≤ hs G99 := by rw [eG99]; exact hZ
  replace hM : hn G99 ≤ hn GG ∧ hs G99 ≤ hs GG := by rw [eG99]; exact hM
  refine x_aload_n C dX9_init_213 hL 0 rfl ?_
  refine lv_sipush (v := 1360) hx hb dX9_init_214 (by decide) ?_
  obtain ⟨q100, eq100, hd⟩ := bd_ex hd
  obtain ⟨G101, eG101, hd⟩ := bd_ex hd
  obtain ⟨hM, hd⟩ := mV_ex hd
  have hm1 : hn G101 = hn G99 + 1 ∧ hs G101 = hs G99 + (1360 : Int32).toNatClampNeg := by rw [eG101]; exact ⟨rfl, rfl⟩
  refine r_newa (t := 11) C (Or.inl ⟨rfl, rfl⟩) dX9_init_217 hR hS hB hZ (by decide) ⟨by show hn G99 + 1 - n0 ≤ hn GG - n0; omega, by show hs G99 + (1360 : Int32).toNatClampNeg - s0 ≤ hs GG - s0; omega⟩ (fun H locs hR hS => ?_)
  rw [← eq100]
  refine W_cs (c2 := hn G101 - n0) (s2 := hs G101 - s0) (by rw [eG101] <;> rfl) (by rw [eG101] <;> rfl) ?_
  replace hR : Rp b0 D E G101 H := by rw [eG101]; exact hR
  replace hB : b0 ≤ hn G101 := by omega
  replace hZ : n0 ≤ hn G101 ∧ s0 ≤ hs G101 := by omega
  obtain ⟨g102, hd⟩ := gd_ex hd
  obtain ⟨G103, eG103, hd⟩ := bd_ex hd
  refine r_putr (ci := 9) (k := 33) C fl_X9_87 (Or.inr ⟨_, rfl⟩) (Or.inr ⟨rfl, hnm, rfl⟩) dX9_init_219 hR hS g102 (fun H locs hR hS => ?_)
  replace hR : Rp b0 D E G103 H := by rw [eG103]; exact hR
  refine W_cs (c2 := hn G103 - n0) (s2 := hs G103 - s0) (by rw [eG103] <;> rfl) (by rw [eG103] <;> rfl) ?_
  replace hB : b0 ≤ hn G103 := by rw [eG103]; exact hB
  replace hZ : n0 ≤ hn G103 ∧ s0 ≤ hs G103 := by rw [eG103]; exact hZ
  replace hM : hn G103 ≤ hn GG ∧ hs G103 ≤ hs GG := by rw [eG103]; exact hM
  refine x_aload_n C dX9_init_222 hL 0 rfl ?_
  refine lv_sipush (v := 1360) hx hb dX9_init_223 (by decide) ?_
  obtain ⟨q104, eq104, hd⟩ := bd_ex hd
  obtain ⟨G105, eG105, hd⟩ := bd_ex hd
  obtain ⟨hM, hd⟩ := mV_ex hd
  have hm1 : hn G105 = hn G103 + 1 ∧ hs G105 = hs G103 + (1360 : Int32).toNatClampNeg := by rw [eG105]; exact ⟨rfl, rfl⟩
  refine r_newa (t := 11) C (Or.inl ⟨rfl, rfl⟩) dX9_init_226 hR hS hB hZ (by decide) ⟨by show hn G103 + 1 - n0 ≤ hn GG - n0; omega, by show hs G103 + (1360 : Int32).toNatClampNeg - s0 ≤ hs GG - s0; omega⟩ (fun H locs hR hS => ?_)
  rw [← eq104]
  refine W_cs (c2 := hn G105 - n0) (s2 := hs G105 - s0) (by rw [eG105] <;> rfl) (by rw [eG105] <;> rfl) ?_
  replace hR : Rp b0 D E G105 H := by rw [eG105]; exact hR
  replace hB : b0 ≤ hn G105 := by omega
  replace hZ : n0 ≤ hn G105 ∧ s0 ≤ hs G105 := by omega
  obtain ⟨g106, hd⟩ := gd_ex hd
  obtain ⟨G107, eG107, hd⟩ := bd_ex hd
  refine r_putr (ci := 9) (k := 34) C fl_X9_90 (Or.inr ⟨_, rfl⟩) (Or.inr ⟨rfl, hnm, rfl⟩) dX9_init_228 hR hS g106 (fun H locs hR hS => ?_)
  replace hR : Rp b0 D E G107 H := by rw [eG107]; exact hR
  refine W_cs (c2 := hn G107 - n0) (s2 := hs G107 - s0) (by rw [eG107] <;> rfl) (by rw [eG107] <;> rfl) ?_
  replace hB : b0 ≤ hn G107 := by rw [eG107]; exact hB
  replace hZ : n0 ≤ hn G107 ∧ s0 ≤ hs G107 := by rw [eG107]; exact hZ
  replace hM : hn G107 ≤ hn GG ∧ hs G107 ≤ hs GG := by rw [eG107]; exact hM
  refine x_aload_n C dX9_init_231 hL 0 rfl ?_
  refine lv_sipush (v := 1360) hx hb dX9_init_232 (by decide) ?_
  obtain ⟨q108, eq108, hd⟩ := bd_ex hd
  obtain ⟨G109, eG109, hd⟩ := bd_ex hd
  obtain ⟨hM, hd⟩ := mV_ex hd
  have hm1 : hn G109 = hn G107 + 1 ∧ hs G109 = hs G107 + (1360 : Int32).toNatClampNeg := by rw [eG109]; exact ⟨rfl, rfl⟩
  refine r_newa (t := 11) C (Or.inl ⟨rfl, rfl⟩) dX9_init_235 hR hS hB hZ (by decide) ⟨by show hn G107 + 1 - n0 ≤ hn GG - n0; omega, by show hs G107 + (1360 : Int32).toNatClampNeg - s0 ≤ hs GG - s0; omega⟩ (fun H locs hR hS => ?_)
  rw [← eq108]
  refine W_cs (c2 := hn G109 - n0) (s2 := hs G109 - s0) (by rw [eG109] <;> rfl) (by rw [eG109] <;> rfl) ?_
  replace hR : Rp b0 D E G109 H := by rw [eG109]; exact hR
  replace hB : b0 ≤ hn G109 := by omega
  replace hZ : n0 ≤ hn G109 ∧ s0 ≤ hs G109 := by omega
  obtain ⟨g110, hd⟩ := gd_ex hd
  obtain ⟨G111, eG111, hd⟩ := bd_ex hd
  refine r_putr (ci := 9) (k := 35) C fl_X9_93 (Or.inr ⟨_, rfl⟩) (Or.inr ⟨rfl, hnm, rfl⟩) dX9_init_237 hR hS g110 (fun H locs hR hS => ?_)
  replace hR : Rp b0 D E G111 H := by rw [eG111]; exact hR
  refine W_cs (c2 := hn G111 - n0) (s2 := hs G111 - s0) (by rw [eG111] <;> rfl) (by rw [eG111] <;> rfl) ?_
  replace hB : b0 ≤ hn G111 := by rw [eG111]; exact hB
  replace hZ : n0 ≤ hn G111 ∧ s0 ≤ hs G111 := by rw [eG111]; exact hZ
  replace hM : hn G111 ≤ hn GG ∧ hs G111 ≤ hs GG := by rw [eG111]; exact hM
  refine x_aload_n C dX9_init_240 hL 0 rfl ?_
  refine lv_bipush (v := 80) hx hb dX9_init_241 (by decide) ?_
  obtain ⟨q112, eq112, hd⟩ := bd_ex hd
  obtain ⟨G113, eG113, hd⟩ := bd_ex hd
  obtain ⟨hM, hd⟩ := mV_ex hd
  have hm1 : hn G113 = hn G111 + 1 ∧ hs G113 = hs G111 + (80 : Int32).toNatClampNeg := by rw [eG113]; exact ⟨rfl, rfl⟩
  refine r_newa (t := 11) C (Or.inl ⟨rfl, rfl⟩) dX9_init_243 hR hS hB hZ (by decide) ⟨by show hn G111 + 1 - n0 ≤ hn GG - n0; omega, by show hs G111 + (80 : Int32).toNatClampNeg - s0 ≤ hs GG - s0; omega⟩ (fun H locs hR hS => ?_)
  rw [← eq112]
  refine W_cs (c2 := hn G113 - n0) (s2 := hs G113 - s0) (by rw [eG113] <;> rfl) (by rw [eG113] <;> rfl) ?_
  replace hR : Rp b0 D E G113 H := by rw [eG113]; exact hR
  replace hB : b0 ≤ hn G113 := by omega
  replace hZ : n0 ≤ hn G113 ∧ s0 ≤ hs G113 := by omega
  obtain ⟨g114, hd⟩ := gd_ex hd
  obtain ⟨G115, eG115, hd⟩ := bd_ex hd
  refine r_putr (ci := 9) (k := 36) C fl_X9_96 (Or.inr ⟨_, rfl⟩) (Or.inr ⟨rfl, hnm, rfl⟩) dX9_init_245 hR hS g114 (fun H locs hR hS => ?_)
  replace hR : Rp b0 D E G115 H := by rw [eG115]; exact hR
  refine W_cs (c2 := hn G115 - n0) (s2 := hs G115 - s0) (by rw [eG115] <;> rfl) (by rw [eG115] <;> rfl) ?_
  replace hB : b0 ≤ hn G115 := by rw [eG115]; exact hB
  replace hZ : n0 ≤ hn G115 ∧ s0 ≤ hs G115 := by rw [eG115]; exact hZ
  replace hM : hn G115 ≤ hn GG ∧ hs G115 ≤ hs GG := by rw [eG115]; exact hM
  refine x_aload_n C dX9_init_248 hL 0 rfl ?_
  refine lv_sipush (v := 1280) hx hb dX9_init_249 (by decide) ?_
  obtain ⟨q116, eq116, hd⟩ := bd_ex hd
  obtain ⟨G117, eG117, hd⟩ := bd_ex hd
  obtain ⟨hM, hd⟩ := mV_ex hd
  have hm1 : hn G117 = hn G115 + 1 ∧ hs G117 = hs G115 + (1280 : Int32).toNatClampNeg := by rw [eG117]; exact ⟨rfl, rfl⟩
  refine r_newa (t := 11) C (Or.inl ⟨rfl, rfl⟩) dX9_init_252 hR hS hB hZ (by decide) ⟨by show hn G115 + 1 - n0 ≤ hn GG - n0; omega, by show hs G115 + (1280 : Int32).toNatClampNeg - s0 ≤ hs GG - s0; omega⟩ (fun H locs hR hS => ?_)
  rw [← eq116]
  refine W_cs (c2 := hn G117 - n0) (s2 := hs G117 - s0) (by rw [eG117] <;> rfl) (by rw [eG117] <;> rfl) ?_
  replace hR : Rp b0 D E G117 H := by rw [eG117]; exact hR
  replace hB : b0 ≤ hn G117 := by omega
  replace hZ : n0 ≤ hn G117 ∧ s0 ≤ hs G117 := by omega
  obtain ⟨g118, hd⟩ := gd_ex hd
  obtain ⟨G119, eG119, hd⟩ := bd_ex hd
  refine r_putr (ci := 9) (k := 37) C fl_X9_99 (Or.inr ⟨_, rfl⟩) (Or.inr ⟨rfl, hnm, rfl⟩) dX9_init_254 hR hS g118 (fun H locs hR hS => ?_)
  replace hR : Rp b0 D E G119 H := by rw [eG119]; exact hR
  refine W_cs (c2 := hn G119 - n0) (s2 := hs G119 - s0) (by rw [eG119] <;> rfl) (by rw [eG119] <;> rfl) ?_
  replace hB : b0 ≤ hn G119 := by rw [eG119]; exact hB
  replace hZ : n0 ≤ hn G119 ∧ s0 ≤ hs G119 := by rw [eG119]; exact hZ
  replace hM : hn G119 ≤ hn GG ∧ hs G119 ≤ hs GG := by rw [eG119]; exact hM
  refine x_aload_n C dX9_init_257 hL 0 rfl ?_
  refine lv_sipush (v := 1280) hx hb dX9_init_258 (by decide) ?_
  obtain ⟨q120, eq120, hd⟩ := bd_ex hd
  obtain ⟨G121, eG121, hd⟩ := bd_ex hd
  obtain ⟨hM, hd⟩ := mV_ex hd
  have hm1 : hn G121 = hn G119 + 1 ∧ hs G121 = hs G119 + (1280 : Int32).toNatClampNeg := by rw [eG121]; exact ⟨rfl, rfl⟩
  refine r_newa (t := 11) C (Or.inl ⟨rfl, rfl⟩) dX9_init_261 hR hS hB hZ (by decide) ⟨by show hn G119 + 1 - n0 ≤ hn GG - n0; omega, by show hs G119 + (1280 : Int32).toNatClampNeg - s0 ≤ hs GG - s0; omega⟩ (fun H locs hR hS => ?_)
  rw [← eq120]
  refine W_cs (c2 := hn G121 - n0) (s2 := hs G121 - s0) (by rw [eG121] <;> rfl) (by rw [eG121] <;> rfl) ?_
  replace hR : Rp b0 D E G121 H := by rw [eG121]; exact hR
  replace hB : b0 ≤ hn G121 := by omega
  replace hZ : n0 ≤ hn G121 ∧ s0 ≤ hs G121 := by omega
  obtain ⟨g122, hd⟩ := gd_ex hd
  obtain ⟨G123, eG123, hd⟩ := bd_ex hd
  refine r_putr (ci := 9) (k := 38) C fl_X9_102 (Or.inr ⟨_, rfl⟩) (Or.inr ⟨rfl, hnm, rfl⟩) dX9_init_263 hR hS g122 (fun H locs hR hS => ?_)
  replace hR : Rp b0 D E G123 H := by rw [eG123]; exact hR
  refine W_cs (c2 := hn G123 - n0) (s2 := hs G123 - s0) (by rw [eG123] <;> rfl) (by rw [eG123] <;> rfl) ?_
  replace hB : b0 ≤ hn G123 := by rw [eG123]; exact hB
  replace hZ : n0 ≤ hn G123 ∧ s0 ≤ hs G123 := by rw [eG123]; exact hZ
  replace hM : hn G123 ≤ hn GG ∧ hs G123 ≤ hs GG := by rw [eG123]; exact hM
  refine x_aload_n C dX9_init_266 hL 0 rfl ?_
  refine lv_sipush (v := 1280) hx hb dX9_init_267 (by decide) ?_
  obtain ⟨q124, eq124, hd⟩ := bd_ex hd
  obtain ⟨G125, eG125, hd⟩ := bd_ex hd
  obtain ⟨hM, hd⟩ := mV_ex hd
  have hm1 : hn G125 = hn G123 + 1 ∧ hs G125 = hs G123 + (1280 : Int32).toNatClampNeg := by rw [eG125]; exact ⟨rfl, rfl⟩
  refine r_newa (t := 11) C (Or.inl ⟨rfl, rfl⟩) dX9_init_270 hR hS hB hZ (by decide) ⟨by show hn G123 + 1 - n0 ≤ hn GG - n0; omega, by show hs G123 + (1280 : Int32).toNatClampNeg - s0 ≤ hs GG - s0; omega⟩ (fun H locs hR hS => ?_)
  rw [← eq124]
  refine W_cs (c2 := hn G125 - n0) (s2 := hs G125 - s0) (by rw [eG125] <;> rfl) (by rw [eG125] <;> rfl) ?_
  replace hR : Rp b0 D E G125 H := by rw [eG125]; exact hR
  replace hB : b0 ≤ hn G125 := by omega
  replace hZ : n0 ≤ hn G125 ∧ s0 ≤ hs G125 := by omega
  obtain ⟨g126, hd⟩ := gd_ex hd
  obtain ⟨G127, eG127, hd⟩ := bd_ex hd
  refine r_putr (ci := 9) (k := 39) C fl_X9_105 (Or.inr ⟨_, rfl⟩) (Or.inr ⟨rfl, hnm, rfl⟩) dX9_init_272 hR hS g126 (fun H locs hR hS => ?_)
  replace hR : Rp b0 D E G127 H := by rw [eG127]; exact hR
  refine W_cs (c2 := hn G127 - n0) (s2 := hs G127 - s0) (by rw [eG127] <;> rfl) (by rw [eG127] <;> rfl) ?_
  replace hB : b0 ≤ hn G127 := by rw [eG127]; exact hB
  replace hZ : n0 ≤ hn G127 ∧ s0 ≤ hs G127 := by rw [eG127]; exact hZ
  replace hM : hn G127 ≤ hn GG ∧ hs G127 ≤ hs GG := by rw [eG127]; exact hM
  refine x_aload_n C dX9_init_275 hL 0 rfl ?_
  refine x_iload_n C dX9_init_276 hL 1 rfl ?_
  refine lv_iconst (v := 1) hx hb dX9_init_277 (by decide) ?_
  refine lv_icmp_ge (tgt := 285) hx hb dX9_init_278 (by decide) (fun c128 => ?_) (fun c128 => ?_)
  · rw [if_pos c128] at hd
    refine x_iload_n C dX9_init_285 hL 1 rfl ?_
    refine lv_bipush (v := 10) hx hb dX9_init_286 (by decide) ?_
    refine lv_icmp_le (tgt := 296) hx hb dX9_init_288 (by decide) (fun c129 => ?_) (fun c129 => ?_)
    · rw [if_pos c129] at hd
      refine x_iload_n C dX9_init_296 hL 1 rfl ?_
      obtain ⟨g130, hd⟩ := gd_ex hd
      obtain ⟨G131, eG131, hd⟩ := bd_ex hd
      refine r_puti (ci := 9) (k := 1) C fl_X9_108 rfl (Or.inr ⟨rfl, hnm, rfl⟩) dX9_init_297 hR hS g130 (fun H locs hR hS => ?_)
      replace hR : Rp b0 D E G131 H := by rw [eG131]; exact hR
      refine W_cs (c2 := hn G131 - n0) (s2 := hs G131 - s0) (by rw [eG131] <;> rfl) (by rw [eG131] <;> rfl) ?_
      replace hB : b0 ≤ hn G131 := by rw [eG131]; exact hB
      replace hZ : n0 ≤ hn G131 ∧ s0 ≤ hs G131 := by rw [eG131]; exact hZ
      replace hM : hn G131 ≤ hn GG ∧ hs G131 ≤ hs GG := by rw [eG131]; exact hM
      refine lv_iconst (v := 0) hx hb dX9_init_300 (by decide) ?_
      refine x_istore_n (lv' := [(2, .inl 0), (0, .inr x0), (1, .inl x1)]) C dX9_init_301 hL (by decide) rfl (fun ls hL => ?_)
      exact k_X9_init_302 C hnm FU (lx_sub hL [1, 0] rfl) hR hS hB hZ hd
    · rw [if_neg c129] at hd
      refine lv_bipush (v := 10) hx hb dX9_init_291 (by decide) ?_
      refine lv_goto (tgt := 297) hx hb dX9_init_293 (by decide) ?_
      obtain ⟨g132, hd⟩ := gd_ex hd
      obtain ⟨G133, eG133, hd⟩ := bd_ex hd
      refine r_puti (ci := 9) (k := 1) C fl_X9_108 rfl (Or.inr ⟨rfl, hnm, rfl⟩) dX9_init_297 hR hS g132 (fun H locs hR hS => ?_)
      replace hR : Rp b0 D E G133 H := by rw [eG133]; exact hR
      refine W_cs (c2 := hn G133 - n0) (s2 := hs G133 - s0) (by rw [eG133] <;> rfl) (by rw [eG133] <;> rfl) ?_
      replace hB : b0 ≤ hn G133 := by rw [eG133]; exact hB
      replace hZ : n0 ≤ hn G133 ∧ s0 ≤ hs G133 := by rw [eG133]; exact hZ
      replace hM : hn G133 ≤ hn GG ∧ hs G133 ≤ hs GG := by rw [eG133]; exact hM
      refine lv_iconst (v := 0) hx hb dX9_init_300 (by decide) ?_
      refine x_istore_n (lv' := [(2, .inl 0), (0, .inr x0), (1, .inl x1)]) C dX9_init_301 hL (by decide) rfl (fun ls hL => ?_)
      exact k_X9_init_302 C hnm FU (lx_sub hL [1, 0] rfl) hR hS hB hZ hd
  · rw [if_neg c128] at hd
    refine lv_iconst (v := 1) hx hb dX9_init_281 (by decide) ?_
    refine lv_goto (tgt := 297) hx hb dX9_init_282 (by decide) ?_
    obtain ⟨g134, hd⟩ := gd_ex hd
    obtain ⟨G135, eG135, hd⟩ := bd_ex hd
    refine r_puti (ci := 9) (k := 1) C fl_X9_108 rfl (Or.inr ⟨rfl, hnm, rfl⟩) dX9_init_297 hR hS g134 (fun H locs hR hS => ?_)
    replace hR : Rp b0 D E G135 H := by rw [eG135]; exact hR
    refine W_cs (c2 := hn G135 - n0) (s2 := hs G135 - s0) (by rw [eG135] <;> rfl) (by rw [eG135] <;> rfl) ?_
    replace hB : b0 ≤ hn G135 := by rw [eG135]; exact hB
    replace hZ : n0 ≤ hn G135 ∧ s0 ≤ hs G135 := by rw [eG135]; exact hZ
    replace hM : hn G135 ≤ hn GG ∧ hs G135 ≤ hs GG := by rw [eG135]; exact hM
    refine lv_iconst (v := 0) hx hb dX9_init_300 (by decide) ?_
    refine x_istore_n (lv' := [(2, .inl 0), (0, .inr x0), (1, .inl x1)]) C dX9_init_301 hL (by decide) rfl (fun ls hL => ?_)
    exact k_X9_init_302 C hnm FU (lx_sub hL [1, 0] rfl) hR hS hB hZ hd
end
set_option maxHeartbeats 4000000 in
set_option maxRecDepth 100000 in
theorem ct_X9_init {l : Launch} {b0 : Nat} {D : va_G} {E : Nat → ClassId} {G : Hp} {a0 : Nat} {a1 : Int32} {GG : Hp} (hB : b0 ≤ hn G) (hd : d_X9_init a0 a1 G = some GG) : CT l yX9_init cX9_init 3 none 1 (hn GG - hn G) (hs GG - hs G) b0 D E [rv a0, .int a1] G none GG := by
  refine CT_of (by decide +kernel) ?_
  intro p e s m below meth c C hnm hR
  refine r_entry [.inr a0, .inl a1] (n := 3) (Nat.le_of_ble_eq_true rfl) (lv := [(0, .inr a0), (1, .inl a1)]) rfl (fun ls hL => ?_)
  have k := k_X9_init (n0 := hn G) (s0 := hs G) (l := l) (e := e) (below := below) (H := s.heap) (locs := []) C hnm (lx_sub hL [0, 1] rfl) hR ⟨fun _ _ => rfl, fun _ h => by cases h⟩ hB ⟨Nat.le_refl _, Nat.le_refl _⟩ hd
  rw [Nat.sub_self, Nat.sub_self] at k
  exact k

/-! GroveWorksModel.isRouter(I)Z pure -/
theorem dX9_isRouter_0 : decode cX9_isRouter 0 = .ok (.iload_n 1, 1) := by decide +kernel
theorem dX9_isRouter_1 : decode cX9_isRouter 1 = .ok (.ifCond .lt 15, 3) := by decide +kernel
theorem dX9_isRouter_4 : decode cX9_isRouter 4 = .ok (.iload_n 1, 1) := by decide +kernel
theorem dX9_isRouter_5 : decode cX9_isRouter 5 = .ok (.aload_n 0, 1) := by decide +kernel
theorem dX9_isRouter_6 : decode cX9_isRouter 6 = .ok (.getfield 108, 3) := by decide +kernel
theorem dX9_isRouter_9 : decode cX9_isRouter 9 = .ok (.if_icmp .ge 7, 3) := by decide +kernel
theorem dX9_isRouter_12 : decode cX9_isRouter 12 = .ok (.iconst 1, 1) := by decide +kernel
theorem dX9_isRouter_13 : decode cX9_isRouter 13 = .ok (.goto 4, 3) := by decide +kernel
theorem dX9_isRouter_16 : decode cX9_isRouter 16 = .ok (.iconst 0, 1) := by decide +kernel
theorem dX9_isRouter_17 : decode cX9_isRouter 17 = .ok (.ireturn, 1) := by decide +kernel
def d_X9_isRouter (x0 : Nat) (x1 : Int32) (G : Hp) : Option (Int32) :=
  if x1 < 0 then
    some 0
  else
    gd (hc G x0 = 10) <|
    if ((hi G x0 1)) ≤ x1 then
      some 0
    else
      some 1
section
variable {p : Program} {l : Launch} {e : Env} {s : State} {m : MethodId} {args : Array Value} {below : List Frame} {meth : Method} {c : Code} {b0 : Nat} {D : va_G} {E : Nat → ClassId}
set_option maxHeartbeats 4000000 in
set_option maxRecDepth 100000 in
theorem k_X9_isRouter (C : Cx p s m args meth c RX9 cX9_isRouter 2 (some .boolean) b0 D E) {rr : Int32} {G : Hp} {x0 : Nat} {x1 : Int32} {ls : Array Slot} {H : Heap} {locs : List Loc} : lx ls 2 [(0, .inr x0), (1, .inl x1)] → Rp b0 D E G H → SS b0 s H locs → d_X9_isRouter x0 x1 G = some rr → W p l e (rmd 0 (0) (0)) s m args below meth c H locs (0) (0) (MQ below (CQ b0 D E (some (.int rr)) G) args s (0) (0) (fun q => b0 ≤ q)) (F0 m 0 ls []) := by
  intro hL hR hS hd
  unfold d_X9_isRouter at hd
  have hx := C.1
  have hb := C.2.1
  refine x_iload_n C dX9_isRouter_0 hL 1 rfl ?_
  refine lv_if_lt (tgt := 16) hx hb dX9_isRouter_1 (by decide) (fun c1 => ?_) (fun c1 => ?_)
  · rw [if_pos c1] at hd
    refine lv_iconst (v := 0) hx hb dX9_isRouter_16 (by decide) ?_
    cases hd
    exact r_zret C (by decide) dX9_isRouter_17 hR hS
  · rw [if_neg c1] at hd
    refine x_iload_n C dX9_isRouter_4 hL 1 rfl ?_
    refine x_aload_n C dX9_isRouter_5 hL 0 rfl ?_
    obtain ⟨g2, hd⟩ := gd_ex hd
    refine r_geti (ci := 9) (k := 1) C fl_X9_108 rfl dX9_isRouter_6 hR g2 ?_
    refine lv_icmp_ge (tgt := 16) hx hb dX9_isRouter_9 (by decide) (fun c3 => ?_) (fun c3 => ?_)
    · rw [if_pos c3] at hd
      refine lv_iconst (v := 0) hx hb dX9_isRouter_16 (by decide) ?_
      cases hd
      exact r_zret C (by decide) dX9_isRouter_17 hR hS
    · rw [if_neg c3] at hd
      refine lv_iconst (v := 1) hx hb dX9_isRouter_12 (by decide) ?_
      refine lv_goto (tgt := 17) hx hb dX9_isRouter_13 (by decide) ?_
      cases hd
      exact r_zret C (by decide) dX9_isRouter_17 hR hS
end
set_option maxHeartbeats 4000000 in
set_option maxRecDepth 100000 in
theorem ct_X9_isRouter {l : Launch} {b0 : Nat} {D : va_G} {E : Nat → ClassId} {G : Hp} {a0 : Nat} {a1 : Int32} {rr : Int32} (hd : d_X9_isRouter a0 a1 G = some rr) : CT l yX9_isRouter cX9_isRouter 2 (some .boolean) 0 0 0 b0 D E [rv a0, .int a1] G (some (.int rr)) G := by
  refine CT_of (by decide +kernel) ?_
  intro p e s m below meth c C hnm hR
  refine r_entry [.inr a0, .inl a1] (n := 2) (Nat.le_of_ble_eq_true rfl) (lv := [(0, .inr a0), (1, .inl a1)]) rfl (fun ls hL => ?_)
  exact k_X9_isRouter C (lx_sub hL [0, 1] rfl) hR ⟨fun _ _ => rfl, fun _ h => by cases h⟩ hd

/-! GroveWorksModel.isPort(I)Z pure -/
theorem dX9_isPort_0 : decode cX9_isPort 0 = .ok (.iload_n 0, 1) := by decide +kernel
theorem dX9_isPort_1 : decode cX9_isPort 1 = .ok (.ifCond .lt 12, 3) := by decide +kernel
theorem dX9_isPort_4 : decode cX9_isPort 4 = .ok (.iload_n 0, 1) := by decide +kernel
theorem dX9_isPort_5 : decode cX9_isPort 5 = .ok (.iconst 4, 1) := by decide +kernel
theorem dX9_isPort_6 : decode cX9_isPort 6 = .ok (.if_icmp .ge 7, 3) := by decide +kernel
theorem dX9_isPort_9 : decode cX9_isPort 9 = .ok (.iconst 1, 1) := by decide +kernel
theorem dX9_isPort_10 : decode cX9_isPort 10 = .ok (.goto 4, 3) := by decide +kernel
theorem dX9_isPort_13 : decode cX9_isPort 13 = .ok (.iconst 0, 1) := by decide +kernel
theorem dX9_isPort_14 : decode cX9_isPort 14 = .ok (.ireturn, 1) := by decide +kernel
def d_X9_isPort (x0 : Int32) (G : Hp) : Option (Int32) :=
  if x0 < 0 then
    some 0
  else
    if 4 ≤ x0 then
      some 0
    else
      some 1
section
variable {p : Program} {l : Launch} {e : Env} {s : State} {m : MethodId} {args : Array Value} {below : List Frame} {meth : Method} {c : Code} {b0 : Nat} {D : va_G} {E : Nat → ClassId}
set_option maxHeartbeats 4000000 in
set_option maxRecDepth 100000 in
theorem k_X9_isPort (C : Cx p s m args meth c RX9 cX9_isPort 1 (some .boolean) b0 D E) {rr : Int32} {G : Hp} {x0 : Int32} {ls : Array Slot} {H : Heap} {locs : List Loc} : lx ls 1 [(0, .inl x0)] → Rp b0 D E G H → SS b0 s H locs → d_X9_isPort x0 G = some rr → W p l e (rmd 0 (0) (0)) s m args below meth c H locs (0) (0) (MQ below (CQ b0 D E (some (.int rr)) G) args s (0) (0) (fun q => b0 ≤ q)) (F0 m 0 ls []) := by
  intro hL hR hS hd
  unfold d_X9_isPort at hd
  have hx := C.1
  have hb := C.2.1
  refine x_iload_n C dX9_isPort_0 hL 0 rfl ?_
  refine lv_if_lt (tgt := 13) hx hb dX9_isPort_1 (by decide) (fun c1 => ?_) (fun c1 => ?_)
  · rw [if_pos c1] at hd
    refine lv_iconst (v := 0) hx hb dX9_isPort_13 (by decide) ?_
    cases hd
    exact r_zret C (by decide) dX9_isPort_14 hR hS
  · rw [if_neg c1] at hd
    refine x_iload_n C dX9_isPort_4 hL 0 rfl ?_
    refine lv_iconst (v := 4) hx hb dX9_isPort_5 (by decide) ?_
    refine lv_icmp_ge (tgt := 13) hx hb dX9_isPort_6 (by decide) (fun c2 => ?_) (fun c2 => ?_)
    · rw [if_pos c2] at hd
      refine lv_iconst (v := 0) hx hb dX9_isPort_13 (by decide) ?_
      cases hd
      exact r_zret C (by decide) dX9_isPort_14 hR hS
    · rw [if_neg c2] at hd
      refine lv_iconst (v := 1) hx hb dX9_isPort_9 (by decide) ?_
      refine lv_goto (tgt := 14) hx hb dX9_isPort_10 (by decide) ?_
      cases hd
      exact r_zret C (by decide) dX9_isPort_14 hR hS
end
set_option maxHeartbeats 4000000 in
set_option maxRecDepth 100000 in
theorem ct_X9_isPort {l : Launch} {b0 : Nat} {D : va_G} {E : Nat → ClassId} {G : Hp} {a0 : Int32} {rr : Int32} (hd : d_X9_isPort a0 G = some rr) : CT l yX9_isPort cX9_isPort 1 (some .boolean) 0 0 0 b0 D E [.int a0] G (some (.int rr)) G := by
  refine CT_of (by decide +kernel) ?_
  intro p e s m below meth c C hnm hR
  refine r_entry [.inl a0] (n := 1) (Nat.le_of_ble_eq_true rfl) (lv := [(0, .inl a0)]) rfl (fun ls hL => ?_)
  exact k_X9_isPort C (lx_sub hL [0] rfl) hR ⟨fun _ _ => rfl, fun _ h => by cases h⟩ hd

/-! GroveWorksModel.isWire(I)Z pure -/
theorem dX9_isWire_0 : decode cX9_isWire 0 = .ok (.iload_n 0, 1) := by decide +kernel
theorem dX9_isWire_1 : decode cX9_isWire 1 = .ok (.ifCond .lt 13, 3) := by decide +kernel
theorem dX9_isWire_4 : decode cX9_isWire 4 = .ok (.iload_n 0, 1) := by decide +kernel
theorem dX9_isWire_5 : decode cX9_isWire 5 = .ok (.bipush 16, 2) := by decide +kernel
theorem dX9_isWire_7 : decode cX9_isWire 7 = .ok (.if_icmp .ge 7, 3) := by decide +kernel
theorem dX9_isWire_10 : decode cX9_isWire 10 = .ok (.iconst 1, 1) := by decide +kernel
theorem dX9_isWire_11 : decode cX9_isWire 11 = .ok (.goto 4, 3) := by decide +kernel
theorem dX9_isWire_14 : decode cX9_isWire 14 = .ok (.iconst 0, 1) := by decide +kernel
theorem dX9_isWire_15 : decode cX9_isWire 15 = .ok (.ireturn, 1) := by decide +kernel
def d_X9_isWire (x0 : Int32) (G : Hp) : Option (Int32) :=
  if x0 < 0 then
    some 0
  else
    if 16 ≤ x0 then
      some 0
    else
      some 1
section
variable {p : Program} {l : Launch} {e : Env} {s : State} {m : MethodId} {args : Array Value} {below : List Frame} {meth : Method} {c : Code} {b0 : Nat} {D : va_G} {E : Nat → ClassId}
set_option maxHeartbeats 4000000 in
set_option maxRecDepth 100000 in
theorem k_X9_isWire (C : Cx p s m args meth c RX9 cX9_isWire 1 (some .boolean) b0 D E) {rr : Int32} {G : Hp} {x0 : Int32} {ls : Array Slot} {H : Heap} {locs : List Loc} : lx ls 1 [(0, .inl x0)] → Rp b0 D E G H → SS b0 s H locs → d_X9_isWire x0 G = some rr → W p l e (rmd 0 (0) (0)) s m args below meth c H locs (0) (0) (MQ below (CQ b0 D E (some (.int rr)) G) args s (0) (0) (fun q => b0 ≤ q)) (F0 m 0 ls []) := by
  intro hL hR hS hd
  unfold d_X9_isWire at hd
  have hx := C.1
  have hb := C.2.1
  refine x_iload_n C dX9_isWire_0 hL 0 rfl ?_
  refine lv_if_lt (tgt := 14) hx hb dX9_isWire_1 (by decide) (fun c1 => ?_) (fun c1 => ?_)
  · rw [if_pos c1] at hd
    refine lv_iconst (v := 0) hx hb dX9_isWire_14 (by decide) ?_
    cases hd
    exact r_zret C (by decide) dX9_isWire_15 hR hS
  · rw [if_neg c1] at hd
    refine x_iload_n C dX9_isWire_4 hL 0 rfl ?_
    refine lv_bipush (v := 16) hx hb dX9_isWire_5 (by decide) ?_
    refine lv_icmp_ge (tgt := 14) hx hb dX9_isWire_7 (by decide) (fun c2 => ?_) (fun c2 => ?_)
    · rw [if_pos c2] at hd
      refine lv_iconst (v := 0) hx hb dX9_isWire_14 (by decide) ?_
      cases hd
      exact r_zret C (by decide) dX9_isWire_15 hR hS
    · rw [if_neg c2] at hd
      refine lv_iconst (v := 1) hx hb dX9_isWire_10 (by decide) ?_
      refine lv_goto (tgt := 15) hx hb dX9_isWire_11 (by decide) ?_
      cases hd
      exact r_zret C (by decide) dX9_isWire_15 hR hS
end
set_option maxHeartbeats 4000000 in
set_option maxRecDepth 100000 in
theorem ct_X9_isWire {l : Launch} {b0 : Nat} {D : va_G} {E : Nat → ClassId} {G : Hp} {a0 : Int32} {rr : Int32} (hd : d_X9_isWire a0 G = some rr) : CT l yX9_isWire cX9_isWire 1 (some .boolean) 0 0 0 b0 D E [.int a0] G (some (.int rr)) G := by
  refine CT_of (by decide +kernel) ?_
  intro p e s m below meth c C hnm hR
  refine r_entry [.inl a0] (n := 1) (Nat.le_of_ble_eq_true rfl) (lv := [(0, .inl a0)]) rfl (fun ls hL => ?_)
  exact k_X9_isWire C (lx_sub hL [0] rfl) hR ⟨fun _ _ => rfl, fun _ h => by cases h⟩ hd

/-! GroveWorksModel.isHost(I)Z pure -/
theorem dX9_isHost_0 : decode cX9_isHost 0 = .ok (.iload_n 0, 1) := by decide +kernel
theorem dX9_isHost_1 : decode cX9_isHost 1 = .ok (.ifCond .lt 13, 3) := by decide +kernel
theorem dX9_isHost_4 : decode cX9_isHost 4 = .ok (.iload_n 0, 1) := by decide +kernel
theorem dX9_isHost_5 : decode cX9_isHost 5 = .ok (.bipush 16, 2) := by decide +kernel
theorem dX9_isHost_7 : decode cX9_isHost 7 = .ok (.if_icmp .ge 7, 3) := by decide +kernel
theorem dX9_isHost_10 : decode cX9_isHost 10 = .ok (.iconst 1, 1) := by decide +kernel
theorem dX9_isHost_11 : decode cX9_isHost 11 = .ok (.goto 4, 3) := by decide +kernel
theorem dX9_isHost_14 : decode cX9_isHost 14 = .ok (.iconst 0, 1) := by decide +kernel
theorem dX9_isHost_15 : decode cX9_isHost 15 = .ok (.ireturn, 1) := by decide +kernel
def d_X9_isHost (x0 : Int32) (G : Hp) : Option (Int32) :=
  if x0 < 0 then
    some 0
  else
    if 16 ≤ x0 then
      some 0
    else
      some 1
section
variable {p : Program} {l : Launch} {e : Env} {s : State} {m : MethodId} {args : Array Value} {below : List Frame} {meth : Method} {c : Code} {b0 : Nat} {D : va_G} {E : Nat → ClassId}
set_option maxHeartbeats 4000000 in
set_option maxRecDepth 100000 in
theorem k_X9_isHost (C : Cx p s m args meth c RX9 cX9_isHost 1 (some .boolean) b0 D E) {rr : Int32} {G : Hp} {x0 : Int32} {ls : Array Slot} {H : Heap} {locs : List Loc} : lx ls 1 [(0, .inl x0)] → Rp b0 D E G H → SS b0 s H locs → d_X9_isHost x0 G = some rr → W p l e (rmd 0 (0) (0)) s m args below meth c H locs (0) (0) (MQ below (CQ b0 D E (some (.int rr)) G) args s (0) (0) (fun q => b0 ≤ q)) (F0 m 0 ls []) := by
  intro hL hR hS hd
  unfold d_X9_isHost at hd
  have hx := C.1
  have hb := C.2.1
  refine x_iload_n C dX9_isHost_0 hL 0 rfl ?_
  refine lv_if_lt (tgt := 14) hx hb dX9_isHost_1 (by decide) (fun c1 => ?_) (fun c1 => ?_)
  · rw [if_pos c1] at hd
    refine lv_iconst (v := 0) hx hb dX9_isHost_14 (by decide) ?_
    cases hd
    exact r_zret C (by decide) dX9_isHost_15 hR hS
  · rw [if_neg c1] at hd
    refine x_iload_n C dX9_isHost_4 hL 0 rfl ?_
    refine lv_bipush (v := 16) hx hb dX9_isHost_5 (by decide) ?_
    refine lv_icmp_ge (tgt := 14) hx hb dX9_isHost_7 (by decide) (fun c2 => ?_) (fun c2 => ?_)
    · rw [if_pos c2] at hd
      refine lv_iconst (v := 0) hx hb dX9_isHost_14 (by decide) ?_
      cases hd
      exact r_zret C (by decide) dX9_isHost_15 hR hS
    · rw [if_neg c2] at hd
      refine lv_iconst (v := 1) hx hb dX9_isHost_10 (by decide) ?_
      refine lv_goto (tgt := 15) hx hb dX9_isHost_11 (by decide) ?_
      cases hd
      exact r_zret C (by decide) dX9_isHost_15 hR hS
end
set_option maxHeartbeats 4000000 in
set_option maxRecDepth 100000 in
theorem ct_X9_isHost {l : Launch} {b0 : Nat} {D : va_G} {E : Nat → ClassId} {G : Hp} {a0 : Int32} {rr : Int32} (hd : d_X9_isHost a0 G = some rr) : CT l yX9_isHost cX9_isHost 1 (some .boolean) 0 0 0 b0 D E [.int a0] G (some (.int rr)) G := by
  refine CT_of (by decide +kernel) ?_
  intro p e s m below meth c C hnm hR
  refine r_entry [.inl a0] (n := 1) (Nat.le_of_ble_eq_true rfl) (lv := [(0, .inl a0)]) rfl (fun ls hL => ?_)
  exact k_X9_isHost C (lx_sub hL [0] rfl) hR ⟨fun _ _ => rfl, fun _ h => by cases h⟩ hd

/-! GroveWorksModel.isGroup(I)Z pure -/
theorem dX9_isGroup_0 : decode cX9_isGroup 0 = .ok (.iload_n 0, 1) := by decide +kernel
theorem dX9_isGroup_1 : decode cX9_isGroup 1 = .ok (.ifCond .lt 13, 3) := by decide +kernel
theorem dX9_isGroup_4 : decode cX9_isGroup 4 = .ok (.iload_n 0, 1) := by decide +kernel
theorem dX9_isGroup_5 : decode cX9_isGroup 5 = .ok (.bipush 8, 2) := by decide +kernel
theorem dX9_isGroup_7 : decode cX9_isGroup 7 = .ok (.if_icmp .ge 7, 3) := by decide +kernel
theorem dX9_isGroup_10 : decode cX9_isGroup 10 = .ok (.iconst 1, 1) := by decide +kernel
theorem dX9_isGroup_11 : decode cX9_isGroup 11 = .ok (.goto 4, 3) := by decide +kernel
theorem dX9_isGroup_14 : decode cX9_isGroup 14 = .ok (.iconst 0, 1) := by decide +kernel
theorem dX9_isGroup_15 : decode cX9_isGroup 15 = .ok (.ireturn, 1) := by decide +kernel
def d_X9_isGroup (x0 : Int32) (G : Hp) : Option (Int32) :=
  if x0 < 0 then
    some 0
  else
    if 8 ≤ x0 then
      some 0
    else
      some 1
section
variable {p : Program} {l : Launch} {e : Env} {s : State} {m : MethodId} {args : Array Value} {below : List Frame} {meth : Method} {c : Code} {b0 : Nat} {D : va_G} {E : Nat → ClassId}
set_option maxHeartbeats 4000000 in
set_option maxRecDepth 100000 in
theorem k_X9_isGroup (C : Cx p s m args meth c RX9 cX9_isGroup 1 (some .boolean) b0 D E) {rr : Int32} {G : Hp} {x0 : Int32} {ls : Array Slot} {H : Heap} {locs : List Loc} : lx ls 1 [(0, .inl x0)] → Rp b0 D E G H → SS b0 s H locs → d_X9_isGroup x0 G = some rr → W p l e (rmd 0 (0) (0)) s m args below meth c H locs (0) (0) (MQ below (CQ b0 D E (some (.int rr)) G) args s (0) (0) (fun q => b0 ≤ q)) (F0 m 0 ls []) := by
  intro hL hR hS hd
  unfold d_X9_isGroup at hd
  have hx := C.1
  have hb := C.2.1
  refine x_iload_n C dX9_isGroup_0 hL 0 rfl ?_
  refine lv_if_lt (tgt := 14) hx hb dX9_isGroup_1 (by decide) (fun c1 => ?_) (fun c1 => ?_)
  · rw [if_pos c1] at hd
    refine lv_iconst (v := 0) hx hb dX9_isGroup_14 (by decide) ?_
    cases hd
    exact r_zret C (by decide) dX9_isGroup_15 hR hS
  · rw [if_neg c1] at hd
    refine x_iload_n C dX9_isGroup_4 hL 0 rfl ?_
    refine lv_bipush (v := 8) hx hb dX9_isGroup_5 (by decide) ?_
    refine lv_icmp_ge (tgt := 14) hx hb dX9_isGroup_7 (by decide) (fun c2 => ?_) (fun c2 => ?_)
    · rw [if_pos c2] at hd
      refine lv_iconst (v := 0) hx hb dX9_isGroup_14 (by decide) ?_
      cases hd
      exact r_zret C (by decide) dX9_isGroup_15 hR hS
    · rw [if_neg c2] at hd
      refine lv_iconst (v := 1) hx hb dX9_isGroup_10 (by decide) ?_
      refine lv_goto (tgt := 15) hx hb dX9_isGroup_11 (by decide) ?_
      cases hd
      exact r_zret C (by decide) dX9_isGroup_15 hR hS
end
set_option maxHeartbeats 4000000 in
set_option maxRecDepth 100000 in
theorem ct_X9_isGroup {l : Launch} {b0 : Nat} {D : va_G} {E : Nat → ClassId} {G : Hp} {a0 : Int32} {rr : Int32} (hd : d_X9_isGroup a0 G = some rr) : CT l yX9_isGroup cX9_isGroup 1 (some .boolean) 0 0 0 b0 D E [.int a0] G (some (.int rr)) G := by
  refine CT_of (by decide +kernel) ?_
  intro p e s m below meth c C hnm hR
  refine r_entry [.inl a0] (n := 1) (Nat.le_of_ble_eq_true rfl) (lv := [(0, .inl a0)]) rfl (fun ls hL => ?_)
  exact k_X9_isGroup C (lx_sub hL [0] rfl) hR ⟨fun _ _ => rfl, fun _ h => by cases h⟩ hd

/-! GroveWorksModel.portOn(II)I pure -/
theorem dX9_portOn_0 : decode cX9_portOn 0 = .ok (.iconst 0, 1) := by decide +kernel
theorem dX9_portOn_1 : decode cX9_portOn 1 = .ok (.istore_n 3, 1) := by decide +kernel
theorem dX9_portOn_2 : decode cX9_portOn 2 = .ok (.iload_n 3, 1) := by decide +kernel
theorem dX9_portOn_3 : decode cX9_portOn 3 = .ok (.iconst 4, 1) := by decide +kernel
theorem dX9_portOn_4 : decode cX9_portOn 4 = .ok (.if_icmp .ge 25, 3) := by decide +kernel
theorem dX9_portOn_7 : decode cX9_portOn 7 = .ok (.aload_n 0, 1) := by decide +kernel
theorem dX9_portOn_8 : decode cX9_portOn 8 = .ok (.getfield 7, 3) := by decide +kernel
theorem dX9_portOn_11 : decode cX9_portOn 11 = .ok (.iconst 4, 1) := by decide +kernel
theorem dX9_portOn_12 : decode cX9_portOn 12 = .ok (.iload_n 1, 1) := by decide +kernel
theorem dX9_portOn_13 : decode cX9_portOn 13 = .ok (.imul, 1) := by decide +kernel
theorem dX9_portOn_14 : decode cX9_portOn 14 = .ok (.iload_n 3, 1) := by decide +kernel
theorem dX9_portOn_15 : decode cX9_portOn 15 = .ok (.iadd, 1) := by decide +kernel
theorem dX9_portOn_16 : decode cX9_portOn 16 = .ok (.iaload, 1) := by decide +kernel
theorem dX9_portOn_17 : decode cX9_portOn 17 = .ok (.iload_n 2, 1) := by decide +kernel
theorem dX9_portOn_18 : decode cX9_portOn 18 = .ok (.if_icmp .ne 5, 3) := by decide +kernel
theorem dX9_portOn_21 : decode cX9_portOn 21 = .ok (.iload_n 3, 1) := by decide +kernel
theorem dX9_portOn_22 : decode cX9_portOn 22 = .ok (.ireturn, 1) := by decide +kernel
theorem dX9_portOn_23 : decode cX9_portOn 23 = .ok (.iinc 3 1, 3) := by decide +kernel
theorem dX9_portOn_26 : decode cX9_portOn 26 = .ok (.goto (-24), 3) := by decide +kernel
theorem dX9_portOn_29 : decode cX9_portOn 29 = .ok (.iconst (-1), 1) := by decide +kernel
theorem dX9_portOn_30 : decode cX9_portOn 30 = .ok (.ireturn, 1) := by decide +kernel
def d_X9_portOn_2 : Nat → Nat → Int32 → Int32 → Int32 → Hp → Option (Int32)
  | 0, _, _, _, _, _ => none
  | n_ + 1, x0, x1, x2, x3, G =>
    if 4 ≤ x3 then
      some (-1)
    else
      gd (hc G x0 = 10) <|
      gd (hc G ((hr G x0 8)) = 11 ∧ ix ((((4 * x1)) + x3)) (hl G ((hr G x0 8)))) <|
      if ((hi G ((hr G x0 8)) ((((4 * x1)) + x3)).toNatClampNeg)) = x2 then
        some x3
      else
        d_X9_portOn_2 n_ x0 x1 x2 ((x3 + 1)) G
def d_X9_portOn (x0 : Nat) (x1 : Int32) (x2 : Int32) (G : Hp) : Option (Int32) :=
  d_X9_portOn_2 FU x0 x1 x2 0 G
section
variable {p : Program} {l : Launch} {e : Env} {s : State} {m : MethodId} {args : Array Value} {below : List Frame} {meth : Method} {c : Code} {b0 : Nat} {D : va_G} {E : Nat → ClassId}
set_option maxHeartbeats 4000000 in
set_option maxRecDepth 100000 in
theorem k_X9_portOn_2 (C : Cx p s m args meth c RX9 cX9_portOn 4 (some .int) b0 D E) {rr : Int32} {G : Hp} : ∀ (n_ : Nat) {x0 : Nat} {x1 : Int32} {x2 : Int32} {x3 : Int32} {ls : Array Slot} {H : Heap} {locs : List Loc}, lx ls 4 [(0, .inr x0), (1, .inl x1), (2, .inl x2), (3, .inl x3)] → Rp b0 D E G H → SS b0 s H locs → d_X9_portOn_2 n_ x0 x1 x2 x3 G = some rr → W p l e (rmd 0 (0) (0)) s m args below meth c H locs (0) (0) (MQ below (CQ b0 D E (some (.int rr)) G) args s (0) (0) (fun q => b0 ≤ q)) (F0 m 2 ls []) := by
  intro n_
  induction n_ with
  | zero =>
    intro x0 x1 x2 x3 ls H locs hL hR hS hd
    cases (show (none : Option _) = some _ from hd)
  | succ n_ ih =>
    intro x0 x1 x2 x3 ls H locs hL hR hS hd
    rw [d_X9_portOn_2.eq_2] at hd
    have hx := C.1
    have hb := C.2.1
    refine x_iload_n C dX9_portOn_2 hL 3 rfl ?_
    refine lv_iconst (v := 4) hx hb dX9_portOn_3 (by decide) ?_
    refine lv_icmp_ge (tgt := 29) hx hb dX9_portOn_4 (by decide) (fun c1 => ?_) (fun c1 => ?_)
    · rw [if_pos c1] at hd
      refine lv_iconst (v := (-1)) hx hb dX9_portOn_29 (by decide) ?_
      cases hd
      exact r_iret C dX9_portOn_30 hR hS
    · rw [if_neg c1] at hd
      refine x_aload_n C dX9_portOn_7 hL 0 rfl ?_
      obtain ⟨g2, hd⟩ := gd_ex hd
      refine r_getr (ci := 9) (k := 8) C fl_X9_7 rfl dX9_portOn_8 hR g2 ?_
      refine lv_iconst (v := 4) hx hb dX9_portOn_11 (by decide) ?_
      refine x_iload_n C dX9_portOn_12 hL 1 rfl ?_
      refine lv_imul hx hb dX9_portOn_13 ?_
      refine x_iload_n C dX9_portOn_14 hL 3 rfl ?_
      refine lv_iadd hx hb dX9_portOn_15 ?_
      obtain ⟨g3, hd⟩ := gd_ex hd
      refine r_iald C dX9_portOn_16 hR g3 ?_
      refine x_iload_n C dX9_portOn_17 hL 2 rfl ?_
      refine lv_icmp_ne (tgt := 23) hx hb dX9_portOn_18 (by decide) (fun c4 => ?_) (fun c4 => ?_)
      · rw [if_neg c4] at hd
        refine x_iinc (lv' := [(3, .inl ((x3 + 1))), (0, .inr x0), (1, .inl x1), (2, .inl x2)]) C dX9_portOn_23 hL 3 rfl rfl (by decide) rfl (fun ls hL => ?_)
        refine lv_goto (tgt := 2) hx hb dX9_portOn_26 (by decide) ?_
        exact ih (lx_sub hL [1, 2, 3, 0] rfl) hR hS hd
      · rw [if_pos c4] at hd
        refine x_iload_n C dX9_portOn_21 hL 3 rfl ?_
        cases hd
        exact r_iret C dX9_portOn_22 hR hS
set_option maxHeartbeats 4000000 in
set_option maxRecDepth 100000 in
theorem k_X9_portOn (C : Cx p s m args meth c RX9 cX9_portOn 4 (some .int) b0 D E) {rr : Int32} {G : Hp} {x0 : Nat} {x1 : Int32} {x2 : Int32} {ls : Array Slot} {H : Heap} {locs : List Loc} : lx ls 4 [(0, .inr x0), (1, .inl x1), (2, .inl x2)] → Rp b0 D E G H → SS b0 s H locs → d_X9_portOn x0 x1 x2 G = some rr → W p l e (rmd 0 (0) (0)) s m args below meth c H locs (0) (0) (MQ below (CQ b0 D E (some (.int rr)) G) args s (0) (0) (fun q => b0 ≤ q)) (F0 m 0 ls []) := by
  intro hL hR hS hd
  unfold d_X9_portOn at hd
  have hx := C.1
  have hb := C.2.1
  refine lv_iconst (v := 0) hx hb dX9_portOn_0 (by decide) ?_
  refine x_istore_n (lv' := [(3, .inl 0), (0, .inr x0), (1, .inl x1), (2, .inl x2)]) C dX9_portOn_1 hL (by decide) rfl (fun ls hL => ?_)
  exact k_X9_portOn_2 C FU (lx_sub hL [1, 2, 3, 0] rfl) hR hS hd
end
set_option maxHeartbeats 4000000 in
set_option maxRecDepth 100000 in
theorem ct_X9_portOn {l : Launch} {b0 : Nat} {D : va_G} {E : Nat → ClassId} {G : Hp} {a0 : Nat} {a1 : Int32} {a2 : Int32} {rr : Int32} (hd : d_X9_portOn a0 a1 a2 G = some rr) : CT l yX9_portOn cX9_portOn 4 (some .int) 0 0 0 b0 D E [rv a0, .int a1, .int a2] G (some (.int rr)) G := by
  refine CT_of (by decide +kernel) ?_
  intro p e s m below meth c C hnm hR
  refine r_entry [.inr a0, .inl a1, .inl a2] (n := 4) (Nat.le_of_ble_eq_true rfl) (lv := [(0, .inr a0), (1, .inl a1), (2, .inl a2)]) rfl (fun ls hL => ?_)
  exact k_X9_portOn C (lx_sub hL [0, 1, 2] rfl) hR ⟨fun _ _ => rfl, fun _ h => by cases h⟩ hd

/-! GroveWorksModel.isUp(II)Z pure -/
theorem dX9_isUp_0 : decode cX9_isUp 0 = .ok (.aload_n 0, 1) := by decide +kernel
theorem dX9_isUp_1 : decode cX9_isUp 1 = .ok (.getfield 7, 3) := by decide +kernel
theorem dX9_isUp_4 : decode cX9_isUp 4 = .ok (.iconst 4, 1) := by decide +kernel
theorem dX9_isUp_5 : decode cX9_isUp 5 = .ok (.iload_n 1, 1) := by decide +kernel
theorem dX9_isUp_6 : decode cX9_isUp 6 = .ok (.imul, 1) := by decide +kernel
theorem dX9_isUp_7 : decode cX9_isUp 7 = .ok (.iload_n 2, 1) := by decide +kernel
theorem dX9_isUp_8 : decode cX9_isUp 8 = .ok (.iadd, 1) := by decide +kernel
theorem dX9_isUp_9 : decode cX9_isUp 9 = .ok (.iaload, 1) := by decide +kernel
theorem dX9_isUp_10 : decode cX9_isUp 10 = .ok (.istore_n 3, 1) := by decide +kernel
theorem dX9_isUp_11 : decode cX9_isUp 11 = .ok (.iload_n 3, 1) := by decide +kernel
theorem dX9_isUp_12 : decode cX9_isUp 12 = .ok (.iconst (-1), 1) := by decide +kernel
theorem dX9_isUp_13 : decode cX9_isUp 13 = .ok (.if_icmp .eq 16, 3) := by decide +kernel
theorem dX9_isUp_16 : decode cX9_isUp 16 = .ok (.aload_n 0, 1) := by decide +kernel
theorem dX9_isUp_17 : decode cX9_isUp 17 = .ok (.getfield 16, 3) := by decide +kernel
theorem dX9_isUp_20 : decode cX9_isUp 20 = .ok (.iload_n 3, 1) := by decide +kernel
theorem dX9_isUp_21 : decode cX9_isUp 21 = .ok (.baload, 1) := by decide +kernel
theorem dX9_isUp_22 : decode cX9_isUp 22 = .ok (.ifCond .ne 7, 3) := by decide +kernel
theorem dX9_isUp_25 : decode cX9_isUp 25 = .ok (.iconst 1, 1) := by decide +kernel
theorem dX9_isUp_26 : decode cX9_isUp 26 = .ok (.goto 4, 3) := by decide +kernel
theorem dX9_isUp_29 : decode cX9_isUp 29 = .ok (.iconst 0, 1) := by decide +kernel
theorem dX9_isUp_30 : decode cX9_isUp 30 = .ok (.ireturn, 1) := by decide +kernel
def d_X9_isUp (x0 : Nat) (x1 : Int32) (x2 : Int32) (G : Hp) : Option (Int32) :=
  gd (hc G x0 = 10) <|
  gd (hc G ((hr G x0 8)) = 11 ∧ ix ((((4 * x1)) + x2)) (hl G ((hr G x0 8)))) <|
  bd ((hi G ((hr G x0 8)) ((((4 * x1)) + x2)).toNatClampNeg)) fun v3 =>
  if v3 = (-1) then
    some 0
  else
    gd (hc G ((hr G x0 10)) = 12 ∧ ix v3 (hl G ((hr G x0 10)))) <|
    if ((hi G ((hr G x0 10)) v3.toNatClampNeg)) = 0 then
      some 1
    else
      some 0
section
variable {p : Program} {l : Launch} {e : Env} {s : State} {m : MethodId} {args : Array Value} {below : List Frame} {meth : Method} {c : Code} {b0 : Nat} {D : va_G} {E : Nat → ClassId}
set_option maxHeartbeats 4000000 in
set_option maxRecDepth 100000 in
theorem k_X9_isUp (C : Cx p s m args meth c RX9 cX9_isUp 4 (some .boolean) b0 D E) {rr : Int32} {G : Hp} {x0 : Nat} {x1 : Int32} {x2 : Int32} {ls : Array Slot} {H : Heap} {locs : List Loc} : lx ls 4 [(0, .inr x0), (1, .inl x1), (2, .inl x2)] → Rp b0 D E G H → SS b0 s H locs → d_X9_isUp x0 x1 x2 G = some rr → W p l e (rmd 0 (0) (0)) s m args below meth c H locs (0) (0) (MQ below (CQ b0 D E (some (.int rr)) G) args s (0) (0) (fun q => b0 ≤ q)) (F0 m 0 ls []) := by
  intro hL hR hS hd
  unfold d_X9_isUp at hd
  have hx := C.1
  have hb := C.2.1
  refine x_aload_n C dX9_isUp_0 hL 0 rfl ?_
  obtain ⟨g1, hd⟩ := gd_ex hd
  refine r_getr (ci := 9) (k := 8) C fl_X9_7 rfl dX9_isUp_1 hR g1 ?_
  refine lv_iconst (v := 4) hx hb dX9_isUp_4 (by decide) ?_
  refine x_iload_n C dX9_isUp_5 hL 1 rfl ?_
  refine lv_imul hx hb dX9_isUp_6 ?_
  refine x_iload_n C dX9_isUp_7 hL 2 rfl ?_
  refine lv_iadd hx hb dX9_isUp_8 ?_
  obtain ⟨g2, hd⟩ := gd_ex hd
  refine r_iald C dX9_isUp_9 hR g2 ?_
  obtain ⟨v3, ev3, hd⟩ := bd_ex hd
  rw [← ev3]
  refine x_istore_n (lv' := [(3, .inl v3), (0, .inr x0), (1, .inl x1), (2, .inl x2)]) C dX9_isUp_10 hL (by decide) rfl (fun ls hL => ?_)
  refine x_iload_n C dX9_isUp_11 hL 0 rfl ?_
  refine lv_iconst (v := (-1)) hx hb dX9_isUp_12 (by decide) ?_
  refine lv_icmp_eq (tgt := 29) hx hb dX9_isUp_13 (by decide) (fun c4 => ?_) (fun c4 => ?_)
  · rw [if_pos c4] at hd
    refine lv_iconst (v := 0) hx hb dX9_isUp_29 (by decide) ?_
    cases hd
    exact r_zret C (by decide) dX9_isUp_30 hR hS
  · rw [if_neg c4] at hd
    refine x_aload_n C dX9_isUp_16 hL 1 rfl ?_
    refine r_getr (ci := 9) (k := 10) C fl_X9_16 rfl dX9_isUp_17 hR g1 ?_
    refine x_iload_n C dX9_isUp_20 hL 0 rfl ?_
    obtain ⟨g5, hd⟩ := gd_ex hd
    refine r_zald C dX9_isUp_21 hR g5 ?_
    refine lv_if_ne (tgt := 29) hx hb dX9_isUp_22 (by decide) (fun c6 => ?_) (fun c6 => ?_)
    · rw [if_neg c6] at hd
      refine lv_iconst (v := 0) hx hb dX9_isUp_29 (by decide) ?_
      cases hd
      exact r_zret C (by decide) dX9_isUp_30 hR hS
    · rw [if_pos c6] at hd
      refine lv_iconst (v := 1) hx hb dX9_isUp_25 (by decide) ?_
      refine lv_goto (tgt := 30) hx hb dX9_isUp_26 (by decide) ?_
      cases hd
      exact r_zret C (by decide) dX9_isUp_30 hR hS
end
set_option maxHeartbeats 4000000 in
set_option maxRecDepth 100000 in
theorem ct_X9_isUp {l : Launch} {b0 : Nat} {D : va_G} {E : Nat → ClassId} {G : Hp} {a0 : Nat} {a1 : Int32} {a2 : Int32} {rr : Int32} (hd : d_X9_isUp a0 a1 a2 G = some rr) : CT l yX9_isUp cX9_isUp 4 (some .boolean) 0 0 0 b0 D E [rv a0, .int a1, .int a2] G (some (.int rr)) G := by
  refine CT_of (by decide +kernel) ?_
  intro p e s m below meth c C hnm hR
  refine r_entry [.inr a0, .inl a1, .inl a2] (n := 4) (Nat.le_of_ble_eq_true rfl) (lv := [(0, .inr a0), (1, .inl a1), (2, .inl a2)]) rfl (fun ls hL => ?_)
  exact k_X9_isUp C (lx_sub hL [0, 1, 2] rfl) hR ⟨fun _ _ => rfl, fun _ h => by cases h⟩ hd

/-! GroveWorksModel.plug(IIII)Z -/
theorem dX9_plug_0 : decode cX9_plug 0 = .ok (.aload_n 0, 1) := by decide +kernel
theorem dX9_plug_1 : decode cX9_plug 1 = .ok (.iload_n 1, 1) := by decide +kernel
theorem dX9_plug_2 : decode cX9_plug 2 = .ok (.invokevirtual 112, 3) := by decide +kernel
theorem dX9_plug_5 : decode cX9_plug 5 = .ok (.ifCond .eq 30, 3) := by decide +kernel
theorem dX9_plug_8 : decode cX9_plug 8 = .ok (.iload_n 2, 1) := by decide +kernel
theorem dX9_plug_9 : decode cX9_plug 9 = .ok (.invokestatic 116, 3) := by decide +kernel
theorem dX9_plug_12 : decode cX9_plug 12 = .ok (.ifCond .eq 23, 3) := by decide +kernel
theorem dX9_plug_15 : decode cX9_plug 15 = .ok (.iload_n 3, 1) := by decide +kernel
theorem dX9_plug_16 : decode cX9_plug 16 = .ok (.invokestatic 119, 3) := by decide +kernel
theorem dX9_plug_19 : decode cX9_plug 19 = .ok (.ifCond .eq 16, 3) := by decide +kernel
theorem dX9_plug_22 : decode cX9_plug 22 = .ok (.iload 4, 2) := by decide +kernel
theorem dX9_plug_24 : decode cX9_plug 24 = .ok (.iconst 1, 1) := by decide +kernel
theorem dX9_plug_25 : decode cX9_plug 25 = .ok (.if_icmp .lt 10, 3) := by decide +kernel
theorem dX9_plug_28 : decode cX9_plug 28 = .ok (.iload 4, 2) := by decide +kernel
theorem dX9_plug_30 : decode cX9_plug 30 = .ok (.bipush 9, 2) := by decide +kernel
theorem dX9_plug_32 : decode cX9_plug 32 = .ok (.if_icmp .le 5, 3) := by decide +kernel
theorem dX9_plug_35 : decode cX9_plug 35 = .ok (.iconst 0, 1) := by decide +kernel
theorem dX9_plug_36 : decode cX9_plug 36 = .ok (.ireturn, 1) := by decide +kernel
theorem dX9_plug_37 : decode cX9_plug 37 = .ok (.aload_n 0, 1) := by decide +kernel
theorem dX9_plug_38 : decode cX9_plug 38 = .ok (.getfield 122, 3) := by decide +kernel
theorem dX9_plug_41 : decode cX9_plug 41 = .ok (.ifCond .ne 27, 3) := by decide +kernel
theorem dX9_plug_44 : decode cX9_plug 44 = .ok (.aload_n 0, 1) := by decide +kernel
theorem dX9_plug_45 : decode cX9_plug 45 = .ok (.getfield 7, 3) := by decide +kernel
theorem dX9_plug_48 : decode cX9_plug 48 = .ok (.iconst 4, 1) := by decide +kernel
theorem dX9_plug_49 : decode cX9_plug 49 = .ok (.iload_n 1, 1) := by decide +kernel
theorem dX9_plug_50 : decode cX9_plug 50 = .ok (.imul, 1) := by decide +kernel
theorem dX9_plug_51 : decode cX9_plug 51 = .ok (.iload_n 2, 1) := by decide +kernel
theorem dX9_plug_52 : decode cX9_plug 52 = .ok (.iadd, 1) := by decide +kernel
theorem dX9_plug_53 : decode cX9_plug 53 = .ok (.iaload, 1) := by decide +kernel
theorem dX9_plug_54 : decode cX9_plug 54 = .ok (.iconst (-1), 1) := by decide +kernel
theorem dX9_plug_55 : decode cX9_plug 55 = .ok (.if_icmp .ne 13, 3) := by decide +kernel
theorem dX9_plug_58 : decode cX9_plug 58 = .ok (.aload_n 0, 1) := by decide +kernel
theorem dX9_plug_59 : decode cX9_plug 59 = .ok (.iload_n 1, 1) := by decide +kernel
theorem dX9_plug_60 : decode cX9_plug 60 = .ok (.iload_n 3, 1) := by decide +kernel
theorem dX9_plug_61 : decode cX9_plug 61 = .ok (.invokevirtual 125, 3) := by decide +kernel
theorem dX9_plug_64 : decode cX9_plug 64 = .ok (.iconst (-1), 1) := by decide +kernel
theorem dX9_plug_65 : decode cX9_plug 65 = .ok (.if_icmp .eq 5, 3) := by decide +kernel
theorem dX9_plug_68 : decode cX9_plug 68 = .ok (.iconst 0, 1) := by decide +kernel
theorem dX9_plug_69 : decode cX9_plug 69 = .ok (.ireturn, 1) := by decide +kernel
theorem dX9_plug_70 : decode cX9_plug 70 = .ok (.aload_n 0, 1) := by decide +kernel
theorem dX9_plug_71 : decode cX9_plug 71 = .ok (.getfield 7, 3) := by decide +kernel
theorem dX9_plug_74 : decode cX9_plug 74 = .ok (.iconst 4, 1) := by decide +kernel
theorem dX9_plug_75 : decode cX9_plug 75 = .ok (.iload_n 1, 1) := by decide +kernel
theorem dX9_plug_76 : decode cX9_plug 76 = .ok (.imul, 1) := by decide +kernel
theorem dX9_plug_77 : decode cX9_plug 77 = .ok (.iload_n 2, 1) := by decide +kernel
theorem dX9_plug_78 : decode cX9_plug 78 = .ok (.iadd, 1) := by decide +kernel
theorem dX9_plug_79 : decode cX9_plug 79 = .ok (.iload_n 3, 1) := by decide +kernel
theorem dX9_plug_80 : decode cX9_plug 80 = .ok (.iastore, 1) := by decide +kernel
theorem dX9_plug_81 : decode cX9_plug 81 = .ok (.aload_n 0, 1) := by decide +kernel
theorem dX9_plug_82 : decode cX9_plug 82 = .ok (.getfield 13, 3) := by decide +kernel
theorem dX9_plug_85 : decode cX9_plug 85 = .ok (.iconst 4, 1) := by decide +kernel
theorem dX9_plug_86 : decode cX9_plug 86 = .ok (.iload_n 1, 1) := by decide +kernel
theorem dX9_plug_87 : decode cX9_plug 87 = .ok (.imul, 1) := by decide +kernel
theorem dX9_plug_88 : decode cX9_plug 88 = .ok (.iload_n 2, 1) := by decide +kernel
theorem dX9_plug_89 : decode cX9_plug 89 = .ok (.iadd, 1) := by decide +kernel
theorem dX9_plug_90 : decode cX9_plug 90 = .ok (.iload 4, 2) := by decide +kernel
theorem dX9_plug_92 : decode cX9_plug 92 = .ok (.iastore, 1) := by decide +kernel
theorem dX9_plug_93 : decode cX9_plug 93 = .ok (.aload_n 0, 1) := by decide +kernel
theorem dX9_plug_94 : decode cX9_plug 94 = .ok (.iconst 1, 1) := by decide +kernel
theorem dX9_plug_95 : decode cX9_plug 95 = .ok (.putfield 50, 3) := by decide +kernel
theorem dX9_plug_98 : decode cX9_plug 98 = .ok (.iconst 1, 1) := by decide +kernel
theorem dX9_plug_99 : decode cX9_plug 99 = .ok (.ireturn, 1) := by decide +kernel
def d_X9_plug (x0 : Nat) (x1 : Int32) (x2 : Int32) (x3 : Int32) (x4 : Int32) (G : Hp) : Option (Int32 × Hp) :=
  gd (hc G x0 = 10) <|
  bo (d_X9_isRouter x0 x1 G) fun v3 =>
  if v3 = 0 then
    some (0, G)
  else
    bo (d_X9_isPort x2 G) fun v6 =>
    if v6 = 0 then
      some (0, G)
    else
      bo (d_X9_isWire x3 G) fun v9 =>
      if v9 = 0 then
        some (0, G)
      else
        if x4 < 1 then
          some (0, G)
        else
          if x4 ≤ 9 then
            if ((hi G x0 0)) = 0 then
              gd (hc G ((hr G x0 8)) = 11 ∧ ix ((((4 * x1)) + x2)) (hl G ((hr G x0 8)))) <|
              if ((hi G ((hr G x0 8)) ((((4 * x1)) + x2)).toNatClampNeg)) = (-1) then
                bo (d_X9_portOn x0 x1 x3 G) fun v17 =>
                if v17 = (-1) then
                  gd (hc G ((hr G x0 8)) = 11 ∧ ix ((((4 * x1)) + x2)) (hl G ((hr G x0 8)))) <|
                  bd (sI G ((hr G x0 8)) ((((4 * x1)) + x2)).toNatClampNeg x3) fun G20 =>
                  gd (hc G20 x0 = 10) <|
                  gd (hc G20 ((hr G20 x0 9)) = 11 ∧ ix ((((4 * x1)) + x2)) (hl G20 ((hr G20 x0 9)))) <|
                  bd (sI G20 ((hr G20 x0 9)) ((((4 * x1)) + x2)).toNatClampNeg x4) fun G23 =>
                  gd (hc G23 x0 = 10) <|
                  bd (sI G23 x0 21 1) fun G25 =>
                  some (1, G25)
                else
                  some (0, G)
              else
                some (0, G)
            else
              some (0, G)
          else
            some (0, G)
section
variable {p : Program} {l : Launch} {e : Env} {s : State} {m : MethodId} {args : Array Value} {below : List Frame} {meth : Method} {c : Code} {b0 : Nat} {D : va_G} {E : Nat → ClassId}
set_option maxHeartbeats 4000000 in
set_option maxRecDepth 100000 in
theorem k_X9_plug (C : Cx p s m args meth c RX9 cX9_plug 5 (some .boolean) b0 D E) {rr : Int32} {GG : Hp} {x0 : Nat} {x1 : Int32} {x2 : Int32} {x3 : Int32} {x4 : Int32} {G : Hp} {ls : Array Slot} {H : Heap} {locs : List Loc} : lx ls 5 [(0, .inr x0), (1, .inl x1), (2, .inl x2), (3, .inl x3), (4, .inl x4)] → Rp b0 D E G H → SS b0 s H locs → d_X9_plug x0 x1 x2 x3 x4 G = some (rr, GG) → W p l e (rmd 1 (0) (0)) s m args below meth c H locs (0) (0) (MQ below (CQ b0 D E (some (.int rr)) GG) args s (0) (0) (fun q => b0 ≤ q)) (F0 m 0 ls []) := by
  intro hL hR hS hd
  unfold d_X9_plug at hd
  have hx := C.1
  have hb := C.2.1
  refine x_aload_n C dX9_plug_0 hL 0 rfl ?_
  refine x_iload_n C dX9_plug_1 hL 1 rfl ?_
  obtain ⟨g1, hd⟩ := gd_ex hd
  obtain ⟨v3, h2, hd⟩ := bo_ex hd
  refine r_callV (a := x0) (ci := 9) (As := [.int x1]) C (ct_X9_isRouter h2) mf_X9_isRouter ml_X9_112 mv_X9_isRouter rfl ⟨Nat.le_of_ble_eq_true rfl, Nat.le_of_ble_eq_true rfl⟩ dX9_plug_2 (lx_size hL) rfl hR hS g1 ⟨Nat.le_refl _, Nat.le_refl _⟩ (cat_le [] (Nat.le_of_ble_eq_true rfl)) (fun H locs hR hS => ?_)
  refine W_st (st2 := [.int v3]) rfl ?_
  refine lv_if_eq (tgt := 35) hx hb dX9_plug_5 (by decide) (fun c4 => ?_) (fun c4 => ?_)
  · rw [if_pos c4] at hd
    refine lv_iconst (v := 0) hx hb dX9_plug_35 (by decide) ?_
    cases hd
    exact r_zret C (by decide) dX9_plug_36 hR hS
  · rw [if_neg c4] at hd
    refine x_iload_n C dX9_plug_8 hL 2 rfl ?_
    obtain ⟨v6, h5, hd⟩ := bo_ex hd
    refine r_callS (As := [.int x2]) C (ct_X9_isPort h5) mf_X9_isPort ml_X9_116 ms_X9_isPort rfl ⟨Nat.le_of_ble_eq_true rfl, Nat.le_of_ble_eq_true rfl⟩ dX9_plug_9 (lx_size hL) rfl hR hS ⟨Nat.le_refl _, Nat.le_refl _⟩ (cat_le [] (Nat.le_of_ble_eq_true rfl)) (fun H locs hR hS => ?_)
    refine W_st (st2 := [.int v6]) rfl ?_
    refine lv_if_eq (tgt := 35) hx hb dX9_plug_12 (by decide) (fun c7 => ?_) (fun c7 => ?_)
    · rw [if_pos c7] at hd
      refine lv_iconst (v := 0) hx hb dX9_plug_35 (by decide) ?_
      cases hd
      exact r_zret C (by decide) dX9_plug_36 hR hS
    · rw [if_neg c7] at hd
      refine x_iload_n C dX9_plug_15 hL 3 rfl ?_
      obtain ⟨v9, h8, hd⟩ := bo_ex hd
      refine r_callS (As := [.int x3]) C (ct_X9_isWire h8) mf_X9_isWire ml_X9_119 ms_X9_isWire rfl ⟨Nat.le_of_ble_eq_true rfl, Nat.le_of_ble_eq_true rfl⟩ dX9_plug_16 (lx_size hL) rfl hR hS ⟨Nat.le_refl _, Nat.le_refl _⟩ (cat_le [] (Nat.le_of_ble_eq_true rfl)) (fun H locs hR hS => ?_)
      refine W_st (st2 := [.int v9]) rfl ?_
      refine lv_if_eq (tgt := 35) hx hb dX9_plug_19 (by decide) (fun c10 => ?_) (fun c10 => ?_)
      · rw [if_pos c10] at hd
        refine lv_iconst (v := 0) hx hb dX9_plug_35 (by decide) ?_
        cases hd
        exact r_zret C (by decide) dX9_plug_36 hR hS
      · rw [if_neg c10] at hd
        refine x_iload C dX9_plug_22 hL 4 rfl ?_
        refine lv_iconst (v := 1) hx hb dX9_plug_24 (by decide) ?_
        refine lv_icmp_lt (tgt := 35) hx hb dX9_plug_25 (by decide) (fun c11 => ?_) (fun c11 => ?_)
        · rw [if_pos c11] at hd
          refine lv_iconst (v := 0) hx hb dX9_plug_35 (by decide) ?_
          cases hd
          exact r_zret C (by decide) dX9_plug_36 hR hS
        · rw [if_neg c11] at hd
          refine x_iload C dX9_plug_28 hL 4 rfl ?_
          refine lv_bipush (v := 9) hx hb dX9_plug_30 (by decide) ?_
          refine lv_icmp_le (tgt := 37) hx hb dX9_plug_32 (by decide) (fun c12 => ?_) (fun c12 => ?_)
          · rw [if_pos c12] at hd
            refine x_aload_n C dX9_plug_37 hL 0 rfl ?_
            refine r_geti (ci := 9) (k := 0) C fl_X9_122 rfl dX9_plug_38 hR g1 ?_
            refine lv_if_ne (tgt := 68) hx hb dX9_plug_41 (by decide) (fun c13 => ?_) (fun c13 => ?_)
            · rw [if_neg c13] at hd
              refine lv_iconst (v := 0) hx hb dX9_plug_68 (by decide) ?_
              cases hd
              exact r_zret C (by decide) dX9_plug_69 hR hS
            · rw [if_pos c13] at hd
              refine x_aload_n C dX9_plug_44 hL 0 rfl ?_
              refine r_getr (ci := 9) (k := 8) C fl_X9_7 rfl dX9_plug_45 hR g1 ?_
              refine lv_iconst (v := 4) hx hb dX9_plug_48 (by decide) ?_
              refine x_iload_n C dX9_plug_49 hL 1 rfl ?_
              refine lv_imul hx hb dX9_plug_50 ?_
              refine x_iload_n C dX9_plug_51 hL 2 rfl ?_
              refine lv_iadd hx hb dX9_plug_52 ?_
              obtain ⟨g14, hd⟩ := gd_ex hd
              refine r_iald C dX9_plug_53 hR g14 ?_
              refine lv_iconst (v := (-1)) hx hb dX9_plug_54 (by decide) ?_
              refine lv_icmp_ne (tgt := 68) hx hb dX9_plug_55 (by decide) (fun c15 => ?_) (fun c15 => ?_)
              · rw [if_neg c15] at hd
                refine lv_iconst (v := 0) hx hb dX9_plug_68 (by decide) ?_
                cases hd
                exact r_zret C (by decide) dX9_plug_69 hR hS
              · rw [if_pos c15] at hd
                refine x_aload_n C dX9_plug_58 hL 0 rfl ?_
                refine x_iload_n C dX9_plug_59 hL 1 rfl ?_
                refine x_iload_n C dX9_plug_60 hL 3 rfl ?_
                obtain ⟨v17, h16, hd⟩ := bo_ex hd
                refine r_callV (a := x0) (ci := 9) (As := [.int x1, .int x3]) C (ct_X9_portOn h16) mf_X9_portOn ml_X9_125 mv_X9_portOn rfl ⟨Nat.le_of_ble_eq_true rfl, Nat.le_of_ble_eq_true rfl⟩ dX9_plug_61 (lx_size hL) rfl hR hS g1 ⟨Nat.le_refl _, Nat.le_refl _⟩ (cat_le [] (Nat.le_of_ble_eq_true rfl)) (fun H locs hR hS => ?_)
                refine W_st (st2 := [.int v17]) rfl ?_
                refine lv_iconst (v := (-1)) hx hb dX9_plug_64 (by decide) ?_
                refine lv_icmp_eq (tgt := 70) hx hb dX9_plug_65 (by decide) (fun c18 => ?_) (fun c18 => ?_)
                · rw [if_pos c18] at hd
                  refine x_aload_n C dX9_plug_70 hL 0 rfl ?_
                  refine r_getr (ci := 9) (k := 8) C fl_X9_7 rfl dX9_plug_71 hR g1 ?_
                  refine lv_iconst (v := 4) hx hb dX9_plug_74 (by decide) ?_
                  refine x_iload_n C dX9_plug_75 hL 1 rfl ?_
                  refine lv_imul hx hb dX9_plug_76 ?_
                  refine x_iload_n C dX9_plug_77 hL 2 rfl ?_
                  refine lv_iadd hx hb dX9_plug_78 ?_
                  refine x_iload_n C dX9_plug_79 hL 3 rfl ?_
                  obtain ⟨g19, hd⟩ := gd_ex hd
                  obtain ⟨G20, eG20, hd⟩ := bd_ex hd
                  refine r_iast C dX9_plug_80 hR hS g19 (fun H locs hR hS => ?_)
                  replace hR : Rp b0 D E G20 H := by rw [eG20]; exact hR
                  refine x_aload_n C dX9_plug_81 hL 0 rfl ?_
                  obtain ⟨g21, hd⟩ := gd_ex hd
                  refine r_getr (ci := 9) (k := 9) C fl_X9_13 rfl dX9_plug_82 hR g21 ?_
                  refine lv_iconst (v := 4) hx hb dX9_plug_85 (by decide) ?_
                  refine x_iload_n C dX9_plug_86 hL 1 rfl ?_
                  refine lv_imul hx hb dX9_plug_87 ?_
                  refine x_iload_n C dX9_plug_88 hL 2 rfl ?_
                  refine lv_iadd hx hb dX9_plug_89 ?_
                  refine x_iload C dX9_plug_90 hL 4 rfl ?_
                  obtain ⟨g22, hd⟩ := gd_ex hd
                  obtain ⟨G23, eG23, hd⟩ := bd_ex hd
                  refine r_iast C dX9_plug_92 hR hS g22 (fun H locs hR hS => ?_)
                  replace hR : Rp b0 D E G23 H := by rw [eG23]; exact hR
                  refine x_aload_n C dX9_plug_93 hL 0 rfl ?_
                  refine lv_iconst (v := 1) hx hb dX9_plug_94 (by decide) ?_
                  obtain ⟨g24, hd⟩ := gd_ex hd
                  obtain ⟨G25, eG25, hd⟩ := bd_ex hd
                  refine r_putz (ci := 9) (k := 21) C fl_X9_50 rfl (Or.inl rfl) (by decide) dX9_plug_95 hR hS g24 (fun H locs hR hS => ?_)
                  replace hR : Rp b0 D E G25 H := by rw [eG25]; exact hR
                  refine lv_iconst (v := 1) hx hb dX9_plug_98 (by decide) ?_
                  cases hd
                  exact r_zret C (by decide) dX9_plug_99 hR hS
                · rw [if_neg c18] at hd
                  refine lv_iconst (v := 0) hx hb dX9_plug_68 (by decide) ?_
                  cases hd
                  exact r_zret C (by decide) dX9_plug_69 hR hS
          · rw [if_neg c12] at hd
            refine lv_iconst (v := 0) hx hb dX9_plug_35 (by decide) ?_
            cases hd
            exact r_zret C (by decide) dX9_plug_36 hR hS
end
set_option maxHeartbeats 4000000 in
set_option maxRecDepth 100000 in
theorem ct_X9_plug {l : Launch} {b0 : Nat} {D : va_G} {E : Nat → ClassId} {G : Hp} {a0 : Nat} {a1 : Int32} {a2 : Int32} {a3 : Int32} {a4 : Int32} {rr : Int32} {GG : Hp} (hd : d_X9_plug a0 a1 a2 a3 a4 G = some (rr, GG)) : CT l yX9_plug cX9_plug 5 (some .boolean) 1 0 0 b0 D E [rv a0, .int a1, .int a2, .int a3, .int a4] G (some (.int rr)) GG := by
  refine CT_of (by decide +kernel) ?_
  intro p e s m below meth c C hnm hR
  refine r_entry [.inr a0, .inl a1, .inl a2, .inl a3, .inl a4] (n := 5) (Nat.le_of_ble_eq_true rfl) (lv := [(0, .inr a0), (1, .inl a1), (2, .inl a2), (3, .inl a3), (4, .inl a4)]) rfl (fun ls hL => ?_)
  exact k_X9_plug C (lx_sub hL [0, 1, 2, 3, 4] rfl) hR ⟨fun _ _ => rfl, fun _ h => by cases h⟩ hd

/-! GroveWorksModel.host(II)Z -/
theorem dX9_host_0 : decode cX9_host 0 = .ok (.iload_n 1, 1) := by decide +kernel
theorem dX9_host_1 : decode cX9_host 1 = .ok (.invokestatic 129, 3) := by decide +kernel
theorem dX9_host_4 : decode cX9_host 4 = .ok (.ifCond .eq 27, 3) := by decide +kernel
theorem dX9_host_7 : decode cX9_host 7 = .ok (.iload_n 2, 1) := by decide +kernel
theorem dX9_host_8 : decode cX9_host 8 = .ok (.invokestatic 119, 3) := by decide +kernel
theorem dX9_host_11 : decode cX9_host 11 = .ok (.ifCond .eq 20, 3) := by decide +kernel
theorem dX9_host_14 : decode cX9_host 14 = .ok (.aload_n 0, 1) := by decide +kernel
theorem dX9_host_15 : decode cX9_host 15 = .ok (.getfield 122, 3) := by decide +kernel
theorem dX9_host_18 : decode cX9_host 18 = .ok (.ifCond .ne 13, 3) := by decide +kernel
theorem dX9_host_21 : decode cX9_host 21 = .ok (.aload_n 0, 1) := by decide +kernel
theorem dX9_host_22 : decode cX9_host 22 = .ok (.getfield 20, 3) := by decide +kernel
theorem dX9_host_25 : decode cX9_host 25 = .ok (.iload_n 1, 1) := by decide +kernel
theorem dX9_host_26 : decode cX9_host 26 = .ok (.iaload, 1) := by decide +kernel
theorem dX9_host_27 : decode cX9_host 27 = .ok (.iconst (-1), 1) := by decide +kernel
theorem dX9_host_28 : decode cX9_host 28 = .ok (.if_icmp .eq 5, 3) := by decide +kernel
theorem dX9_host_31 : decode cX9_host 31 = .ok (.iconst 0, 1) := by decide +kernel
theorem dX9_host_32 : decode cX9_host 32 = .ok (.ireturn, 1) := by decide +kernel
theorem dX9_host_33 : decode cX9_host 33 = .ok (.aload_n 0, 1) := by decide +kernel
theorem dX9_host_34 : decode cX9_host 34 = .ok (.getfield 20, 3) := by decide +kernel
theorem dX9_host_37 : decode cX9_host 37 = .ok (.iload_n 1, 1) := by decide +kernel
theorem dX9_host_38 : decode cX9_host 38 = .ok (.iload_n 2, 1) := by decide +kernel
theorem dX9_host_39 : decode cX9_host 39 = .ok (.iastore, 1) := by decide +kernel
theorem dX9_host_40 : decode cX9_host 40 = .ok (.iconst 1, 1) := by decide +kernel
theorem dX9_host_41 : decode cX9_host 41 = .ok (.ireturn, 1) := by decide +kernel
def d_X9_host (x0 : Nat) (x1 : Int32) (x2 : Int32) (G : Hp) : Option (Int32 × Hp) :=
  bo (d_X9_isHost x1 G) fun v2 =>
  if v2 = 0 then
    some (0, G)
  else
    bo (d_X9_isWire x2 G) fun v5 =>
    if v5 = 0 then
      some (0, G)
    else
      gd (hc G x0 = 10) <|
      if ((hi G x0 0)) = 0 then
        gd (hc G ((hr G x0 11)) = 11 ∧ ix x1 (hl G ((hr G x0 11)))) <|
        if ((hi G ((hr G x0 11)) x1.toNatClampNeg)) = (-1) then
          gd (hc G ((hr G x0 11)) = 11 ∧ ix x1 (hl G ((hr G x0 11)))) <|
          bd (sI G ((hr G x0 11)) x1.toNatClampNeg x2) fun G12 =>
          some (1, G12)
        else
          some (0, G)
      else
        some (0, G)
section
variable {p : Program} {l : Launch} {e : Env} {s : State} {m : MethodId} {args : Array Value} {below : List Frame} {meth : Method} {c : Code} {b0 : Nat} {D : va_G} {E : Nat → ClassId}
set_option maxHeartbeats 4000000 in
set_option maxRecDepth 100000 in
theorem k_X9_host (C : Cx p s m args meth c RX9 cX9_host 3 (some .boolean) b0 D E) {rr : Int32} {GG : Hp} {x0 : Nat} {x1 : Int32} {x2 : Int32} {G : Hp} {ls : Array Slot} {H : Heap} {locs : List Loc} : lx ls 3 [(0, .inr x0), (1, .inl x1), (2, .inl x2)] → Rp b0 D E G H → SS b0 s H locs → d_X9_host x0 x1 x2 G = some (rr, GG) → W p l e (rmd 1 (0) (0)) s m args below meth c H locs (0) (0) (MQ below (CQ b0 D E (some (.int rr)) GG) args s (0) (0) (fun q => b0 ≤ q)) (F0 m 0 ls []) := by
  intro hL hR hS hd
  unfold d_X9_host at hd
  have hx := C.1
  have hb := C.2.1
  refine x_iload_n C dX9_host_0 hL 1 rfl ?_
  obtain ⟨v2, h1, hd⟩ := bo_ex hd
  refine r_callS (As := [.int x1]) C (ct_X9_isHost h1) mf_X9_isHost ml_X9_129 ms_X9_isHost rfl ⟨Nat.le_of_ble_eq_true rfl, Nat.le_of_ble_eq_true rfl⟩ dX9_host_1 (lx_size hL) rfl hR hS ⟨Nat.le_refl _, Nat.le_refl _⟩ (cat_le [] (Nat.le_of_ble_eq_true rfl)) (fun H locs hR hS => ?_)
  refine W_st (st2 := [.int v2]) rfl ?_
  refine lv_if_eq (tgt := 31) hx hb dX9_host_4 (by decide) (fun c3 => ?_) (fun c3 => ?_)
  · rw [if_pos c3] at hd
    refine lv_iconst (v := 0) hx hb dX9_host_31 (by decide) ?_
    cases hd
    exact r_zret C (by decide) dX9_host_32 hR hS
  · rw [if_neg c3] at hd
    refine x_iload_n C dX9_host_7 hL 2 rfl ?_
    obtain ⟨v5, h4, hd⟩ := bo_ex hd
    refine r_callS (As := [.int x2]) C (ct_X9_isWire h4) mf_X9_isWire ml_X9_119 ms_X9_isWire rfl ⟨Nat.le_of_ble_eq_true rfl, Nat.le_of_ble_eq_true rfl⟩ dX9_host_8 (lx_size hL) rfl hR hS ⟨Nat.le_refl _, Nat.le_refl _⟩ (cat_le [] (Nat.le_of_ble_eq_true rfl)) (fun H locs hR hS => ?_)
    refine W_st (st2 := [.int v5]) rfl ?_
    refine lv_if_eq (tgt := 31) hx hb dX9_host_11 (by decide) (fun c6 => ?_) (fun c6 => ?_)
    · rw [if_pos c6] at hd
      refine lv_iconst (v := 0) hx hb dX9_host_31 (by decide) ?_
      cases hd
      exact r_zret C (by decide) dX9_host_32 hR hS
    · rw [if_neg c6] at hd
      refine x_aload_n C dX9_host_14 hL 0 rfl ?_
      obtain ⟨g7, hd⟩ := gd_ex hd
      refine r_geti (ci := 9) (k := 0) C fl_X9_122 rfl dX9_host_15 hR g7 ?_
      refine lv_if_ne (tgt := 31) hx hb dX9_host_18 (by decide) (fun c8 => ?_) (fun c8 => ?_)
      · rw [if_neg c8] at hd
        refine lv_iconst (v := 0) hx hb dX9_host_31 (by decide) ?_
        cases hd
        exact r_zret C (by decide) dX9_host_32 hR hS
      · rw [if_pos c8] at hd
        refine x_aload_n C dX9_host_21 hL 0 rfl ?_
        refine r_getr (ci := 9) (k := 11) C fl_X9_20 rfl dX9_host_22 hR g7 ?_
        refine x_iload_n C dX9_host_25 hL 1 rfl ?_
        obtain ⟨g9, hd⟩ := gd_ex hd
        refine r_iald C dX9_host_26 hR g9 ?_
        refine lv_iconst (v := (-1)) hx hb dX9_host_27 (by decide) ?_
        refine lv_icmp_eq (tgt := 33) hx hb dX9_host_28 (by decide) (fun c10 => ?_) (fun c10 => ?_)
        · rw [if_pos c10] at hd
          refine x_aload_n C dX9_host_33 hL 0 rfl ?_
          refine r_getr (ci := 9) (k := 11) C fl_X9_20 rfl dX9_host_34 hR g7 ?_
          refine x_iload_n C dX9_host_37 hL 1 rfl ?_
          refine x_iload_n C dX9_host_38 hL 2 rfl ?_
          obtain ⟨g11, hd⟩ := gd_ex hd
          obtain ⟨G12, eG12, hd⟩ := bd_ex hd
          refine r_iast C dX9_host_39 hR hS g11 (fun H locs hR hS => ?_)
          replace hR : Rp b0 D E G12 H := by rw [eG12]; exact hR
          refine lv_iconst (v := 1) hx hb dX9_host_40 (by decide) ?_
          cases hd
          exact r_zret C (by decide) dX9_host_41 hR hS
        · rw [if_neg c10] at hd
          refine lv_iconst (v := 0) hx hb dX9_host_31 (by decide) ?_
          cases hd
          exact r_zret C (by decide) dX9_host_32 hR hS
end
set_option maxHeartbeats 4000000 in
set_option maxRecDepth 100000 in
theorem ct_X9_host {l : Launch} {b0 : Nat} {D : va_G} {E : Nat → ClassId} {G : Hp} {a0 : Nat} {a1 : Int32} {a2 : Int32} {rr : Int32} {GG : Hp} (hd : d_X9_host a0 a1 a2 G = some (rr, GG)) : CT l yX9_host cX9_host 3 (some .boolean) 1 0 0 b0 D E [rv a0, .int a1, .int a2] G (some (.int rr)) GG := by
  refine CT_of (by decide +kernel) ?_
  intro p e s m below meth c C hnm hR
  refine r_entry [.inr a0, .inl a1, .inl a2] (n := 3) (Nat.le_of_ble_eq_true rfl) (lv := [(0, .inr a0), (1, .inl a1), (2, .inl a2)]) rfl (fun ls hL => ?_)
  exact k_X9_host C (lx_sub hL [0, 1, 2] rfl) hR ⟨fun _ _ => rfl, fun _ h => by cases h⟩ hd

/-! GroveWorksModel.meet(II)Z -/
theorem dX9_meet_0 : decode cX9_meet 0 = .ok (.iload_n 1, 1) := by decide +kernel
theorem dX9_meet_1 : decode cX9_meet 1 = .ok (.invokestatic 132, 3) := by decide +kernel
theorem dX9_meet_4 : decode cX9_meet 4 = .ok (.ifCond .eq 18, 3) := by decide +kernel
theorem dX9_meet_7 : decode cX9_meet 7 = .ok (.aload_n 0, 1) := by decide +kernel
theorem dX9_meet_8 : decode cX9_meet 8 = .ok (.iload_n 2, 1) := by decide +kernel
theorem dX9_meet_9 : decode cX9_meet 9 = .ok (.invokevirtual 112, 3) := by decide +kernel
theorem dX9_meet_12 : decode cX9_meet 12 = .ok (.ifCond .eq 10, 3) := by decide +kernel
theorem dX9_meet_15 : decode cX9_meet 15 = .ok (.aload_n 0, 1) := by decide +kernel
theorem dX9_meet_16 : decode cX9_meet 16 = .ok (.getfield 122, 3) := by decide +kernel
theorem dX9_meet_19 : decode cX9_meet 19 = .ok (.ifCond .eq 5, 3) := by decide +kernel
theorem dX9_meet_22 : decode cX9_meet 22 = .ok (.iconst 0, 1) := by decide +kernel
theorem dX9_meet_23 : decode cX9_meet 23 = .ok (.ireturn, 1) := by decide +kernel
theorem dX9_meet_24 : decode cX9_meet 24 = .ok (.aload_n 0, 1) := by decide +kernel
theorem dX9_meet_25 : decode cX9_meet 25 = .ok (.getfield 23, 3) := by decide +kernel
theorem dX9_meet_28 : decode cX9_meet 28 = .ok (.iload_n 1, 1) := by decide +kernel
theorem dX9_meet_29 : decode cX9_meet 29 = .ok (.iload_n 2, 1) := by decide +kernel
theorem dX9_meet_30 : decode cX9_meet 30 = .ok (.iastore, 1) := by decide +kernel
theorem dX9_meet_31 : decode cX9_meet 31 = .ok (.iconst 1, 1) := by decide +kernel
theorem dX9_meet_32 : decode cX9_meet 32 = .ok (.ireturn, 1) := by decide +kernel
def d_X9_meet (x0 : Nat) (x1 : Int32) (x2 : Int32) (G : Hp) : Option (Int32 × Hp) :=
  bo (d_X9_isGroup x1 G) fun v2 =>
  if v2 = 0 then
    some (0, G)
  else
    gd (hc G x0 = 10) <|
    bo (d_X9_isRouter x0 x2 G) fun v6 =>
    if v6 = 0 then
      some (0, G)
    else
      if ((hi G x0 0)) = 0 then
        gd (hc G ((hr G x0 12)) = 11 ∧ ix x1 (hl G ((hr G x0 12)))) <|
        bd (sI G ((hr G x0 12)) x1.toNatClampNeg x2) fun G10 =>
        some (1, G10)
      else
        some (0, G)
section
variable {p : Program} {l : Launch} {e : Env} {s : State} {m : MethodId} {args : Array Value} {below : List Frame} {meth : Method} {c : Code} {b0 : Nat} {D : va_G} {E : Nat → ClassId}
set_option maxHeartbeats 4000000 in
set_option maxRecDepth 100000 in
theorem k_X9_meet (C : Cx p s m args meth c RX9 cX9_meet 3 (some .boolean) b0 D E) {rr : Int32} {GG : Hp} {x0 : Nat} {x1 : Int32} {x2 : Int32} {G : Hp} {ls : Array Slot} {H : Heap} {locs : List Loc} : lx ls 3 [(0, .inr x0), (1, .inl x1), (2, .inl x2)] → Rp b0 D E G H → SS b0 s H locs → d_X9_meet x0 x1 x2 G = some (rr, GG) → W p l e (rmd 1 (0) (0)) s m args below meth c H locs (0) (0) (MQ below (CQ b0 D E (some (.int rr)) GG) args s (0) (0) (fun q => b0 ≤ q)) (F0 m 0 ls []) := by
  intro hL hR hS hd
  unfold d_X9_meet at hd
  have hx := C.1
  have hb := C.2.1
  refine x_iload_n C dX9_meet_0 hL 1 rfl ?_
  obtain ⟨v2, h1, hd⟩ := bo_ex hd
  refine r_callS (As := [.int x1]) C (ct_X9_isGroup h1) mf_X9_isGroup ml_X9_132 ms_X9_isGroup rfl ⟨Nat.le_of_ble_eq_true rfl, Nat.le_of_ble_eq_true rfl⟩ dX9_meet_1 (lx_size hL) rfl hR hS ⟨Nat.le_refl _, Nat.le_refl _⟩ (cat_le [] (Nat.le_of_ble_eq_true rfl)) (fun H locs hR hS => ?_)
  refine W_st (st2 := [.int v2]) rfl ?_
  refine lv_if_eq (tgt := 22) hx hb dX9_meet_4 (by decide) (fun c3 => ?_) (fun c3 => ?_)
  · rw [if_pos c3] at hd
    refine lv_iconst (v := 0) hx hb dX9_meet_22 (by decide) ?_
    cases hd
    exact r_zret C (by decide) dX9_meet_23 hR hS
  · rw [if_neg c3] at hd
    refine x_aload_n C dX9_meet_7 hL 0 rfl ?_
    refine x_iload_n C dX9_meet_8 hL 2 rfl ?_
    obtain ⟨g4, hd⟩ := gd_ex hd
    obtain ⟨v6, h5, hd⟩ := bo_ex hd
    refine r_callV (a := x0) (ci := 9) (As := [.int x2]) C (ct_X9_isRouter h5) mf_X9_isRouter ml_X9_112 mv_X9_isRouter rfl ⟨Nat.le_of_ble_eq_true rfl, Nat.le_of_ble_eq_true rfl⟩ dX9_meet_9 (lx_size hL) rfl hR hS g4 ⟨Nat.le_refl _, Nat.le_refl _⟩ (cat_le [] (Nat.le_of_ble_eq_true rfl)) (fun H locs hR hS => ?_)
    refine W_st (st2 := [.int v6]) rfl ?_
    refine lv_if_eq (tgt := 22) hx hb dX9_meet_12 (by decide) (fun c7 => ?_) (fun c7 => ?_)
    · rw [if_pos c7] at hd
      refine lv_iconst (v := 0) hx hb dX9_meet_22 (by decide) ?_
      cases hd
      exact r_zret C (by decide) dX9_meet_23 hR hS
    · rw [if_neg c7] at hd
      refine x_aload_n C dX9_meet_15 hL 0 rfl ?_
      refine r_geti (ci := 9) (k := 0) C fl_X9_122 rfl dX9_meet_16 hR g4 ?_
      refine lv_if_eq (tgt := 24) hx hb dX9_meet_19 (by decide) (fun c8 => ?_) (fun c8 => ?_)
      · rw [if_pos c8] at hd
        refine x_aload_n C dX9_meet_24 hL 0 rfl ?_
        refine r_getr (ci := 9) (k := 12) C fl_X9_23 rfl dX9_meet_25 hR g4 ?_
        refine x_iload_n C dX9_meet_28 hL 1 rfl ?_
        refine x_iload_n C dX9_meet_29 hL 2 rfl ?_
        obtain ⟨g9, hd⟩ := gd_ex hd
        obtain ⟨G10, eG10, hd⟩ := bd_ex hd
        refine r_iast C dX9_meet_30 hR hS g9 (fun H locs hR hS => ?_)
        replace hR : Rp b0 D E G10 H := by rw [eG10]; exact hR
        refine lv_iconst (v := 1) hx hb dX9_meet_31 (by decide) ?_
        cases hd
        exact r_zret C (by decide) dX9_meet_32 hR hS
      · rw [if_neg c8] at hd
        refine lv_iconst (v := 0) hx hb dX9_meet_22 (by decide) ?_
        cases hd
        exact r_zret C (by decide) dX9_meet_23 hR hS
end
set_option maxHeartbeats 4000000 in
set_option maxRecDepth 100000 in
theorem ct_X9_meet {l : Launch} {b0 : Nat} {D : va_G} {E : Nat → ClassId} {G : Hp} {a0 : Nat} {a1 : Int32} {a2 : Int32} {rr : Int32} {GG : Hp} (hd : d_X9_meet a0 a1 a2 G = some (rr, GG)) : CT l yX9_meet cX9_meet 3 (some .boolean) 1 0 0 b0 D E [rv a0, .int a1, .int a2] G (some (.int rr)) GG := by
  refine CT_of (by decide +kernel) ?_
  intro p e s m below meth c C hnm hR
  refine r_entry [.inr a0, .inl a1, .inl a2] (n := 3) (Nat.le_of_ble_eq_true rfl) (lv := [(0, .inr a0), (1, .inl a1), (2, .inl a2)]) rfl (fun ls hL => ?_)
  exact k_X9_meet C (lx_sub hL [0, 1, 2] rfl) hR ⟨fun _ _ => rfl, fun _ h => by cases h⟩ hd

/-! GroveWorksModel.forget(II)V -/
theorem dX9_forget_0 : decode cX9_forget 0 = .ok (.iconst 4, 1) := by decide +kernel
theorem dX9_forget_1 : decode cX9_forget 1 = .ok (.iload_n 1, 1) := by decide +kernel
theorem dX9_forget_2 : decode cX9_forget 2 = .ok (.imul, 1) := by decide +kernel
theorem dX9_forget_3 : decode cX9_forget 3 = .ok (.iload_n 2, 1) := by decide +kernel
theorem dX9_forget_4 : decode cX9_forget 4 = .ok (.iadd, 1) := by decide +kernel
theorem dX9_forget_5 : decode cX9_forget 5 = .ok (.istore_n 3, 1) := by decide +kernel
theorem dX9_forget_6 : decode cX9_forget 6 = .ok (.aload_n 0, 1) := by decide +kernel
theorem dX9_forget_7 : decode cX9_forget 7 = .ok (.getfield 66, 3) := by decide +kernel
theorem dX9_forget_10 : decode cX9_forget 10 = .ok (.iload_n 3, 1) := by decide +kernel
theorem dX9_forget_11 : decode cX9_forget 11 = .ok (.iconst (-1), 1) := by decide +kernel
theorem dX9_forget_12 : decode cX9_forget 12 = .ok (.iastore, 1) := by decide +kernel
theorem dX9_forget_13 : decode cX9_forget 13 = .ok (.aload_n 0, 1) := by decide +kernel
theorem dX9_forget_14 : decode cX9_forget 14 = .ok (.getfield 69, 3) := by decide +kernel
theorem dX9_forget_17 : decode cX9_forget 17 = .ok (.iload_n 3, 1) := by decide +kernel
theorem dX9_forget_18 : decode cX9_forget 18 = .ok (.iconst (-1), 1) := by decide +kernel
theorem dX9_forget_19 : decode cX9_forget 19 = .ok (.iastore, 1) := by decide +kernel
theorem dX9_forget_20 : decode cX9_forget 20 = .ok (.iconst 0, 1) := by decide +kernel
theorem dX9_forget_21 : decode cX9_forget 21 = .ok (.istore 4, 2) := by decide +kernel
theorem dX9_forget_23 : decode cX9_forget 23 = .ok (.iload 4, 2) := by decide +kernel
theorem dX9_forget_25 : decode cX9_forget 25 = .ok (.bipush 10, 2) := by decide +kernel
theorem dX9_forget_27 : decode cX9_forget 27 = .ok (.if_icmp .ge 22, 3) := by decide +kernel
theorem dX9_forget_30 : decode cX9_forget 30 = .ok (.aload_n 0, 1) := by decide +kernel
theorem dX9_forget_31 : decode cX9_forget 31 = .ok (.getfield 63, 3) := by decide +kernel
theorem dX9_forget_34 : decode cX9_forget 34 = .ok (.bipush 10, 2) := by decide +kernel
theorem dX9_forget_36 : decode cX9_forget 36 = .ok (.iload_n 3, 1) := by decide +kernel
theorem dX9_forget_37 : decode cX9_forget 37 = .ok (.imul, 1) := by decide +kernel
theorem dX9_forget_38 : decode cX9_forget 38 = .ok (.iload 4, 2) := by decide +kernel
theorem dX9_forget_40 : decode cX9_forget 40 = .ok (.iadd, 1) := by decide +kernel
theorem dX9_forget_41 : decode cX9_forget 41 = .ok (.iconst 0, 1) := by decide +kernel
theorem dX9_forget_42 : decode cX9_forget 42 = .ok (.iastore, 1) := by decide +kernel
theorem dX9_forget_43 : decode cX9_forget 43 = .ok (.iinc 4 1, 3) := by decide +kernel
theorem dX9_forget_46 : decode cX9_forget 46 = .ok (.goto (-23), 3) := by decide +kernel
theorem dX9_forget_49 : decode cX9_forget 49 = .ok (.iconst 0, 1) := by decide +kernel
theorem dX9_forget_50 : decode cX9_forget 50 = .ok (.istore 4, 2) := by decide +kernel
theorem dX9_forget_52 : decode cX9_forget 52 = .ok (.iload 4, 2) := by decide +kernel
theorem dX9_forget_54 : decode cX9_forget 54 = .ok (.bipush 8, 2) := by decide +kernel
theorem dX9_forget_56 : decode cX9_forget 56 = .ok (.if_icmp .ge 169, 3) := by decide +kernel
theorem dX9_forget_59 : decode cX9_forget 59 = .ok (.aload_n 0, 1) := by decide +kernel
theorem dX9_forget_60 : decode cX9_forget 60 = .ok (.getfield 72, 3) := by decide +kernel
theorem dX9_forget_63 : decode cX9_forget 63 = .ok (.bipush 8, 2) := by decide +kernel
theorem dX9_forget_65 : decode cX9_forget 65 = .ok (.iload_n 3, 1) := by decide +kernel
theorem dX9_forget_66 : decode cX9_forget 66 = .ok (.imul, 1) := by decide +kernel
theorem dX9_forget_67 : decode cX9_forget 67 = .ok (.iload 4, 2) := by decide +kernel
theorem dX9_forget_69 : decode cX9_forget 69 = .ok (.iadd, 1) := by decide +kernel
theorem dX9_forget_70 : decode cX9_forget 70 = .ok (.iconst 0, 1) := by decide +kernel
theorem dX9_forget_71 : decode cX9_forget 71 = .ok (.iastore, 1) := by decide +kernel
theorem dX9_forget_72 : decode cX9_forget 72 = .ok (.iconst 0, 1) := by decide +kernel
theorem dX9_forget_73 : decode cX9_forget 73 = .ok (.istore 5, 2) := by decide +kernel
theorem dX9_forget_75 : decode cX9_forget 75 = .ok (.iload 5, 2) := by decide +kernel
theorem dX9_forget_77 : decode cX9_forget 77 = .ok (.bipush 17, 2) := by decide +kernel
theorem dX9_forget_79 : decode cX9_forget 79 = .ok (.if_icmp .ge 28, 3) := by decide +kernel
theorem dX9_forget_82 : decode cX9_forget 82 = .ok (.aload_n 0, 1) := by decide +kernel
theorem dX9_forget_83 : decode cX9_forget 83 = .ok (.getfield 75, 3) := by decide +kernel
theorem dX9_forget_86 : decode cX9_forget 86 = .ok (.bipush 17, 2) := by decide +kernel
theorem dX9_forget_88 : decode cX9_forget 88 = .ok (.bipush 8, 2) := by decide +kernel
theorem dX9_forget_90 : decode cX9_forget 90 = .ok (.iload_n 3, 1) := by decide +kernel
theorem dX9_forget_91 : decode cX9_forget 91 = .ok (.imul, 1) := by decide +kernel
theorem dX9_forget_92 : decode cX9_forget 92 = .ok (.iload 4, 2) := by decide +kernel
theorem dX9_forget_94 : decode cX9_forget 94 = .ok (.iadd, 1) := by decide +kernel
theorem dX9_forget_95 : decode cX9_forget 95 = .ok (.imul, 1) := by decide +kernel
theorem dX9_forget_96 : decode cX9_forget 96 = .ok (.iload 5, 2) := by decide +kernel
theorem dX9_forget_98 : decode cX9_forget 98 = .ok (.iadd, 1) := by decide +kernel
theorem dX9_forget_99 : decode cX9_forget 99 = .ok (.iconst 0, 1) := by decide +kernel
theorem dX9_forget_100 : decode cX9_forget 100 = .ok (.iastore, 1) := by decide +kernel
theorem dX9_forget_101 : decode cX9_forget 101 = .ok (.iinc 5 1, 3) := by decide +kernel
theorem dX9_forget_104 : decode cX9_forget 104 = .ok (.goto (-29), 3) := by decide +kernel
theorem dX9_forget_107 : decode cX9_forget 107 = .ok (.iconst 0, 1) := by decide +kernel
theorem dX9_forget_108 : decode cX9_forget 108 = .ok (.istore 5, 2) := by decide +kernel
theorem dX9_forget_110 : decode cX9_forget 110 = .ok (.iload 5, 2) := by decide +kernel
theorem dX9_forget_112 : decode cX9_forget 112 = .ok (.bipush 16, 2) := by decide +kernel
theorem dX9_forget_114 : decode cX9_forget 114 = .ok (.if_icmp .ge 47, 3) := by decide +kernel
theorem dX9_forget_117 : decode cX9_forget 117 = .ok (.aload_n 0, 1) := by decide +kernel
theorem dX9_forget_118 : decode cX9_forget 118 = .ok (.getfield 78, 3) := by decide +kernel
theorem dX9_forget_121 : decode cX9_forget 121 = .ok (.bipush 16, 2) := by decide +kernel
theorem dX9_forget_123 : decode cX9_forget 123 = .ok (.bipush 8, 2) := by decide +kernel
theorem dX9_forget_125 : decode cX9_forget 125 = .ok (.iload_n 3, 1) := by decide +kernel
theorem dX9_forget_126 : decode cX9_forget 126 = .ok (.imul, 1) := by decide +kernel
theorem dX9_forget_127 : decode cX9_forget 127 = .ok (.iload 4, 2) := by decide +kernel
theorem dX9_forget_129 : decode cX9_forget 129 = .ok (.iadd, 1) := by decide +kernel
theorem dX9_forget_130 : decode cX9_forget 130 = .ok (.imul, 1) := by decide +kernel
theorem dX9_forget_131 : decode cX9_forget 131 = .ok (.iload 5, 2) := by decide +kernel
theorem dX9_forget_133 : decode cX9_forget 133 = .ok (.iadd, 1) := by decide +kernel
theorem dX9_forget_134 : decode cX9_forget 134 = .ok (.iconst (-1), 1) := by decide +kernel
theorem dX9_forget_135 : decode cX9_forget 135 = .ok (.iastore, 1) := by decide +kernel
theorem dX9_forget_136 : decode cX9_forget 136 = .ok (.aload_n 0, 1) := by decide +kernel
theorem dX9_forget_137 : decode cX9_forget 137 = .ok (.getfield 81, 3) := by decide +kernel
theorem dX9_forget_140 : decode cX9_forget 140 = .ok (.bipush 16, 2) := by decide +kernel
theorem dX9_forget_142 : decode cX9_forget 142 = .ok (.bipush 8, 2) := by decide +kernel
theorem dX9_forget_144 : decode cX9_forget 144 = .ok (.iload_n 3, 1) := by decide +kernel
theorem dX9_forget_145 : decode cX9_forget 145 = .ok (.imul, 1) := by decide +kernel
theorem dX9_forget_146 : decode cX9_forget 146 = .ok (.iload 4, 2) := by decide +kernel
theorem dX9_forget_148 : decode cX9_forget 148 = .ok (.iadd, 1) := by decide +kernel
theorem dX9_forget_149 : decode cX9_forget 149 = .ok (.imul, 1) := by decide +kernel
theorem dX9_forget_150 : decode cX9_forget 150 = .ok (.iload 5, 2) := by decide +kernel
theorem dX9_forget_152 : decode cX9_forget 152 = .ok (.iadd, 1) := by decide +kernel
theorem dX9_forget_153 : decode cX9_forget 153 = .ok (.iconst (-1), 1) := by decide +kernel
theorem dX9_forget_154 : decode cX9_forget 154 = .ok (.iastore, 1) := by decide +kernel
theorem dX9_forget_155 : decode cX9_forget 155 = .ok (.iinc 5 1, 3) := by decide +kernel
theorem dX9_forget_158 : decode cX9_forget 158 = .ok (.goto (-48), 3) := by decide +kernel
theorem dX9_forget_161 : decode cX9_forget 161 = .ok (.iconst 0, 1) := by decide +kernel
theorem dX9_forget_162 : decode cX9_forget 162 = .ok (.istore 5, 2) := by decide +kernel
theorem dX9_forget_164 : decode cX9_forget 164 = .ok (.iload 5, 2) := by decide +kernel
theorem dX9_forget_166 : decode cX9_forget 166 = .ok (.bipush 17, 2) := by decide +kernel
theorem dX9_forget_168 : decode cX9_forget 168 = .ok (.if_icmp .ge 51, 3) := by decide +kernel
theorem dX9_forget_171 : decode cX9_forget 171 = .ok (.bipush 17, 2) := by decide +kernel
theorem dX9_forget_173 : decode cX9_forget 173 = .ok (.bipush 8, 2) := by decide +kernel
theorem dX9_forget_175 : decode cX9_forget 175 = .ok (.iload_n 1, 1) := by decide +kernel
theorem dX9_forget_176 : decode cX9_forget 176 = .ok (.imul, 1) := by decide +kernel
theorem dX9_forget_177 : decode cX9_forget 177 = .ok (.iload 4, 2) := by decide +kernel
theorem dX9_forget_179 : decode cX9_forget 179 = .ok (.iadd, 1) := by decide +kernel
theorem dX9_forget_180 : decode cX9_forget 180 = .ok (.imul, 1) := by decide +kernel
theorem dX9_forget_181 : decode cX9_forget 181 = .ok (.iload 5, 2) := by decide +kernel
theorem dX9_forget_183 : decode cX9_forget 183 = .ok (.iadd, 1) := by decide +kernel
theorem dX9_forget_184 : decode cX9_forget 184 = .ok (.istore 6, 2) := by decide +kernel
theorem dX9_forget_186 : decode cX9_forget 186 = .ok (.aload_n 0, 1) := by decide +kernel
theorem dX9_forget_187 : decode cX9_forget 187 = .ok (.getfield 87, 3) := by decide +kernel
theorem dX9_forget_190 : decode cX9_forget 190 = .ok (.iload 6, 2) := by decide +kernel
theorem dX9_forget_192 : decode cX9_forget 192 = .ok (.iaload, 1) := by decide +kernel
theorem dX9_forget_193 : decode cX9_forget 193 = .ok (.iload_n 2, 1) := by decide +kernel
theorem dX9_forget_194 : decode cX9_forget 194 = .ok (.if_icmp .ne 19, 3) := by decide +kernel
theorem dX9_forget_197 : decode cX9_forget 197 = .ok (.aload_n 0, 1) := by decide +kernel
theorem dX9_forget_198 : decode cX9_forget 198 = .ok (.getfield 87, 3) := by decide +kernel
theorem dX9_forget_201 : decode cX9_forget 201 = .ok (.iload 6, 2) := by decide +kernel
theorem dX9_forget_203 : decode cX9_forget 203 = .ok (.iconst (-1), 1) := by decide +kernel
theorem dX9_forget_204 : decode cX9_forget 204 = .ok (.iastore, 1) := by decide +kernel
theorem dX9_forget_205 : decode cX9_forget 205 = .ok (.aload_n 0, 1) := by decide +kernel
theorem dX9_forget_206 : decode cX9_forget 206 = .ok (.getfield 90, 3) := by decide +kernel
theorem dX9_forget_209 : decode cX9_forget 209 = .ok (.iload 6, 2) := by decide +kernel
theorem dX9_forget_211 : decode cX9_forget 211 = .ok (.iconst (-1), 1) := by decide +kernel
theorem dX9_forget_212 : decode cX9_forget 212 = .ok (.iastore, 1) := by decide +kernel
theorem dX9_forget_213 : decode cX9_forget 213 = .ok (.iinc 5 1, 3) := by decide +kernel
theorem dX9_forget_216 : decode cX9_forget 216 = .ok (.goto (-52), 3) := by decide +kernel
theorem dX9_forget_219 : decode cX9_forget 219 = .ok (.iinc 4 1, 3) := by decide +kernel
theorem dX9_forget_222 : decode cX9_forget 222 = .ok (.goto (-170), 3) := by decide +kernel
theorem dX9_forget_225 : decode cX9_forget 225 = .ok (.return_, 1) := by decide +kernel
def d_X9_forget_164 : Nat → Nat → Int32 → Int32 → Int32 → Int32 → Int32 → Hp → (Nat → Int32 → Int32 → Int32 → Int32 → Hp → Option (Hp)) → Option (Hp)
  | 0, _, _, _, _, _, _, _, _ => none
  | n_ + 1, x0, x1, x2, x3, x4, x5, G, k52 =>
    if 17 ≤ x5 then
      k52 x0 x1 x2 x3 ((x4 + 1)) G
    else
      bd ((((17 * ((((8 * x1)) + x4)))) + x5)) fun v2 =>
      gd (hc G x0 = 10) <|
      gd (hc G ((hr G x0 33)) = 11 ∧ ix v2 (hl G ((hr G x0 33)))) <|
      if ((hi G ((hr G x0 33)) v2.toNatClampNeg)) = x2 then
        gd (hc G ((hr G x0 33)) = 11 ∧ ix v2 (hl G ((hr G x0 33)))) <|
        bd (sI G ((hr G x0 33)) v2.toNatClampNeg (-1)) fun G7 =>
        gd (hc G7 x0 = 10) <|
        gd (hc G7 ((hr G7 x0 34)) = 11 ∧ ix v2 (hl G7 ((hr G7 x0 34)))) <|
        bd (sI G7 ((hr G7 x0 34)) v2.toNatClampNeg (-1)) fun G10 =>
        d_X9_forget_164 n_ x0 x1 x2 x3 x4 ((x5 + 1)) G10 k52
      else
        d_X9_forget_164 n_ x0 x1 x2 x3 x4 ((x5 + 1)) G k52
def d_X9_forget_110 : Nat → Nat → Int32 → Int32 → Int32 → Int32 → Int32 → Hp → (Nat → Int32 → Int32 → Int32 → Int32 → Hp → Option (Hp)) → Option (Hp)
  | 0, _, _, _, _, _, _, _, _ => none
  | n_ + 1, x0, x1, x2, x3, x4, x5, G, k52 =>
    if 16 ≤ x5 then
      d_X9_forget_164 FU x0 x1 x2 x3 x4 0 G k52
    else
      gd (hc G x0 = 10) <|
      gd (hc G ((hr G x0 30)) = 11 ∧ ix ((((16 * ((((8 * x3)) + x4)))) + x5)) (hl G ((hr G x0 30)))) <|
      bd (sI G ((hr G x0 30)) ((((16 * ((((8 * x3)) + x4)))) + x5)).toNatClampNeg (-1)) fun G4 =>
      gd (hc G4 x0 = 10) <|
      gd (hc G4 ((hr G4 x0 31)) = 11 ∧ ix ((((16 * ((((8 * x3)) + x4)))) + x5)) (hl G4 ((hr G4 x0 31)))) <|
      bd (sI G4 ((hr G4 x0 31)) ((((16 * ((((8 * x3)) + x4)))) + x5)).toNatClampNeg (-1)) fun G7 =>
      d_X9_forget_110 n_ x0 x1 x2 x3 x4 ((x5 + 1)) G7 k52
def d_X9_forget_75 : Nat → Nat → Int32 → Int32 → Int32 → Int32 → Int32 → Hp → (Nat → Int32 → Int32 → Int32 → Int32 → Hp → Option (Hp)) → Option (Hp)
  | 0, _, _, _, _, _, _, _, _ => none
  | n_ + 1, x0, x1, x2, x3, x4, x5, G, k52 =>
    if 17 ≤ x5 then
      d_X9_forget_110 FU x0 x1 x2 x3 x4 0 G k52
    else
      gd (hc G x0 = 10) <|
      gd (hc G ((hr G x0 29)) = 11 ∧ ix ((((17 * ((((8 * x3)) + x4)))) + x5)) (hl G ((hr G x0 29)))) <|
      bd (sI G ((hr G x0 29)) ((((17 * ((((8 * x3)) + x4)))) + x5)).toNatClampNeg 0) fun G4 =>
      d_X9_forget_75 n_ x0 x1 x2 x3 x4 ((x5 + 1)) G4 k52
def d_X9_forget_52 : Nat → Nat → Int32 → Int32 → Int32 → Int32 → Hp → Option (Hp)
  | 0, _, _, _, _, _, _ => none
  | n_ + 1, x0, x1, x2, x3, x4, G =>
    if 8 ≤ x4 then
      some G
    else
      gd (hc G x0 = 10) <|
      gd (hc G ((hr G x0 28)) = 11 ∧ ix ((((8 * x3)) + x4)) (hl G ((hr G x0 28)))) <|
      bd (sI G ((hr G x0 28)) ((((8 * x3)) + x4)).toNatClampNeg 0) fun G4 =>
      d_X9_forget_75 FU x0 x1 x2 x3 x4 0 G4 (fun y0 y1 y2 y3 y4 Gy => d_X9_forget_52 n_ y0 y1 y2 y3 y4 Gy)
def d_X9_forget_23 : Nat → Nat → Int32 → Int32 → Int32 → Int32 → Hp → Option (Hp)
  | 0, _, _, _, _, _, _ => none
  | n_ + 1, x0, x1, x2, x3, x4, G =>
    if 10 ≤ x4 then
      d_X9_forget_52 FU x0 x1 x2 x3 0 G
    else
      gd (hc G x0 = 10) <|
      gd (hc G ((hr G x0 25)) = 11 ∧ ix ((((10 * x3)) + x4)) (hl G ((hr G x0 25)))) <|
      bd (sI G ((hr G x0 25)) ((((10 * x3)) + x4)).toNatClampNeg 0) fun G4 =>
      d_X9_forget_23 n_ x0 x1 x2 x3 ((x4 + 1)) G4
def d_X9_forget (x0 : Nat) (x1 : Int32) (x2 : Int32) (G : Hp) : Option (Hp) :=
  gd (hc G x0 = 10) <|
  gd (hc G ((hr G x0 26)) = 11 ∧ ix ((((4 * x1)) + x2)) (hl G ((hr G x0 26)))) <|
  bd (sI G ((hr G x0 26)) ((((4 * x1)) + x2)).toNatClampNeg (-1)) fun G3 =>
  gd (hc G3 x0 = 10) <|
  gd (hc G3 ((hr G3 x0 27)) = 11 ∧ ix ((((4 * x1)) + x2)) (hl G3 ((hr G3 x0 27)))) <|
  bd (sI G3 ((hr G3 x0 27)) ((((4 * x1)) + x2)).toNatClampNeg (-1)) fun G6 =>
  d_X9_forget_23 FU x0 x1 x2 ((((4 * x1)) + x2)) 0 G6
section
variable {p : Program} {l : Launch} {e : Env} {s : State} {m : MethodId} {args : Array Value} {below : List Frame} {meth : Method} {c : Code} {b0 : Nat} {D : va_G} {E : Nat → ClassId}
set_option maxHeartbeats 4000000 in
set_option maxRecDepth 100000 in
theorem k_X9_forget_164 (C : Cx p s m args meth c RX9 cX9_forget 7 none b0 D E) {GG : Hp} {k52 : Nat → Int32 → Int32 → Int32 → Int32 → Hp → Option (Hp)} (hk52 : ∀ (y0 : Nat) (y1 : Int32) (y2 : Int32) (y3 : Int32) (y4 : Int32) (Gy : Hp) (H1 : Heap) (locs1 : List Loc) (ls1 : Array Slot), lx ls1 7 [(0, .inr y0), (1, .inl y1), (2, .inl y2), (3, .inl y3), (4, .inl y4)] → Rp b0 D E Gy H1 → SS b0 s H1 locs1 → k52 y0 y1 y2 y3 y4 Gy = some GG → W p l e (rmd 0 (0) (0)) s m args below meth c H1 locs1 (0) (0) (MQ below (CQ b0 D E none GG) args s (0) (0) (fun q => b0 ≤ q)) (F0 m 52 ls1 [])) : ∀ (n_ : Nat) {x0 : Nat} {x1 : Int32} {x2 : Int32} {x3 : Int32} {x4 : Int32} {x5 : Int32} {G : Hp} {ls : Array Slot} {H : Heap} {locs : List Loc}, lx ls 7 [(0, .inr x0), (1, .inl x1), (2, .inl x2), (3, .inl x3), (4, .inl x4), (5, .inl x5)] → Rp b0 D E G H → SS b0 s H locs → d_X9_forget_164 n_ x0 x1 x2 x3 x4 x5 G k52 = some GG → W p l e (rmd 0 (0) (0)) s m args below meth c H locs (0) (0) (MQ below (CQ b0 D E none GG) args s (0) (0) (fun q => b0 ≤ q)) (F0 m 164 ls []) := by
  intro n_
  induction n_ with
  | zero =>
    intro x0 x1 x2 x3 x4 x5 G ls H locs hL hR hS hd
    cases (show (none : Option _) = some _ from hd)
  | succ n_ ih =>
    intro x0 x1 x2 x3 x4 x5 G ls H locs hL hR hS hd
    rw [d_X9_forget_164.eq_2] at hd
    have hx := C.1
    have hb := C.2.1
    refine x_iload C dX9_forget_164 hL 5 rfl ?_
    refine lv_bipush (v := 17) hx hb dX9_forget_166 (by decide) ?_
    refine lv_icmp_ge (tgt := 219) hx hb dX9_forget_168 (by decide) (fun c1 => ?_) (fun c1 => ?_)
    · rw [if_pos c1] at hd
      refine x_iinc (lv' := [(4, .inl ((x4 + 1))), (0, .inr x0), (1, .inl x1), (2, .inl x2), (3, .inl x3), (5, .inl x5)]) C dX9_forget_219 hL 4 rfl rfl (by decide) rfl (fun ls hL => ?_)
      refine lv_goto (tgt := 52) hx hb dX9_forget_222 (by decide) ?_
      exact hk52 _ _ _ _ _ _ _ _ _ (lx_sub hL [1, 2, 3, 4, 0] rfl) hR hS hd
    · rw [if_neg c1] at hd
      refine lv_bipush (v := 17) hx hb dX9_forget_171 (by decide) ?_
      refine lv_bipush (v := 8) hx hb dX9_forget_173 (by decide) ?_
      refine x_iload_n C dX9_forget_175 hL 1 rfl ?_
      refine lv_imul hx hb dX9_forget_176 ?_
      refine x_iload C dX9_forget_177 hL 4 rfl ?_
      refine lv_iadd hx hb dX9_forget_179 ?_
      refine lv_imul hx hb dX9_forget_180 ?_
      refine x_iload C dX9_forget_181 hL 5 rfl ?_
      refine lv_iadd hx hb dX9_forget_183 ?_
      obtain ⟨v2, ev2, hd⟩ := bd_ex hd
      rw [← ev2]
      refine x_istore (lv' := [(6, .inl v2), (0, .inr x0), (1, .inl x1), (2, .inl x2), (3, .inl x3), (4, .inl x4), (5, .inl x5)]) C dX9_forget_184 hL (by decide) rfl (fun ls hL => ?_)
      refine x_aload_n C dX9_forget_186 hL 1 rfl ?_
      obtain ⟨g3, hd⟩ := gd_ex hd
      refine r_getr (ci := 9) (k := 33) C fl_X9_87 rfl dX9_forget_187 hR g3 ?_
      refine x_iload C dX9_forget_190 hL 0 rfl ?_
      obtain ⟨g4, hd⟩ := gd_ex hd
      refine r_iald C dX9_forget_192 hR g4 ?_
      refine x_iload_n C dX9_forget_193 hL 3 rfl ?_
      refine lv_icmp_ne (tgt := 213) hx hb dX9_forget_194 (by decide) (fun c5 => ?_) (fun c5 => ?_)
      · rw [if_neg c5] at hd
        refine x_iinc (lv' := [(5, .inl ((x5 + 1))), (6, .inl v2), (0, .inr x0), (1, .inl x1), (2, .inl x2), (3, .inl x3), (4, .inl x4)]) C dX9_forget_213 hL 6 rfl rfl (by decide) rfl (fun ls hL => ?_)
        refine lv_goto (tgt := 164) hx hb dX9_forget_216 (by decide) ?_
        exact ih (lx_sub hL [2, 3, 4, 5, 6, 0] rfl) hR hS hd
      · rw [if_pos c5] at hd
        refine x_aload_n C dX9_forget_197 hL 1 rfl ?_
        refine r_getr (ci := 9) (k := 33) C fl_X9_87 rfl dX9_forget_198 hR g3 ?_
        refine x_iload C dX9_forget_201 hL 0 rfl ?_
        refine lv_iconst (v := (-1)) hx hb dX9_forget_203 (by decide) ?_
        obtain ⟨g6, hd⟩ := gd_ex hd
        obtain ⟨G7, eG7, hd⟩ := bd_ex hd
        refine r_iast C dX9_forget_204 hR hS g6 (fun H locs hR hS => ?_)
        replace hR : Rp b0 D E G7 H := by rw [eG7]; exact hR
        refine x_aload_n C dX9_forget_205 hL 1 rfl ?_
        obtain ⟨g8, hd⟩ := gd_ex hd
        refine r_getr (ci := 9) (k := 34) C fl_X9_90 rfl dX9_forget_206 hR g8 ?_
        refine x_iload C dX9_forget_209 hL 0 rfl ?_
        refine lv_iconst (v := (-1)) hx hb dX9_forget_211 (by decide) ?_
        obtain ⟨g9, hd⟩ := gd_ex hd
        obtain ⟨G10, eG10, hd⟩ := bd_ex hd
        refine r_iast C dX9_forget_212 hR hS g9 (fun H locs hR hS => ?_)
        replace hR : Rp b0 D E G10 H := by rw [eG10]; exact hR
        refine x_iinc (lv' := [(5, .inl ((x5 + 1))), (6, .inl v2), (0, .inr x0), (1, .inl x1), (2, .inl x2), (3, .inl x3), (4, .inl x4)]) C dX9_forget_213 hL 6 rfl rfl (by decide) rfl (fun ls hL => ?_)
        refine lv_goto (tgt := 164) hx hb dX9_forget_216 (by decide) ?_
        exact ih (lx_sub hL [2, 3, 4, 5, 6, 0] rfl) hR hS hd
set_option maxHeartbeats 4000000 in
set_option maxRecDepth 100000 in
theorem k_X9_forget_110 (C : Cx p s m args meth c RX9 cX9_forget 7 none b0 D E) {GG : Hp} {k52 : Nat → Int32 → Int32 → Int32 → Int32 → Hp → Option (Hp)} (hk52 : ∀ (y0 : Nat) (y1 : Int32) (y2 : Int32) (y3 : Int32) (y4 : Int32) (Gy : Hp) (H1 : Heap) (locs1 : List Loc) (ls1 : Array Slot), lx ls1 7 [(0, .inr y0), (1, .inl y1), (2, .inl y2), (3, .inl y3), (4, .inl y4)] → Rp b0 D E Gy H1 → SS b0 s H1 locs1 → k52 y0 y1 y2 y3 y4 Gy = some GG → W p l e (rmd 0 (0) (0)) s m args below meth c H1 locs1 (0) (0) (MQ below (CQ b0 D E none GG) args s (0) (0) (fun q => b0 ≤ q)) (F0 m 52 ls1 [])) : ∀ (n_ : Nat) {x0 : Nat} {x1 : Int32} {x2 : Int32} {x3 : Int32} {x4 : Int32} {x5 : Int32} {G : Hp} {ls : Array Slot} {H : Heap} {locs : List Loc}, lx ls 7 [(0, .inr x0), (1, .inl x1), (2, .inl x2), (3, .inl x3), (4, .inl x4), (5, .inl x5)] → Rp b0 D E G H → SS b0 s H locs → d_X9_forget_110 n_ x0 x1 x2 x3 x4 x5 G k52 = some GG → W p l e (rmd 0 (0) (0)) s m args below meth c H locs (0) (0) (MQ below (CQ b0 D E none GG) args s (0) (0) (fun q => b0 ≤ q)) (F0 m 110 ls []) := by
  intro n_
  induction n_ with
  | zero =>
    intro x0 x1 x2 x3 x4 x5 G ls H locs hL hR hS hd
    cases (show (none : Option _) = some _ from hd)
  | succ n_ ih =>
    intro x0 x1 x2 x3 x4 x5 G ls H locs hL hR hS hd
    rw [d_X9_forget_110.eq_2] at hd
    have hx := C.1
    have hb := C.2.1
    refine x_iload C dX9_forget_110 hL 5 rfl ?_
    refine lv_bipush (v := 16) hx hb dX9_forget_112 (by decide) ?_
    refine lv_icmp_ge (tgt := 161) hx hb dX9_forget_114 (by decide) (fun c1 => ?_) (fun c1 => ?_)
    · rw [if_pos c1] at hd
      refine lv_iconst (v := 0) hx hb dX9_forget_161 (by decide) ?_
      refine x_istore (lv' := [(5, .inl 0), (0, .inr x0), (1, .inl x1), (2, .inl x2), (3, .inl x3), (4, .inl x4)]) C dX9_forget_162 hL (by decide) rfl (fun ls hL => ?_)
      exact k_X9_forget_164 C hk52 FU (lx_sub hL [1, 2, 3, 4, 5, 0] rfl) hR hS hd
    · rw [if_neg c1] at hd
      refine x_aload_n C dX9_forget_117 hL 0 rfl ?_
      obtain ⟨g2, hd⟩ := gd_ex hd
      refine r_getr (ci := 9) (k := 30) C fl_X9_78 rfl dX9_forget_118 hR g2 ?_
      refine lv_bipush (v := 16) hx hb dX9_forget_121 (by decide) ?_
      refine lv_bipush (v := 8) hx hb dX9_forget_123 (by decide) ?_
      refine x_iload_n C dX9_forget_125 hL 3 rfl ?_
      refine lv_imul hx hb dX9_forget_126 ?_
      refine x_iload C dX9_forget_127 hL 4 rfl ?_
      refine lv_iadd hx hb dX9_forget_129 ?_
      refine lv_imul hx hb dX9_forget_130 ?_
      refine x_iload C dX9_forget_131 hL 5 rfl ?_
      refine lv_iadd hx hb dX9_forget_133 ?_
      refine lv_iconst (v := (-1)) hx hb dX9_forget_134 (by decide) ?_
      obtain ⟨g3, hd⟩ := gd_ex hd
      obtain ⟨G4, eG4, hd⟩ := bd_ex hd
      refine r_iast C dX9_forget_135 hR hS g3 (fun H locs hR hS => ?_)
      replace hR : Rp b0 D E G4 H := by rw [eG4]; exact hR
      refine x_aload_n C dX9_forget_136 hL 0 rfl ?_
      obtain ⟨g5, hd⟩ := gd_ex hd
      refine r_getr (ci := 9) (k := 31) C fl_X9_81 rfl dX9_forget_137 hR g5 ?_
      refine lv_bipush (v := 16) hx hb dX9_forget_140 (by decide) ?_
      refine lv_bipush (v := 8) hx hb dX9_forget_142 (by decide) ?_
      refine x_iload_n C dX9_forget_144 hL 3 rfl ?_
      refine lv_imul hx hb dX9_forget_145 ?_
      refine x_iload C dX9_forget_146 hL 4 rfl ?_
      refine lv_iadd hx hb dX9_forget_148 ?_
      refine lv_imul hx hb dX9_forget_149 ?_
      refine x_iload C dX9_forget_150 hL 5 rfl ?_
      refine lv_iadd hx hb dX9_forget_152 ?_
      refine lv_iconst (v := (-1)) hx hb dX9_forget_153 (by decide) ?_
      obtain ⟨g6, hd⟩ := gd_ex hd
      obtain ⟨G7, eG7, hd⟩ := bd_ex hd
      refine r_iast C dX9_forget_154 hR hS g6 (fun H locs hR hS => ?_)
      replace hR : Rp b0 D E G7 H := by rw [eG7]; exact hR
      refine x_iinc (lv' := [(5, .inl ((x5 + 1))), (0, .inr x0), (1, .inl x1), (2, .inl x2), (3, .inl x3), (4, .inl x4)]) C dX9_forget_155 hL 5 rfl rfl (by decide) rfl (fun ls hL => ?_)
      refine lv_goto (tgt := 110) hx hb dX9_forget_158 (by decide) ?_
      exact ih (lx_sub hL [1, 2, 3, 4, 5, 0] rfl) hR hS hd
set_option maxHeartbeats 4000000 in
set_option maxRecDepth 100000 in
theorem k_X9_forget_75 (C : Cx p s m args meth c RX9 cX9_forget 7 none b0 D E) {GG : Hp} {k52 : Nat → Int32 → Int32 → Int32 → Int32 → Hp → Option (Hp)} (hk52 : ∀ (y0 : Nat) (y1 : Int32) (y2 : Int32) (y3 : Int32) (y4 : Int32) (Gy : Hp) (H1 : Heap) (locs1 : List Loc) (ls1 : Array Slot), lx ls1 7 [(0, .inr y0), (1, .inl y1), (2, .inl y2), (3, .inl y3), (4, .inl y4)] → Rp b0 D E Gy H1 → SS b0 s H1 locs1 → k52 y0 y1 y2 y3 y4 Gy = some GG → W p l e (rmd 0 (0) (0)) s m args below meth c H1 locs1 (0) (0) (MQ below (CQ b0 D E none GG) args s (0) (0) (fun q => b0 ≤ q)) (F0 m 52 ls1 [])) : ∀ (n_ : Nat) {x0 : Nat} {x1 : Int32} {x2 : Int32} {x3 : Int32} {x4 : Int32} {x5 : Int32} {G : Hp} {ls : Array Slot} {H : Heap} {locs : List Loc}, lx ls 7 [(0, .inr x0), (1, .inl x1), (2, .inl x2), (3, .inl x3), (4, .inl x4), (5, .inl x5)] → Rp b0 D E G H → SS b0 s H locs → d_X9_forget_75 n_ x0 x1 x2 x3 x4 x5 G k52 = some GG → W p l e (rmd 0 (0) (0)) s m args below meth c H locs (0) (0) (MQ below (CQ b0 D E none GG) args s (0) (0) (fun q => b0 ≤ q)) (F0 m 75 ls []) := by
  intro n_
  induction n_ with
  | zero =>
    intro x0 x1 x2 x3 x4 x5 G ls H locs hL hR hS hd
    cases (show (none : Option _) = some _ from hd)
  | succ n_ ih =>
    intro x0 x1 x2 x3 x4 x5 G ls H locs hL hR hS hd
    rw [d_X9_forget_75.eq_2] at hd
    have hx := C.1
    have hb := C.2.1
    refine x_iload C dX9_forget_75 hL 5 rfl ?_
    refine lv_bipush (v := 17) hx hb dX9_forget_77 (by decide) ?_
    refine lv_icmp_ge (tgt := 107) hx hb dX9_forget_79 (by decide) (fun c1 => ?_) (fun c1 => ?_)
    · rw [if_pos c1] at hd
      refine lv_iconst (v := 0) hx hb dX9_forget_107 (by decide) ?_
      refine x_istore (lv' := [(5, .inl 0), (0, .inr x0), (1, .inl x1), (2, .inl x2), (3, .inl x3), (4, .inl x4)]) C dX9_forget_108 hL (by decide) rfl (fun ls hL => ?_)
      exact k_X9_forget_110 C hk52 FU (lx_sub hL [1, 2, 3, 4, 5, 0] rfl) hR hS hd
    · rw [if_neg c1] at hd
      refine x_aload_n C dX9_forget_82 hL 0 rfl ?_
      obtain ⟨g2, hd⟩ := gd_ex hd
      refine r_getr (ci := 9) (k := 29) C fl_X9_75 rfl dX9_forget_83 hR g2 ?_
      refine lv_bipush (v := 17) hx hb dX9_forget_86 (by decide) ?_
      refine lv_bipush (v := 8) hx hb dX9_forget_88 (by decide) ?_
      refine x_iload_n C dX9_forget_90 hL 3 rfl ?_
      refine lv_imul hx hb dX9_forget_91 ?_
      refine x_iload C dX9_forget_92 hL 4 rfl ?_
      refine lv_iadd hx hb dX9_forget_94 ?_
      refine lv_imul hx hb dX9_forget_95 ?_
      refine x_iload C dX9_forget_96 hL 5 rfl ?_
      refine lv_iadd hx hb dX9_forget_98 ?_
      refine lv_iconst (v := 0) hx hb dX9_forget_99 (by decide) ?_
      obtain ⟨g3, hd⟩ := gd_ex hd
      obtain ⟨G4, eG4, hd⟩ := bd_ex hd
      refine r_iast C dX9_forget_100 hR hS g3 (fun H locs hR hS => ?_)
      replace hR : Rp b0 D E G4 H := by rw [eG4]; exact hR
      refine x_iinc (lv' := [(5, .inl ((x5 + 1))), (0, .inr x0), (1, .inl x1), (2, .inl x2), (3, .inl x3), (4, .inl x4)]) C dX9_forget_101 hL 5 rfl rfl (by decide) rfl (fun ls hL => ?_)
      refine lv_goto (tgt := 75) hx hb dX9_forget_104 (by decide) ?_
      exact ih (lx_sub hL [1, 2, 3, 4, 5, 0] rfl) hR hS hd
set_option maxHeartbeats 4000000 in
set_option maxRecDepth 100000 in
theorem k_X9_forget_52 (C : Cx p s m args meth c RX9 cX9_forget 7 none b0 D E) {GG : Hp} : ∀ (n_ : Nat) {x0 : Nat} {x1 : Int32} {x2 : Int32} {x3 : Int32} {x4 : Int32} {G : Hp} {ls : Array Slot} {H : Heap} {locs : List Loc}, lx ls 7 [(0, .inr x0), (1, .inl x1), (2, .inl x2), (3, .inl x3), (4, .inl x4)] → Rp b0 D E G H → SS b0 s H locs → d_X9_forget_52 n_ x0 x1 x2 x3 x4 G = some GG → W p l e (rmd 0 (0) (0)) s m args below meth c H locs (0) (0) (MQ below (CQ b0 D E none GG) args s (0) (0) (fun q => b0 ≤ q)) (F0 m 52 ls []) := by
  intro n_
  induction n_ with
  | zero =>
    intro x0 x1 x2 x3 x4 G ls H locs hL hR hS hd
    cases (show (none : Option _) = some _ from hd)
  | succ n_ ih =>
    intro x0 x1 x2 x3 x4 G ls H locs hL hR hS hd
    rw [d_X9_forget_52.eq_2] at hd
    have hx := C.1
    have hb := C.2.1
    refine x_iload C dX9_forget_52 hL 4 rfl ?_
    refine lv_bipush (v := 8) hx hb dX9_forget_54 (by decide) ?_
    refine lv_icmp_ge (tgt := 225) hx hb dX9_forget_56 (by decide) (fun c1 => ?_) (fun c1 => ?_)
    · rw [if_pos c1] at hd
      cases hd
      exact r_vret C dX9_forget_225 hR hS
    · rw [if_neg c1] at hd
      refine x_aload_n C dX9_forget_59 hL 0 rfl ?_
      obtain ⟨g2, hd⟩ := gd_ex hd
      refine r_getr (ci := 9) (k := 28) C fl_X9_72 rfl dX9_forget_60 hR g2 ?_
      refine lv_bipush (v := 8) hx hb dX9_forget_63 (by decide) ?_
      refine x_iload_n C dX9_forget_65 hL 3 rfl ?_
      refine lv_imul hx hb dX9_forget_66 ?_
      refine x_iload C dX9_forget_67 hL 4 rfl ?_
      refine lv_iadd hx hb dX9_forget_69 ?_
      refine lv_iconst (v := 0) hx hb dX9_forget_70 (by decide) ?_
      obtain ⟨g3, hd⟩ := gd_ex hd
      obtain ⟨G4, eG4, hd⟩ := bd_ex hd
      refine r_iast C dX9_forget_71 hR hS g3 (fun H locs hR hS => ?_)
      replace hR : Rp b0 D E G4 H := by rw [eG4]; exact hR
      refine lv_iconst (v := 0) hx hb dX9_forget_72 (by decide) ?_
      refine x_istore (lv' := [(5, .inl 0), (0, .inr x0), (1, .inl x1), (2, .inl x2), (3, .inl x3), (4, .inl x4)]) C dX9_forget_73 hL (by decide) rfl (fun ls hL => ?_)
      exact k_X9_forget_75 C (fun y0 y1 y2 y3 y4 Gy H1 locs1 ls1 hL1 hR1 hS1 hd1 => ih hL1 hR1 hS1 hd1) FU (lx_sub hL [1, 2, 3, 4, 5, 0] rfl) hR hS hd
set_option maxHeartbeats 4000000 in
set_option maxRecDepth 100000 in
theorem k_X9_forget_23 (C : Cx p s m args meth c RX9 cX9_forget 7 none b0 D E) {GG : Hp} : ∀ (n_ : Nat) {x0 : Nat} {x1 : Int32} {x2 : Int32} {x3 : Int32} {x4 : Int32} {G : Hp} {ls : Array Slot} {H : Heap} {locs : List Loc}, lx ls 7 [(0, .inr x0), (1, .inl x1), (2, .inl x2), (3, .inl x3), (4, .inl x4)] → Rp b0 D E G H → SS b0 s H locs → d_X9_forget_23 n_ x0 x1 x2 x3 x4 G = some GG → W p l e (rmd 0 (0) (0)) s m args below meth c H locs (0) (0) (MQ below (CQ b0 D E none GG) args s (0) (0) (fun q => b0 ≤ q)) (F0 m 23 ls []) := by
  intro n_
  induction n_ with
  | zero =>
    intro x0 x1 x2 x3 x4 G ls H locs hL hR hS hd
    cases (show (none : Option _) = some _ from hd)
  | succ n_ ih =>
    intro x0 x1 x2 x3 x4 G ls H locs hL hR hS hd
    rw [d_X9_forget_23.eq_2] at hd
    have hx := C.1
    have hb := C.2.1
    refine x_iload C dX9_forget_23 hL 4 rfl ?_
    refine lv_bipush (v := 10) hx hb dX9_forget_25 (by decide) ?_
    refine lv_icmp_ge (tgt := 49) hx hb dX9_forget_27 (by decide) (fun c1 => ?_) (fun c1 => ?_)
    · rw [if_pos c1] at hd
      refine lv_iconst (v := 0) hx hb dX9_forget_49 (by decide) ?_
      refine x_istore (lv' := [(4, .inl 0), (0, .inr x0), (1, .inl x1), (2, .inl x2), (3, .inl x3)]) C dX9_forget_50 hL (by decide) rfl (fun ls hL => ?_)
      exact k_X9_forget_52 C FU (lx_sub hL [1, 2, 3, 4, 0] rfl) hR hS hd
    · rw [if_neg c1] at hd
      refine x_aload_n C dX9_forget_30 hL 0 rfl ?_
      obtain ⟨g2, hd⟩ := gd_ex hd
      refine r_getr (ci := 9) (k := 25) C fl_X9_63 rfl dX9_forget_31 hR g2 ?_
      refine lv_bipush (v := 10) hx hb dX9_forget_34 (by decide) ?_
      refine x_iload_n C dX9_forget_36 hL 3 rfl ?_
      refine lv_imul hx hb dX9_forget_37 ?_
      refine x_iload C dX9_forget_38 hL 4 rfl ?_
      refine lv_iadd hx hb dX9_forget_40 ?_
      refine lv_iconst (v := 0) hx hb dX9_forget_41 (by decide) ?_
      obtain ⟨g3, hd⟩ := gd_ex hd
      obtain ⟨G4, eG4, hd⟩ := bd_ex hd
      refine r_iast C dX9_forget_42 hR hS g3 (fun H locs hR hS => ?_)
      replace hR : Rp b0 D E G4 H := by rw [eG4]; exact hR
      refine x_iinc (lv' := [(4, .inl ((x4 + 1))), (0, .inr x0), (1, .inl x1), (2, .inl x2), (3, .inl x3)]) C dX9_forget_43 hL 4 rfl rfl (by decide) rfl (fun ls hL => ?_)
      refine lv_goto (tgt := 23) hx hb dX9_forget_46 (by decide) ?_
      exact ih (lx_sub hL [1, 2, 3, 4, 0] rfl) hR hS hd
set_option maxHeartbeats 4000000 in
set_option maxRecDepth 100000 in
theorem k_X9_forget (C : Cx p s m args meth c RX9 cX9_forget 7 none b0 D E) {GG : Hp} {x0 : Nat} {x1 : Int32} {x2 : Int32} {G : Hp} {ls : Array Slot} {H : Heap} {locs : List Loc} : lx ls 7 [(0, .inr x0), (1, .inl x1), (2, .inl x2)] → Rp b0 D E G H → SS b0 s H locs → d_X9_forget x0 x1 x2 G = some GG → W p l e (rmd 0 (0) (0)) s m args below meth c H locs (0) (0) (MQ below (CQ b0 D E none GG) args s (0) (0) (fun q => b0 ≤ q)) (F0 m 0 ls []) := by
  intro hL hR hS hd
  unfold d_X9_forget at hd
  have hx := C.1
  have hb := C.2.1
  refine lv_iconst (v := 4) hx hb dX9_forget_0 (by decide) ?_
  refine x_iload_n C dX9_forget_1 hL 1 rfl ?_
  refine lv_imul hx hb dX9_forget_2 ?_
  refine x_iload_n C dX9_forget_3 hL 2 rfl ?_
  refine lv_iadd hx hb dX9_forget_4 ?_
  refine x_istore_n (lv' := [(3, .inl ((((4 * x1)) + x2))), (0, .inr x0), (1, .inl x1), (2, .inl x2)]) C dX9_forget_5 hL (by decide) rfl (fun ls hL => ?_)
  refine x_aload_n C dX9_forget_6 hL 1 rfl ?_
  obtain ⟨g1, hd⟩ := gd_ex hd
  refine r_getr (ci := 9) (k := 26) C fl_X9_66 rfl dX9_forget_7 hR g1 ?_
  refine x_iload_n C dX9_forget_10 hL 0 rfl ?_
  refine lv_iconst (v := (-1)) hx hb dX9_forget_11 (by decide) ?_
  obtain ⟨g2, hd⟩ := gd_ex hd
  obtain ⟨G3, eG3, hd⟩ := bd_ex hd
  refine r_iast C dX9_forget_12 hR hS g2 (fun H locs hR hS => ?_)
  replace hR : Rp b0 D E G3 H := by rw [eG3]; exact hR
  refine x_aload_n C dX9_forget_13 hL 1 rfl ?_
  obtain ⟨g4, hd⟩ := gd_ex hd
  refine r_getr (ci := 9) (k := 27) C fl_X9_69 rfl dX9_forget_14 hR g4 ?_
  refine x_iload_n C dX9_forget_17 hL 0 rfl ?_
  refine lv_iconst (v := (-1)) hx hb dX9_forget_18 (by decide) ?_
  obtain ⟨g5, hd⟩ := gd_ex hd
  obtain ⟨G6, eG6, hd⟩ := bd_ex hd
  refine r_iast C dX9_forget_19 hR hS g5 (fun H locs hR hS => ?_)
  replace hR : Rp b0 D E G6 H := by rw [eG6]; exact hR
  refine lv_iconst (v := 0) hx hb dX9_forget_20 (by decide) ?_
  refine x_istore (lv' := [(4, .inl 0), (3, .inl ((((4 * x1)) + x2))), (0, .inr x0), (1, .inl x1), (2, .inl x2)]) C dX9_forget_21 hL (by decide) rfl (fun ls hL => ?_)
  exact k_X9_forget_23 C FU (lx_sub hL [2, 3, 4, 1, 0] rfl) hR hS hd
end
set_option maxHeartbeats 4000000 in
set_option maxRecDepth 100000 in
theorem ct_X9_forget {l : Launch} {b0 : Nat} {D : va_G} {E : Nat → ClassId} {G : Hp} {a0 : Nat} {a1 : Int32} {a2 : Int32} {GG : Hp} (hd : d_X9_forget a0 a1 a2 G = some GG) : CT l yX9_forget cX9_forget 7 none 0 0 0 b0 D E [rv a0, .int a1, .int a2] G none GG := by
  refine CT_of (by decide +kernel) ?_
  intro p e s m below meth c C hnm hR
  refine r_entry [.inr a0, .inl a1, .inl a2] (n := 7) (Nat.le_of_ble_eq_true rfl) (lv := [(0, .inr a0), (1, .inl a1), (2, .inl a2)]) rfl (fun ls hL => ?_)
  exact k_X9_forget C (lx_sub hL [0, 1, 2] rfl) hR ⟨fun _ _ => rfl, fun _ h => by cases h⟩ hd

/-! GroveWorksModel.cut(I)Z -/
theorem dX9_cut_0 : decode cX9_cut 0 = .ok (.iload_n 1, 1) := by decide +kernel
theorem dX9_cut_1 : decode cX9_cut 1 = .ok (.invokestatic 119, 3) := by decide +kernel
theorem dX9_cut_4 : decode cX9_cut 4 = .ok (.ifCond .eq 12, 3) := by decide +kernel
theorem dX9_cut_7 : decode cX9_cut 7 = .ok (.aload_n 0, 1) := by decide +kernel
theorem dX9_cut_8 : decode cX9_cut 8 = .ok (.getfield 16, 3) := by decide +kernel
theorem dX9_cut_11 : decode cX9_cut 11 = .ok (.iload_n 1, 1) := by decide +kernel
theorem dX9_cut_12 : decode cX9_cut 12 = .ok (.baload, 1) := by decide +kernel
theorem dX9_cut_13 : decode cX9_cut 13 = .ok (.ifCond .eq 5, 3) := by decide +kernel
theorem dX9_cut_16 : decode cX9_cut 16 = .ok (.iconst 0, 1) := by decide +kernel
theorem dX9_cut_17 : decode cX9_cut 17 = .ok (.ireturn, 1) := by decide +kernel
theorem dX9_cut_18 : decode cX9_cut 18 = .ok (.aload_n 0, 1) := by decide +kernel
theorem dX9_cut_19 : decode cX9_cut 19 = .ok (.getfield 16, 3) := by decide +kernel
theorem dX9_cut_22 : decode cX9_cut 22 = .ok (.iload_n 1, 1) := by decide +kernel
theorem dX9_cut_23 : decode cX9_cut 23 = .ok (.iconst 1, 1) := by decide +kernel
theorem dX9_cut_24 : decode cX9_cut 24 = .ok (.bastore, 1) := by decide +kernel
theorem dX9_cut_25 : decode cX9_cut 25 = .ok (.aload_n 0, 1) := by decide +kernel
theorem dX9_cut_26 : decode cX9_cut 26 = .ok (.getfield 35, 3) := by decide +kernel
theorem dX9_cut_29 : decode cX9_cut 29 = .ok (.iload_n 1, 1) := by decide +kernel
theorem dX9_cut_30 : decode cX9_cut 30 = .ok (.iconst 0, 1) := by decide +kernel
theorem dX9_cut_31 : decode cX9_cut 31 = .ok (.iastore, 1) := by decide +kernel
theorem dX9_cut_32 : decode cX9_cut 32 = .ok (.aload_n 0, 1) := by decide +kernel
theorem dX9_cut_33 : decode cX9_cut 33 = .ok (.iconst 1, 1) := by decide +kernel
theorem dX9_cut_34 : decode cX9_cut 34 = .ok (.putfield 50, 3) := by decide +kernel
theorem dX9_cut_37 : decode cX9_cut 37 = .ok (.iconst 0, 1) := by decide +kernel
theorem dX9_cut_38 : decode cX9_cut 38 = .ok (.istore_n 2, 1) := by decide +kernel
theorem dX9_cut_39 : decode cX9_cut 39 = .ok (.iload_n 2, 1) := by decide +kernel
theorem dX9_cut_40 : decode cX9_cut 40 = .ok (.aload_n 0, 1) := by decide +kernel
theorem dX9_cut_41 : decode cX9_cut 41 = .ok (.getfield 108, 3) := by decide +kernel
theorem dX9_cut_44 : decode cX9_cut 44 = .ok (.if_icmp .ge 27, 3) := by decide +kernel
theorem dX9_cut_47 : decode cX9_cut 47 = .ok (.aload_n 0, 1) := by decide +kernel
theorem dX9_cut_48 : decode cX9_cut 48 = .ok (.iload_n 2, 1) := by decide +kernel
theorem dX9_cut_49 : decode cX9_cut 49 = .ok (.iload_n 1, 1) := by decide +kernel
theorem dX9_cut_50 : decode cX9_cut 50 = .ok (.invokevirtual 125, 3) := by decide +kernel
theorem dX9_cut_53 : decode cX9_cut 53 = .ok (.istore_n 3, 1) := by decide +kernel
theorem dX9_cut_54 : decode cX9_cut 54 = .ok (.iload_n 3, 1) := by decide +kernel
theorem dX9_cut_55 : decode cX9_cut 55 = .ok (.iconst (-1), 1) := by decide +kernel
theorem dX9_cut_56 : decode cX9_cut 56 = .ok (.if_icmp .eq 9, 3) := by decide +kernel
theorem dX9_cut_59 : decode cX9_cut 59 = .ok (.aload_n 0, 1) := by decide +kernel
theorem dX9_cut_60 : decode cX9_cut 60 = .ok (.iload_n 2, 1) := by decide +kernel
theorem dX9_cut_61 : decode cX9_cut 61 = .ok (.iload_n 3, 1) := by decide +kernel
theorem dX9_cut_62 : decode cX9_cut 62 = .ok (.invokevirtual 135, 3) := by decide +kernel
theorem dX9_cut_65 : decode cX9_cut 65 = .ok (.iinc 2 1, 3) := by decide +kernel
theorem dX9_cut_68 : decode cX9_cut 68 = .ok (.goto (-29), 3) := by decide +kernel
theorem dX9_cut_71 : decode cX9_cut 71 = .ok (.iconst 1, 1) := by decide +kernel
theorem dX9_cut_72 : decode cX9_cut 72 = .ok (.ireturn, 1) := by decide +kernel
def d_X9_cut_39 : Nat → Nat → Int32 → Int32 → Hp → Option (Int32 × Hp)
  | 0, _, _, _, _ => none
  | n_ + 1, x0, x1, x2, G =>
    gd (hc G x0 = 10) <|
    if ((hi G x0 1)) ≤ x2 then
      some (1, G)
    else
      bo (d_X9_portOn x0 x2 x1 G) fun v4 =>
      if v4 = (-1) then
        d_X9_cut_39 n_ x0 x1 ((x2 + 1)) G
      else
        bo (d_X9_forget x0 x2 v4 G) fun G7 =>
        d_X9_cut_39 n_ x0 x1 ((x2 + 1)) G7
def d_X9_cut (x0 : Nat) (x1 : Int32) (G : Hp) : Option (Int32 × Hp) :=
  bo (d_X9_isWire x1 G) fun v2 =>
  if v2 = 0 then
    some (0, G)
  else
    gd (hc G x0 = 10) <|
    gd (hc G ((hr G x0 10)) = 12 ∧ ix x1 (hl G ((hr G x0 10)))) <|
    if ((hi G ((hr G x0 10)) x1.toNatClampNeg)) = 0 then
      gd (hc G ((hr G x0 10)) = 12 ∧ ix x1 (hl G ((hr G x0 10)))) <|
      bd (sI G ((hr G x0 10)) x1.toNatClampNeg 1) fun G8 =>
      gd (hc G8 x0 = 10) <|
      gd (hc G8 ((hr G8 x0 16)) = 11 ∧ ix x1 (hl G8 ((hr G8 x0 16)))) <|
      bd (sI G8 ((hr G8 x0 16)) x1.toNatClampNeg 0) fun G11 =>
      gd (hc G11 x0 = 10) <|
      bd (sI G11 x0 21 1) fun G13 =>
      d_X9_cut_39 FU x0 x1 0 G13
    else
      some (0, G)
section
variable {p : Program} {l : Launch} {e : Env} {s : State} {m : MethodId} {args : Array Value} {below : List Frame} {meth : Method} {c : Code} {b0 : Nat} {D : va_G} {E : Nat → ClassId}
set_option maxHeartbeats 4000000 in
set_option maxRecDepth 100000 in
theorem k_X9_cut_39 (C : Cx p s m args meth c RX9 cX9_cut 4 (some .boolean) b0 D E) {rr : Int32} {GG : Hp} : ∀ (n_ : Nat) {x0 : Nat} {x1 : Int32} {x2 : Int32} {G : Hp} {ls : Array Slot} {H : Heap} {locs : List Loc}, lx ls 4 [(0, .inr x0), (1, .inl x1), (2, .inl x2)] → Rp b0 D E G H → SS b0 s H locs → d_X9_cut_39 n_ x0 x1 x2 G = some (rr, GG) → W p l e (rmd 1 (0) (0)) s m args below meth c H locs (0) (0) (MQ below (CQ b0 D E (some (.int rr)) GG) args s (0) (0) (fun q => b0 ≤ q)) (F0 m 39 ls []) := by
  intro n_
  induction n_ with
  | zero =>
    intro x0 x1 x2 G ls H locs hL hR hS hd
    cases (show (none : Option _) = some _ from hd)
  | succ n_ ih =>
    intro x0 x1 x2 G ls H locs hL hR hS hd
    rw [d_X9_cut_39.eq_2] at hd
    have hx := C.1
    have hb := C.2.1
    refine x_iload_n C dX9_cut_39 hL 2 rfl ?_
    refine x_aload_n C dX9_cut_40 hL 0 rfl ?_
    obtain ⟨g1, hd⟩ := gd_ex hd
    refine r_geti (ci := 9) (k := 1) C fl_X9_108 rfl dX9_cut_41 hR g1 ?_
    refine lv_icmp_ge (tgt := 71) hx hb dX9_cut_44 (by decide) (fun c2 => ?_) (fun c2 => ?_)
    · rw [if_pos c2] at hd
      refine lv_iconst (v := 1) hx hb dX9_cut_71 (by decide) ?_
      cases hd
      exact r_zret C (by decide) dX9_cut_72 hR hS
    · rw [if_neg c2] at hd
      refine x_aload_n C dX9_cut_47 hL 0 rfl ?_
      refine x_iload_n C dX9_cut_48 hL 2 rfl ?_
      refine x_iload_n C dX9_cut_49 hL 1 rfl ?_
      obtain ⟨v4, h3, hd⟩ := bo_ex hd
      refine r_callV (a := x0) (ci := 9) (As := [.int x2, .int x1]) C (ct_X9_portOn h3) mf_X9_portOn ml_X9_125 mv_X9_portOn rfl ⟨Nat.le_of_ble_eq_true rfl, Nat.le_of_ble_eq_true rfl⟩ dX9_cut_50 (lx_size hL) rfl hR hS g1 ⟨Nat.le_refl _, Nat.le_refl _⟩ (cat_le [] (Nat.le_of_ble_eq_true rfl)) (fun H locs hR hS => ?_)
      refine W_st (st2 := [.int v4]) rfl ?_
      refine x_istore_n (lv' := [(3, .inl v4), (0, .inr x0), (1, .inl x1), (2, .inl x2)]) C dX9_cut_53 hL (by decide) rfl (fun ls hL => ?_)
      refine x_iload_n C dX9_cut_54 hL 0 rfl ?_
      refine lv_iconst (v := (-1)) hx hb dX9_cut_55 (by decide) ?_
      refine lv_icmp_eq (tgt := 65) hx hb dX9_cut_56 (by decide) (fun c5 => ?_) (fun c5 => ?_)
      · rw [if_pos c5] at hd
        refine x_iinc (lv' := [(2, .inl ((x2 + 1))), (3, .inl v4), (0, .inr x0), (1, .inl x1)]) C dX9_cut_65 hL 3 rfl rfl (by decide) rfl (fun ls hL => ?_)
        refine lv_goto (tgt := 39) hx hb dX9_cut_68 (by decide) ?_
        exact ih (lx_sub hL [2, 3, 0] rfl) hR hS hd
      · rw [if_neg c5] at hd
        refine x_aload_n C dX9_cut_59 hL 1 rfl ?_
        refine x_iload_n C dX9_cut_60 hL 3 rfl ?_
        refine x_iload_n C dX9_cut_61 hL 0 rfl ?_
        obtain ⟨G7, h6, hd⟩ := bo_ex hd
        refine r_callV (a := x0) (ci := 9) (As := [.int x2, .int v4]) C (ct_X9_forget h6) mf_X9_forget ml_X9_135 mv_X9_forget rfl ⟨Nat.le_of_ble_eq_true rfl, Nat.le_of_ble_eq_true rfl⟩ dX9_cut_62 (lx_size hL) rfl hR hS g1 ⟨Nat.le_refl _, Nat.le_refl _⟩ (cat_le [] (Nat.le_of_ble_eq_true rfl)) (fun H locs hR hS => ?_)
        refine W_st (st2 := []) rfl ?_
        refine x_iinc (lv' := [(2, .inl ((x2 + 1))), (3, .inl v4), (0, .inr x0), (1, .inl x1)]) C dX9_cut_65 hL 3 rfl rfl (by decide) rfl (fun ls hL => ?_)
        refine lv_goto (tgt := 39) hx hb dX9_cut_68 (by decide) ?_
        exact ih (lx_sub hL [2, 3, 0] rfl) hR hS hd
set_option maxHeartbeats 4000000 in
set_option maxRecDepth 100000 in
theorem k_X9_cut (C : Cx p s m args meth c RX9 cX9_cut 4 (some .boolean) b0 D E) {rr : Int32} {GG : Hp} {x0 : Nat} {x1 : Int32} {G : Hp} {ls : Array Slot} {H : Heap} {locs : List Loc} : lx ls 4 [(0, .inr x0), (1, .inl x1)] → Rp b0 D E G H → SS b0 s H locs → d_X9_cut x0 x1 G = some (rr, GG) → W p l e (rmd 1 (0) (0)) s m args below meth c H locs (0) (0) (MQ below (CQ b0 D E (some (.int rr)) GG) args s (0) (0) (fun q => b0 ≤ q)) (F0 m 0 ls []) := by
  intro hL hR hS hd
  unfold d_X9_cut at hd
  have hx := C.1
  have hb := C.2.1
  refine x_iload_n C dX9_cut_0 hL 1 rfl ?_
  obtain ⟨v2, h1, hd⟩ := bo_ex hd
  refine r_callS (As := [.int x1]) C (ct_X9_isWire h1) mf_X9_isWire ml_X9_119 ms_X9_isWire rfl ⟨Nat.le_of_ble_eq_true rfl, Nat.le_of_ble_eq_true rfl⟩ dX9_cut_1 (lx_size hL) rfl hR hS ⟨Nat.le_refl _, Nat.le_refl _⟩ (cat_le [] (Nat.le_of_ble_eq_true rfl)) (fun H locs hR hS => ?_)
  refine W_st (st2 := [.int v2]) rfl ?_
  refine lv_if_eq (tgt := 16) hx hb dX9_cut_4 (by decide) (fun c3 => ?_) (fun c3 => ?_)
  · rw [if_pos c3] at hd
    refine lv_iconst (v := 0) hx hb dX9_cut_16 (by decide) ?_
    cases hd
    exact r_zret C (by decide) dX9_cut_17 hR hS
  · rw [if_neg c3] at hd
    refine x_aload_n C dX9_cut_7 hL 0 rfl ?_
    obtain ⟨g4, hd⟩ := gd_ex hd
    refine r_getr (ci := 9) (k := 10) C fl_X9_16 rfl dX9_cut_8 hR g4 ?_
    refine x_iload_n C dX9_cut_11 hL 1 rfl ?_
    obtain ⟨g5, hd⟩ := gd_ex hd
    refine r_zald C dX9_cut_12 hR g5 ?_
    refine lv_if_eq (tgt := 18) hx hb dX9_cut_13 (by decide) (fun c6 => ?_) (fun c6 => ?_)
    · rw [if_pos c6] at hd
      refine x_aload_n C dX9_cut_18 hL 0 rfl ?_
      refine r_getr (ci := 9) (k := 10) C fl_X9_16 rfl dX9_cut_19 hR g4 ?_
      refine x_iload_n C dX9_cut_22 hL 1 rfl ?_
      refine lv_iconst (v := 1) hx hb dX9_cut_23 (by decide) ?_
      obtain ⟨g7, hd⟩ := gd_ex hd
      obtain ⟨G8, eG8, hd⟩ := bd_ex hd
      refine r_zast C (by decide) dX9_cut_24 hR hS g7 (fun H locs hR hS => ?_)
      replace hR : Rp b0 D E G8 H := by rw [eG8]; exact hR
      refine x_aload_n C dX9_cut_25 hL 0 rfl ?_
      obtain ⟨g9, hd⟩ := gd_ex hd
      refine r_getr (ci := 9) (k := 16) C fl_X9_35 rfl dX9_cut_26 hR g9 ?_
      refine x_iload_n C dX9_cut_29 hL 1 rfl ?_
      refine lv_iconst (v := 0) hx hb dX9_cut_30 (by decide) ?_
      obtain ⟨g10, hd⟩ := gd_ex hd
      obtain ⟨G11, eG11, hd⟩ := bd_ex hd
      refine r_iast C dX9_cut_31 hR hS g10 (fun H locs hR hS => ?_)
      replace hR : Rp b0 D E G11 H := by rw [eG11]; exact hR
      refine x_aload_n C dX9_cut_32 hL 0 rfl ?_
      refine lv_iconst (v := 1) hx hb dX9_cut_33 (by decide) ?_
      obtain ⟨g12, hd⟩ := gd_ex hd
      obtain ⟨G13, eG13, hd⟩ := bd_ex hd
      refine r_putz (ci := 9) (k := 21) C fl_X9_50 rfl (Or.inl rfl) (by decide) dX9_cut_34 hR hS g12 (fun H locs hR hS => ?_)
      replace hR : Rp b0 D E G13 H := by rw [eG13]; exact hR
      refine lv_iconst (v := 0) hx hb dX9_cut_37 (by decide) ?_
      refine x_istore_n (lv' := [(2, .inl 0), (0, .inr x0), (1, .inl x1)]) C dX9_cut_38 hL (by decide) rfl (fun ls hL => ?_)
      exact k_X9_cut_39 C FU (lx_sub hL [1, 2, 0] rfl) hR hS hd
    · rw [if_neg c6] at hd
      refine lv_iconst (v := 0) hx hb dX9_cut_16 (by decide) ?_
      cases hd
      exact r_zret C (by decide) dX9_cut_17 hR hS
end
set_option maxHeartbeats 4000000 in
set_option maxRecDepth 100000 in
theorem ct_X9_cut {l : Launch} {b0 : Nat} {D : va_G} {E : Nat → ClassId} {G : Hp} {a0 : Nat} {a1 : Int32} {rr : Int32} {GG : Hp} (hd : d_X9_cut a0 a1 G = some (rr, GG)) : CT l yX9_cut cX9_cut 4 (some .boolean) 1 0 0 b0 D E [rv a0, .int a1] G (some (.int rr)) GG := by
  refine CT_of (by decide +kernel) ?_
  intro p e s m below meth c C hnm hR
  refine r_entry [.inr a0, .inl a1] (n := 4) (Nat.le_of_ble_eq_true rfl) (lv := [(0, .inr a0), (1, .inl a1)]) rfl (fun ls hL => ?_)
  exact k_X9_cut C (lx_sub hL [0, 1] rfl) hR ⟨fun _ _ => rfl, fun _ h => by cases h⟩ hd

/-! GroveWorksModel.mend(I)Z -/
theorem dX9_mend_0 : decode cX9_mend 0 = .ok (.iload_n 1, 1) := by decide +kernel
theorem dX9_mend_1 : decode cX9_mend 1 = .ok (.invokestatic 119, 3) := by decide +kernel
theorem dX9_mend_4 : decode cX9_mend 4 = .ok (.ifCond .eq 12, 3) := by decide +kernel
theorem dX9_mend_7 : decode cX9_mend 7 = .ok (.aload_n 0, 1) := by decide +kernel
theorem dX9_mend_8 : decode cX9_mend 8 = .ok (.getfield 16, 3) := by decide +kernel
theorem dX9_mend_11 : decode cX9_mend 11 = .ok (.iload_n 1, 1) := by decide +kernel
theorem dX9_mend_12 : decode cX9_mend 12 = .ok (.baload, 1) := by decide +kernel
theorem dX9_mend_13 : decode cX9_mend 13 = .ok (.ifCond .ne 5, 3) := by decide +kernel
theorem dX9_mend_16 : decode cX9_mend 16 = .ok (.iconst 0, 1) := by decide +kernel
theorem dX9_mend_17 : decode cX9_mend 17 = .ok (.ireturn, 1) := by decide +kernel
theorem dX9_mend_18 : decode cX9_mend 18 = .ok (.aload_n 0, 1) := by decide +kernel
theorem dX9_mend_19 : decode cX9_mend 19 = .ok (.getfield 16, 3) := by decide +kernel
theorem dX9_mend_22 : decode cX9_mend 22 = .ok (.iload_n 1, 1) := by decide +kernel
theorem dX9_mend_23 : decode cX9_mend 23 = .ok (.iconst 0, 1) := by decide +kernel
theorem dX9_mend_24 : decode cX9_mend 24 = .ok (.bastore, 1) := by decide +kernel
theorem dX9_mend_25 : decode cX9_mend 25 = .ok (.aload_n 0, 1) := by decide +kernel
theorem dX9_mend_26 : decode cX9_mend 26 = .ok (.iconst 1, 1) := by decide +kernel
theorem dX9_mend_27 : decode cX9_mend 27 = .ok (.putfield 50, 3) := by decide +kernel
theorem dX9_mend_30 : decode cX9_mend 30 = .ok (.iconst 1, 1) := by decide +kernel
theorem dX9_mend_31 : decode cX9_mend 31 = .ok (.ireturn, 1) := by decide +kernel
def d_X9_mend (x0 : Nat) (x1 : Int32) (G : Hp) : Option (Int32 × Hp) :=
  bo (d_X9_isWire x1 G) fun v2 =>
  if v2 = 0 then
    some (0, G)
  else
    gd (hc G x0 = 10) <|
    gd (hc G ((hr G x0 10)) = 12 ∧ ix x1 (hl G ((hr G x0 10)))) <|
    if ((hi G ((hr G x0 10)) x1.toNatClampNeg)) = 0 then
      some (0, G)
    else
      gd (hc G ((hr G x0 10)) = 12 ∧ ix x1 (hl G ((hr G x0 10)))) <|
      bd (sI G ((hr G x0 10)) x1.toNatClampNeg 0) fun G8 =>
      gd (hc G8 x0 = 10) <|
      bd (sI G8 x0 21 1) fun G10 =>
      some (1, G10)
section
variable {p : Program} {l : Launch} {e : Env} {s : State} {m : MethodId} {args : Array Value} {below : List Frame} {meth : Method} {c : Code} {b0 : Nat} {D : va_G} {E : Nat → ClassId}
set_option maxHeartbeats 4000000 in
set_option maxRecDepth 100000 in
theorem k_X9_mend (C : Cx p s m args meth c RX9 cX9_mend 2 (some .boolean) b0 D E) {rr : Int32} {GG : Hp} {x0 : Nat} {x1 : Int32} {G : Hp} {ls : Array Slot} {H : Heap} {locs : List Loc} : lx ls 2 [(0, .inr x0), (1, .inl x1)] → Rp b0 D E G H → SS b0 s H locs → d_X9_mend x0 x1 G = some (rr, GG) → W p l e (rmd 1 (0) (0)) s m args below meth c H locs (0) (0) (MQ below (CQ b0 D E (some (.int rr)) GG) args s (0) (0) (fun q => b0 ≤ q)) (F0 m 0 ls []) := by
  intro hL hR hS hd
  unfold d_X9_mend at hd
  have hx := C.1
  have hb := C.2.1
  refine x_iload_n C dX9_mend_0 hL 1 rfl ?_
  obtain ⟨v2, h1, hd⟩ := bo_ex hd
  refine r_callS (As := [.int x1]) C (ct_X9_isWire h1) mf_X9_isWire ml_X9_119 ms_X9_isWire rfl ⟨Nat.le_of_ble_eq_true rfl, Nat.le_of_ble_eq_true rfl⟩ dX9_mend_1 (lx_size hL) rfl hR hS ⟨Nat.le_refl _, Nat.le_refl _⟩ (cat_le [] (Nat.le_of_ble_eq_true rfl)) (fun H locs hR hS => ?_)
  refine W_st (st2 := [.int v2]) rfl ?_
  refine lv_if_eq (tgt := 16) hx hb dX9_mend_4 (by decide) (fun c3 => ?_) (fun c3 => ?_)
  · rw [if_pos c3] at hd
    refine lv_iconst (v := 0) hx hb dX9_mend_16 (by decide) ?_
    cases hd
    exact r_zret C (by decide) dX9_mend_17 hR hS
  · rw [if_neg c3] at hd
    refine x_aload_n C dX9_mend_7 hL 0 rfl ?_
    obtain ⟨g4, hd⟩ := gd_ex hd
    refine r_getr (ci := 9) (k := 10) C fl_X9_16 rfl dX9_mend_8 hR g4 ?_
    refine x_iload_n C dX9_mend_11 hL 1 rfl ?_
    obtain ⟨g5, hd⟩ := gd_ex hd
    refine r_zald C dX9_mend_12 hR g5 ?_
    refine lv_if_ne (tgt := 18) hx hb dX9_mend_13 (by decide) (fun c6 => ?_) (fun c6 => ?_)
    · rw [if_neg c6] at hd
      refine x_aload_n C dX9_mend_18 hL 0 rfl ?_
      refine r_getr (ci := 9) (k := 10) C fl_X9_16 rfl dX9_mend_19 hR g4 ?_
      refine x_iload_n C dX9_mend_22 hL 1 rfl ?_
      refine lv_iconst (v := 0) hx hb dX9_mend_23 (by decide) ?_
      obtain ⟨g7, hd⟩ := gd_ex hd
      obtain ⟨G8, eG8, hd⟩ := bd_ex hd
      refine r_zast C (by decide) dX9_mend_24 hR hS g7 (fun H locs hR hS => ?_)
      replace hR : Rp b0 D E G8 H := by rw [eG8]; exact hR
      refine x_aload_n C dX9_mend_25 hL 0 rfl ?_
      refine lv_iconst (v := 1) hx hb dX9_mend_26 (by decide) ?_
      obtain ⟨g9, hd⟩ := gd_ex hd
      obtain ⟨G10, eG10, hd⟩ := bd_ex hd
      refine r_putz (ci := 9) (k := 21) C fl_X9_50 rfl (Or.inl rfl) (by decide) dX9_mend_27 hR hS g9 (fun H locs hR hS => ?_)
      replace hR : Rp b0 D E G10 H := by rw [eG10]; exact hR
      refine lv_iconst (v := 1) hx hb dX9_mend_30 (by decide) ?_
      cases hd
      exact r_zret C (by decide) dX9_mend_31 hR hS
    · rw [if_pos c6] at hd
      refine lv_iconst (v := 0) hx hb dX9_mend_16 (by decide) ?_
      cases hd
      exact r_zret C (by decide) dX9_mend_17 hR hS
end
set_option maxHeartbeats 4000000 in
set_option maxRecDepth 100000 in
theorem ct_X9_mend {l : Launch} {b0 : Nat} {D : va_G} {E : Nat → ClassId} {G : Hp} {a0 : Nat} {a1 : Int32} {rr : Int32} {GG : Hp} (hd : d_X9_mend a0 a1 G = some (rr, GG)) : CT l yX9_mend cX9_mend 2 (some .boolean) 1 0 0 b0 D E [rv a0, .int a1] G (some (.int rr)) GG := by
  refine CT_of (by decide +kernel) ?_
  intro p e s m below meth c C hnm hR
  refine r_entry [.inr a0, .inl a1] (n := 2) (Nat.le_of_ble_eq_true rfl) (lv := [(0, .inr a0), (1, .inl a1)]) rfl (fun ls hL => ?_)
  exact k_X9_mend C (lx_sub hL [0, 1] rfl) hR ⟨fun _ _ => rfl, fun _ h => by cases h⟩ hd

/-! GroveWorksModel.isAt(II)Z pure -/
theorem dX9_isAt_0 : decode cX9_isAt 0 = .ok (.iload_n 2, 1) := by decide +kernel
theorem dX9_isAt_1 : decode cX9_isAt 1 = .ok (.bipush 10, 2) := by decide +kernel
theorem dX9_isAt_3 : decode cX9_isAt 3 = .ok (.if_icmp .ge 14, 3) := by decide +kernel
theorem dX9_isAt_6 : decode cX9_isAt 6 = .ok (.iload_n 2, 1) := by decide +kernel
theorem dX9_isAt_7 : decode cX9_isAt 7 = .ok (.iload_n 1, 1) := by decide +kernel
theorem dX9_isAt_8 : decode cX9_isAt 8 = .ok (.if_icmp .ne 7, 3) := by decide +kernel
theorem dX9_isAt_11 : decode cX9_isAt 11 = .ok (.iconst 1, 1) := by decide +kernel
theorem dX9_isAt_12 : decode cX9_isAt 12 = .ok (.goto 4, 3) := by decide +kernel
theorem dX9_isAt_15 : decode cX9_isAt 15 = .ok (.iconst 0, 1) := by decide +kernel
theorem dX9_isAt_16 : decode cX9_isAt 16 = .ok (.ireturn, 1) := by decide +kernel
theorem dX9_isAt_17 : decode cX9_isAt 17 = .ok (.aload_n 0, 1) := by decide +kernel
theorem dX9_isAt_18 : decode cX9_isAt 18 = .ok (.getfield 16, 3) := by decide +kernel
theorem dX9_isAt_21 : decode cX9_isAt 21 = .ok (.iload_n 2, 1) := by decide +kernel
theorem dX9_isAt_22 : decode cX9_isAt 22 = .ok (.bipush 10, 2) := by decide +kernel
theorem dX9_isAt_24 : decode cX9_isAt 24 = .ok (.isub, 1) := by decide +kernel
theorem dX9_isAt_25 : decode cX9_isAt 25 = .ok (.baload, 1) := by decide +kernel
theorem dX9_isAt_26 : decode cX9_isAt 26 = .ok (.ifCond .ne 20, 3) := by decide +kernel
theorem dX9_isAt_29 : decode cX9_isAt 29 = .ok (.aload_n 0, 1) := by decide +kernel
theorem dX9_isAt_30 : decode cX9_isAt 30 = .ok (.iload_n 1, 1) := by decide +kernel
theorem dX9_isAt_31 : decode cX9_isAt 31 = .ok (.iload_n 2, 1) := by decide +kernel
theorem dX9_isAt_32 : decode cX9_isAt 32 = .ok (.bipush 10, 2) := by decide +kernel
theorem dX9_isAt_34 : decode cX9_isAt 34 = .ok (.isub, 1) := by decide +kernel
theorem dX9_isAt_35 : decode cX9_isAt 35 = .ok (.invokevirtual 125, 3) := by decide +kernel
theorem dX9_isAt_38 : decode cX9_isAt 38 = .ok (.iconst (-1), 1) := by decide +kernel
theorem dX9_isAt_39 : decode cX9_isAt 39 = .ok (.if_icmp .eq 7, 3) := by decide +kernel
theorem dX9_isAt_42 : decode cX9_isAt 42 = .ok (.iconst 1, 1) := by decide +kernel
theorem dX9_isAt_43 : decode cX9_isAt 43 = .ok (.goto 4, 3) := by decide +kernel
theorem dX9_isAt_46 : decode cX9_isAt 46 = .ok (.iconst 0, 1) := by decide +kernel
theorem dX9_isAt_47 : decode cX9_isAt 47 = .ok (.ireturn, 1) := by decide +kernel
def d_X9_isAt (x0 : Nat) (x1 : Int32) (x2 : Int32) (G : Hp) : Option (Int32) :=
  if 10 ≤ x2 then
    gd (hc G x0 = 10) <|
    gd (hc G ((hr G x0 10)) = 12 ∧ ix ((x2 - 10)) (hl G ((hr G x0 10)))) <|
    if ((hi G ((hr G x0 10)) ((x2 - 10)).toNatClampNeg)) = 0 then
      bo (d_X9_portOn x0 x1 ((x2 - 10)) G) fun v6 =>
      if v6 = (-1) then
        some 0
      else
        some 1
    else
      some 0
  else
    if x2 = x1 then
      some 1
    else
      some 0
section
variable {p : Program} {l : Launch} {e : Env} {s : State} {m : MethodId} {args : Array Value} {below : List Frame} {meth : Method} {c : Code} {b0 : Nat} {D : va_G} {E : Nat → ClassId}
set_option maxHeartbeats 4000000 in
set_option maxRecDepth 100000 in
theorem k_X9_isAt (C : Cx p s m args meth c RX9 cX9_isAt 3 (some .boolean) b0 D E) {rr : Int32} {G : Hp} {x0 : Nat} {x1 : Int32} {x2 : Int32} {ls : Array Slot} {H : Heap} {locs : List Loc} : lx ls 3 [(0, .inr x0), (1, .inl x1), (2, .inl x2)] → Rp b0 D E G H → SS b0 s H locs → d_X9_isAt x0 x1 x2 G = some rr → W p l e (rmd 1 (0) (0)) s m args below meth c H locs (0) (0) (MQ below (CQ b0 D E (some (.int rr)) G) args s (0) (0) (fun q => b0 ≤ q)) (F0 m 0 ls []) := by
  intro hL hR hS hd
  unfold d_X9_isAt at hd
  have hx := C.1
  have hb := C.2.1
  refine x_iload_n C dX9_isAt_0 hL 2 rfl ?_
  refine lv_bipush (v := 10) hx hb dX9_isAt_1 (by decide) ?_
  refine lv_icmp_ge (tgt := 17) hx hb dX9_isAt_3 (by decide) (fun c1 => ?_) (fun c1 => ?_)
  · rw [if_pos c1] at hd
    refine x_aload_n C dX9_isAt_17 hL 0 rfl ?_
    obtain ⟨g2, hd⟩ := gd_ex hd
    refine r_getr (ci := 9) (k := 10) C fl_X9_16 rfl dX9_isAt_18 hR g2 ?_
    refine x_iload_n C dX9_isAt_21 hL 2 rfl ?_
    refine lv_bipush (v := 10) hx hb dX9_isAt_22 (by decide) ?_
    refine lv_isub hx hb dX9_isAt_24 ?_
    obtain ⟨g3, hd⟩ := gd_ex hd
    refine r_zald C dX9_isAt_25 hR g3 ?_
    refine lv_if_ne (tgt := 46) hx hb dX9_isAt_26 (by decide) (fun c4 => ?_) (fun c4 => ?_)
    · rw [if_neg c4] at hd
      refine lv_iconst (v := 0) hx hb dX9_isAt_46 (by decide) ?_
      cases hd
      exact r_zret C (by decide) dX9_isAt_47 hR hS
    · rw [if_pos c4] at hd
      refine x_aload_n C dX9_isAt_29 hL 0 rfl ?_
      refine x_iload_n C dX9_isAt_30 hL 1 rfl ?_
      refine x_iload_n C dX9_isAt_31 hL 2 rfl ?_
      refine lv_bipush (v := 10) hx hb dX9_isAt_32 (by decide) ?_
      refine lv_isub hx hb dX9_isAt_34 ?_
      obtain ⟨v6, h5, hd⟩ := bo_ex hd
      refine r_callV (a := x0) (ci := 9) (As := [.int x1, .int ((x2 - 10))]) C (ct_X9_portOn h5) mf_X9_portOn ml_X9_125 mv_X9_portOn rfl ⟨Nat.le_of_ble_eq_true rfl, Nat.le_of_ble_eq_true rfl⟩ dX9_isAt_35 (lx_size hL) rfl hR hS g2 ⟨Nat.le_refl _, Nat.le_refl _⟩ (cat_le [] (Nat.le_of_ble_eq_true rfl)) (fun H locs hR hS => ?_)
      refine W_st (st2 := [.int v6]) rfl ?_
      refine lv_iconst (v := (-1)) hx hb dX9_isAt_38 (by decide) ?_
      refine lv_icmp_eq (tgt := 46) hx hb dX9_isAt_39 (by decide) (fun c7 => ?_) (fun c7 => ?_)
      · rw [if_pos c7] at hd
        refine lv_iconst (v := 0) hx hb dX9_isAt_46 (by decide) ?_
        cases hd
        exact r_zret C (by decide) dX9_isAt_47 hR hS
      · rw [if_neg c7] at hd
        refine lv_iconst (v := 1) hx hb dX9_isAt_42 (by decide) ?_
        refine lv_goto (tgt := 47) hx hb dX9_isAt_43 (by decide) ?_
        cases hd
        exact r_zret C (by decide) dX9_isAt_47 hR hS
  · rw [if_neg c1] at hd
    refine x_iload_n C dX9_isAt_6 hL 2 rfl ?_
    refine x_iload_n C dX9_isAt_7 hL 1 rfl ?_
    refine lv_icmp_ne (tgt := 15) hx hb dX9_isAt_8 (by decide) (fun c8 => ?_) (fun c8 => ?_)
    · rw [if_neg c8] at hd
      refine lv_iconst (v := 0) hx hb dX9_isAt_15 (by decide) ?_
      cases hd
      exact r_zret C (by decide) dX9_isAt_16 hR hS
    · rw [if_pos c8] at hd
      refine lv_iconst (v := 1) hx hb dX9_isAt_11 (by decide) ?_
      refine lv_goto (tgt := 16) hx hb dX9_isAt_12 (by decide) ?_
      cases hd
      exact r_zret C (by decide) dX9_isAt_16 hR hS
end
set_option maxHeartbeats 4000000 in
set_option maxRecDepth 100000 in
theorem ct_X9_isAt {l : Launch} {b0 : Nat} {D : va_G} {E : Nat → ClassId} {G : Hp} {a0 : Nat} {a1 : Int32} {a2 : Int32} {rr : Int32} (hd : d_X9_isAt a0 a1 a2 G = some rr) : CT l yX9_isAt cX9_isAt 3 (some .boolean) 1 0 0 b0 D E [rv a0, .int a1, .int a2] G (some (.int rr)) G := by
  refine CT_of (by decide +kernel) ?_
  intro p e s m below meth c C hnm hR
  refine r_entry [.inr a0, .inl a1, .inl a2] (n := 3) (Nat.le_of_ble_eq_true rfl) (lv := [(0, .inr a0), (1, .inl a1), (2, .inl a2)]) rfl (fun ls hL => ?_)
  exact k_X9_isAt C (lx_sub hL [0, 1, 2] rfl) hR ⟨fun _ _ => rfl, fun _ h => by cases h⟩ hd

/-! GroveWorksModel.over(IIII)I pure -/
theorem dX9_over_0 : decode cX9_over 0 = .ok (.aload_n 0, 1) := by decide +kernel
theorem dX9_over_1 : decode cX9_over 1 = .ok (.iload_n 1, 1) := by decide +kernel
theorem dX9_over_2 : decode cX9_over 2 = .ok (.iload_n 2, 1) := by decide +kernel
theorem dX9_over_3 : decode cX9_over 3 = .ok (.invokevirtual 150, 3) := by decide +kernel
theorem dX9_over_6 : decode cX9_over 6 = .ok (.ifCond .eq 44, 3) := by decide +kernel
theorem dX9_over_9 : decode cX9_over 9 = .ok (.iload_n 3, 1) := by decide +kernel
theorem dX9_over_10 : decode cX9_over 10 = .ok (.iload_n 1, 1) := by decide +kernel
theorem dX9_over_11 : decode cX9_over 11 = .ok (.if_icmp .eq 39, 3) := by decide +kernel
theorem dX9_over_14 : decode cX9_over 14 = .ok (.aload_n 0, 1) := by decide +kernel
theorem dX9_over_15 : decode cX9_over 15 = .ok (.iload_n 3, 1) := by decide +kernel
theorem dX9_over_16 : decode cX9_over 16 = .ok (.aload_n 0, 1) := by decide +kernel
theorem dX9_over_17 : decode cX9_over 17 = .ok (.getfield 7, 3) := by decide +kernel
theorem dX9_over_20 : decode cX9_over 20 = .ok (.iconst 4, 1) := by decide +kernel
theorem dX9_over_21 : decode cX9_over 21 = .ok (.iload_n 1, 1) := by decide +kernel
theorem dX9_over_22 : decode cX9_over 22 = .ok (.imul, 1) := by decide +kernel
theorem dX9_over_23 : decode cX9_over 23 = .ok (.iload_n 2, 1) := by decide +kernel
theorem dX9_over_24 : decode cX9_over 24 = .ok (.iadd, 1) := by decide +kernel
theorem dX9_over_25 : decode cX9_over 25 = .ok (.iaload, 1) := by decide +kernel
theorem dX9_over_26 : decode cX9_over 26 = .ok (.invokevirtual 125, 3) := by decide +kernel
theorem dX9_over_29 : decode cX9_over 29 = .ok (.iconst (-1), 1) := by decide +kernel
theorem dX9_over_30 : decode cX9_over 30 = .ok (.if_icmp .eq 20, 3) := by decide +kernel
theorem dX9_over_33 : decode cX9_over 33 = .ok (.aload_n 0, 1) := by decide +kernel
theorem dX9_over_34 : decode cX9_over 34 = .ok (.getfield 54, 3) := by decide +kernel
theorem dX9_over_37 : decode cX9_over 37 = .ok (.bipush 26, 2) := by decide +kernel
theorem dX9_over_39 : decode cX9_over 39 = .ok (.iload_n 3, 1) := by decide +kernel
theorem dX9_over_40 : decode cX9_over 40 = .ok (.imul, 1) := by decide +kernel
theorem dX9_over_41 : decode cX9_over 41 = .ok (.iload 4, 2) := by decide +kernel
theorem dX9_over_43 : decode cX9_over 43 = .ok (.iadd, 1) := by decide +kernel
theorem dX9_over_44 : decode cX9_over 44 = .ok (.iaload, 1) := by decide +kernel
theorem dX9_over_45 : decode cX9_over 45 = .ok (.ldc 143, 2) := by decide +kernel
theorem dX9_over_47 : decode cX9_over 47 = .ok (.if_icmp .lt 6, 3) := by decide +kernel
theorem dX9_over_50 : decode cX9_over 50 = .ok (.ldc 143, 2) := by decide +kernel
theorem dX9_over_52 : decode cX9_over 52 = .ok (.ireturn, 1) := by decide +kernel
theorem dX9_over_53 : decode cX9_over 53 = .ok (.aload_n 0, 1) := by decide +kernel
theorem dX9_over_54 : decode cX9_over 54 = .ok (.getfield 13, 3) := by decide +kernel
theorem dX9_over_57 : decode cX9_over 57 = .ok (.iconst 4, 1) := by decide +kernel
theorem dX9_over_58 : decode cX9_over 58 = .ok (.iload_n 1, 1) := by decide +kernel
theorem dX9_over_59 : decode cX9_over 59 = .ok (.imul, 1) := by decide +kernel
theorem dX9_over_60 : decode cX9_over 60 = .ok (.iload_n 2, 1) := by decide +kernel
theorem dX9_over_61 : decode cX9_over 61 = .ok (.iadd, 1) := by decide +kernel
theorem dX9_over_62 : decode cX9_over 62 = .ok (.iaload, 1) := by decide +kernel
theorem dX9_over_63 : decode cX9_over 63 = .ok (.aload_n 0, 1) := by decide +kernel
theorem dX9_over_64 : decode cX9_over 64 = .ok (.getfield 54, 3) := by decide +kernel
theorem dX9_over_67 : decode cX9_over 67 = .ok (.bipush 26, 2) := by decide +kernel
theorem dX9_over_69 : decode cX9_over 69 = .ok (.iload_n 3, 1) := by decide +kernel
theorem dX9_over_70 : decode cX9_over 70 = .ok (.imul, 1) := by decide +kernel
theorem dX9_over_71 : decode cX9_over 71 = .ok (.iload 4, 2) := by decide +kernel
theorem dX9_over_73 : decode cX9_over 73 = .ok (.iadd, 1) := by decide +kernel
theorem dX9_over_74 : decode cX9_over 74 = .ok (.iaload, 1) := by decide +kernel
theorem dX9_over_75 : decode cX9_over 75 = .ok (.iadd, 1) := by decide +kernel
theorem dX9_over_76 : decode cX9_over 76 = .ok (.ireturn, 1) := by decide +kernel
def d_X9_over (x0 : Nat) (x1 : Int32) (x2 : Int32) (x3 : Int32) (x4 : Int32) (G : Hp) : Option (Int32) :=
  gd (hc G x0 = 10) <|
  bo (d_X9_isUp x0 x1 x2 G) fun v3 =>
  if v3 = 0 then
    some 1000000
  else
    if x3 = x1 then
      some 1000000
    else
      gd (hc G ((hr G x0 8)) = 11 ∧ ix ((((4 * x1)) + x2)) (hl G ((hr G x0 8)))) <|
      bo (d_X9_portOn x0 x3 ((hi G ((hr G x0 8)) ((((4 * x1)) + x2)).toNatClampNeg)) G) fun v8 =>
      if v8 = (-1) then
        some 1000000
      else
        gd (hc G ((hr G x0 22)) = 11 ∧ ix ((((26 * x3)) + x4)) (hl G ((hr G x0 22)))) <|
        if ((hi G ((hr G x0 22)) ((((26 * x3)) + x4)).toNatClampNeg)) < 1000000 then
          gd (hc G ((hr G x0 9)) = 11 ∧ ix ((((4 * x1)) + x2)) (hl G ((hr G x0 9)))) <|
          gd (hc G ((hr G x0 22)) = 11 ∧ ix ((((26 * x3)) + x4)) (hl G ((hr G x0 22)))) <|
          some ((((hi G ((hr G x0 9)) ((((4 * x1)) + x2)).toNatClampNeg)) + ((hi G ((hr G x0 22)) ((((26 * x3)) + x4)).toNatClampNeg))))
        else
          some 1000000
section
variable {p : Program} {l : Launch} {e : Env} {s : State} {m : MethodId} {args : Array Value} {below : List Frame} {meth : Method} {c : Code} {b0 : Nat} {D : va_G} {E : Nat → ClassId}
set_option maxHeartbeats 4000000 in
set_option maxRecDepth 100000 in
theorem k_X9_over (C : Cx p s m args meth c RX9 cX9_over 5 (some .int) b0 D E) {rr : Int32} {G : Hp} {x0 : Nat} {x1 : Int32} {x2 : Int32} {x3 : Int32} {x4 : Int32} {ls : Array Slot} {H : Heap} {locs : List Loc} : lx ls 5 [(0, .inr x0), (1, .inl x1), (2, .inl x2), (3, .inl x3), (4, .inl x4)] → Rp b0 D E G H → SS b0 s H locs → d_X9_over x0 x1 x2 x3 x4 G = some rr → W p l e (rmd 1 (0) (0)) s m args below meth c H locs (0) (0) (MQ below (CQ b0 D E (some (.int rr)) G) args s (0) (0) (fun q => b0 ≤ q)) (F0 m 0 ls []) := by
  intro hL hR hS hd
  unfold d_X9_over at hd
  have hx := C.1
  have hb := C.2.1
  refine x_aload_n C dX9_over_0 hL 0 rfl ?_
  refine x_iload_n C dX9_over_1 hL 1 rfl ?_
  refine x_iload_n C dX9_over_2 hL 2 rfl ?_
  obtain ⟨g1, hd⟩ := gd_ex hd
  obtain ⟨v3, h2, hd⟩ := bo_ex hd
  refine r_callV (a := x0) (ci := 9) (As := [.int x1, .int x2]) C (ct_X9_isUp h2) mf_X9_isUp ml_X9_150 mv_X9_isUp rfl ⟨Nat.le_of_ble_eq_true rfl, Nat.le_of_ble_eq_true rfl⟩ dX9_over_3 (lx_size hL) rfl hR hS g1 ⟨Nat.le_refl _, Nat.le_refl _⟩ (cat_le [] (Nat.le_of_ble_eq_true rfl)) (fun H locs hR hS => ?_)
  refine W_st (st2 := [.int v3]) rfl ?_
  refine lv_if_eq (tgt := 50) hx hb dX9_over_6 (by decide) (fun c4 => ?_) (fun c4 => ?_)
  · rw [if_pos c4] at hd
    refine lv_ldc (v := 1000000) hx hb C.2.2.2.2.1 (C.2.2.2.2.2.1 _ co_X9_143) dX9_over_50 ?_
    cases hd
    exact r_iret C dX9_over_52 hR hS
  · rw [if_neg c4] at hd
    refine x_iload_n C dX9_over_9 hL 3 rfl ?_
    refine x_iload_n C dX9_over_10 hL 1 rfl ?_
    refine lv_icmp_eq (tgt := 50) hx hb dX9_over_11 (by decide) (fun c5 => ?_) (fun c5 => ?_)
    · rw [if_pos c5] at hd
      refine lv_ldc (v := 1000000) hx hb C.2.2.2.2.1 (C.2.2.2.2.2.1 _ co_X9_143) dX9_over_50 ?_
      cases hd
      exact r_iret C dX9_over_52 hR hS
    · rw [if_neg c5] at hd
      refine x_aload_n C dX9_over_14 hL 0 rfl ?_
      refine x_iload_n C dX9_over_15 hL 3 rfl ?_
      refine x_aload_n C dX9_over_16 hL 0 rfl ?_
      refine r_getr (ci := 9) (k := 8) C fl_X9_7 rfl dX9_over_17 hR g1 ?_
      refine lv_iconst (v := 4) hx hb dX9_over_20 (by decide) ?_
      refine x_iload_n C dX9_over_21 hL 1 rfl ?_
      refine lv_imul hx hb dX9_over_22 ?_
      refine x_iload_n C dX9_over_23 hL 2 rfl ?_
      refine lv_iadd hx hb dX9_over_24 ?_
      obtain ⟨g6, hd⟩ := gd_ex hd
      refine r_iald C dX9_over_25 hR g6 ?_
      obtain ⟨v8, h7, hd⟩ := bo_ex hd
      refine r_callV (a := x0) (ci := 9) (As := [.int x3, .int ((hi G ((hr G x0 8)) ((((4 * x1)) + x2)).toNatClampNeg))]) C (ct_X9_portOn h7) mf_X9_portOn ml_X9_125 mv_X9_portOn rfl ⟨Nat.le_of_ble_eq_true rfl, Nat.le_of_ble_eq_true rfl⟩ dX9_over_26 (lx_size hL) rfl hR hS g1 ⟨Nat.le_refl _, Nat.le_refl _⟩ (cat_le [] (Nat.le_of_ble_eq_true rfl)) (fun H locs hR hS => ?_)
      refine W_st (st2 := [.int v8]) rfl ?_
      refine lv_iconst (v := (-1)) hx hb dX9_over_29 (by decide) ?_
      refine lv_icmp_eq (tgt := 50) hx hb dX9_over_30 (by decide) (fun c9 => ?_) (fun c9 => ?_)
      · rw [if_pos c9] at hd
        refine lv_ldc (v := 1000000) hx hb C.2.2.2.2.1 (C.2.2.2.2.2.1 _ co_X9_143) dX9_over_50 ?_
        cases hd
        exact r_iret C dX9_over_52 hR hS
      · rw [if_neg c9] at hd
        refine x_aload_n C dX9_over_33 hL 0 rfl ?_
        refine r_getr (ci := 9) (k := 22) C fl_X9_54 rfl dX9_over_34 hR g1 ?_
        refine lv_bipush (v := 26) hx hb dX9_over_37 (by decide) ?_
        refine x_iload_n C dX9_over_39 hL 3 rfl ?_
        refine lv_imul hx hb dX9_over_40 ?_
        refine x_iload C dX9_over_41 hL 4 rfl ?_
        refine lv_iadd hx hb dX9_over_43 ?_
        obtain ⟨g10, hd⟩ := gd_ex hd
        refine r_iald C dX9_over_44 hR g10 ?_
        refine lv_ldc (v := 1000000) hx hb C.2.2.2.2.1 (C.2.2.2.2.2.1 _ co_X9_143) dX9_over_45 ?_
        refine lv_icmp_lt (tgt := 53) hx hb dX9_over_47 (by decide) (fun c11 => ?_) (fun c11 => ?_)
        · rw [if_pos c11] at hd
          refine x_aload_n C dX9_over_53 hL 0 rfl ?_
          refine r_getr (ci := 9) (k := 9) C fl_X9_13 rfl dX9_over_54 hR g1 ?_
          refine lv_iconst (v := 4) hx hb dX9_over_57 (by decide) ?_
          refine x_iload_n C dX9_over_58 hL 1 rfl ?_
          refine lv_imul hx hb dX9_over_59 ?_
          refine x_iload_n C dX9_over_60 hL 2 rfl ?_
          refine lv_iadd hx hb dX9_over_61 ?_
          obtain ⟨g12, hd⟩ := gd_ex hd
          refine r_iald C dX9_over_62 hR g12 ?_
          refine x_aload_n C dX9_over_63 hL 0 rfl ?_
          refine r_getr (ci := 9) (k := 22) C fl_X9_54 rfl dX9_over_64 hR g1 ?_
          refine lv_bipush (v := 26) hx hb dX9_over_67 (by decide) ?_
          refine x_iload_n C dX9_over_69 hL 3 rfl ?_
          refine lv_imul hx hb dX9_over_70 ?_
          refine x_iload C dX9_over_71 hL 4 rfl ?_
          refine lv_iadd hx hb dX9_over_73 ?_
          obtain ⟨g13, hd⟩ := gd_ex hd
          refine r_iald C dX9_over_74 hR g13 ?_
          refine lv_iadd hx hb dX9_over_75 ?_
          cases hd
          exact r_iret C dX9_over_76 hR hS
        · rw [if_neg c11] at hd
          refine lv_ldc (v := 1000000) hx hb C.2.2.2.2.1 (C.2.2.2.2.2.1 _ co_X9_143) dX9_over_50 ?_
          cases hd
          exact r_iret C dX9_over_52 hR hS
end
set_option maxHeartbeats 4000000 in
set_option maxRecDepth 100000 in
theorem ct_X9_over {l : Launch} {b0 : Nat} {D : va_G} {E : Nat → ClassId} {G : Hp} {a0 : Nat} {a1 : Int32} {a2 : Int32} {a3 : Int32} {a4 : Int32} {rr : Int32} (hd : d_X9_over a0 a1 a2 a3 a4 G = some rr) : CT l yX9_over cX9_over 5 (some .int) 1 0 0 b0 D E [rv a0, .int a1, .int a2, .int a3, .int a4] G (some (.int rr)) G := by
  refine CT_of (by decide +kernel) ?_
  intro p e s m below meth c C hnm hR
  refine r_entry [.inr a0, .inl a1, .inl a2, .inl a3, .inl a4] (n := 5) (Nat.le_of_ble_eq_true rfl) (lv := [(0, .inr a0), (1, .inl a1), (2, .inl a2), (3, .inl a3), (4, .inl a4)]) rfl (fun ls hL => ?_)
  exact k_X9_over C (lx_sub hL [0, 1, 2, 3, 4] rfl) hR ⟨fun _ _ => rfl, fun _ h => by cases h⟩ hd
