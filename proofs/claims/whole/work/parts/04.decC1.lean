theorem dX12_init_0 : decode cX12_init 0 = .ok (.aload_n 0, 1) := by decide +kernel
theorem dX12_init_1 : decode cX12_init 1 = .ok (.invokespecial 1, 3) := by decide +kernel
theorem dX12_init_4 : decode cX12_init 4 = .ok (.aload_n 0, 1) := by decide +kernel
theorem dX12_init_5 : decode cX12_init 5 = .ok (.bipush 24, 2) := by decide +kernel
theorem dX12_init_7 : decode cX12_init 7 = .ok (.newarray .int, 2) := by decide +kernel
theorem dX12_init_9 : decode cX12_init 9 = .ok (.putfield 9, 3) := by decide +kernel
theorem dX12_init_12 : decode cX12_init 12 = .ok (.aload_n 0, 1) := by decide +kernel
theorem dX12_init_13 : decode cX12_init 13 = .ok (.sipush 2400, 3) := by decide +kernel
theorem dX12_init_16 : decode cX12_init 16 = .ok (.newarray .int, 2) := by decide +kernel
theorem dX12_init_18 : decode cX12_init 18 = .ok (.putfield 13, 3) := by decide +kernel
theorem dX12_init_21 : decode cX12_init 21 = .ok (.aload_n 0, 1) := by decide +kernel
theorem dX12_init_22 : decode cX12_init 22 = .ok (.sipush 2400, 3) := by decide +kernel
theorem dX12_init_25 : decode cX12_init 25 = .ok (.newarray .long, 2) := by decide +kernel
theorem dX12_init_27 : decode cX12_init 27 = .ok (.putfield 16, 3) := by decide +kernel
theorem dX12_init_30 : decode cX12_init 30 = .ok (.aload_n 0, 1) := by decide +kernel
theorem dX12_init_31 : decode cX12_init 31 = .ok (.sipush 2400, 3) := by decide +kernel
theorem dX12_init_34 : decode cX12_init 34 = .ok (.newarray .boolean, 2) := by decide +kernel
theorem dX12_init_36 : decode cX12_init 36 = .ok (.putfield 20, 3) := by decide +kernel
theorem dX12_init_39 : decode cX12_init 39 = .ok (.aload_n 0, 1) := by decide +kernel
theorem dX12_init_40 : decode cX12_init 40 = .ok (.sipush 2400, 3) := by decide +kernel
theorem dX12_init_43 : decode cX12_init 43 = .ok (.newarray .boolean, 2) := by decide +kernel
theorem dX12_init_45 : decode cX12_init 45 = .ok (.putfield 24, 3) := by decide +kernel
theorem dX12_init_48 : decode cX12_init 48 = .ok (.aload_n 0, 1) := by decide +kernel
theorem dX12_init_49 : decode cX12_init 49 = .ok (.sipush 600, 3) := by decide +kernel
theorem dX12_init_52 : decode cX12_init 52 = .ok (.newarray .int, 2) := by decide +kernel
theorem dX12_init_54 : decode cX12_init 54 = .ok (.putfield 27, 3) := by decide +kernel
theorem dX12_init_57 : decode cX12_init 57 = .ok (.aload_n 0, 1) := by decide +kernel
theorem dX12_init_58 : decode cX12_init 58 = .ok (.sipush 600, 3) := by decide +kernel
theorem dX12_init_61 : decode cX12_init 61 = .ok (.newarray .int, 2) := by decide +kernel
theorem dX12_init_63 : decode cX12_init 63 = .ok (.putfield 30, 3) := by decide +kernel
theorem dX12_init_66 : decode cX12_init 66 = .ok (.aload_n 0, 1) := by decide +kernel
theorem dX12_init_67 : decode cX12_init 67 = .ok (.sipush 600, 3) := by decide +kernel
theorem dX12_init_70 : decode cX12_init 70 = .ok (.newarray .boolean, 2) := by decide +kernel
theorem dX12_init_72 : decode cX12_init 72 = .ok (.putfield 33, 3) := by decide +kernel
theorem dX12_init_75 : decode cX12_init 75 = .ok (.aload_n 0, 1) := by decide +kernel
theorem dX12_init_76 : decode cX12_init 76 = .ok (.sipush 128, 3) := by decide +kernel
theorem dX12_init_79 : decode cX12_init 79 = .ok (.newarray .int, 2) := by decide +kernel
theorem dX12_init_81 : decode cX12_init 81 = .ok (.putfield 36, 3) := by decide +kernel
theorem dX12_init_84 : decode cX12_init 84 = .ok (.aload_n 0, 1) := by decide +kernel
theorem dX12_init_85 : decode cX12_init 85 = .ok (.sipush 640, 3) := by decide +kernel
theorem dX12_init_88 : decode cX12_init 88 = .ok (.newarray .int, 2) := by decide +kernel
theorem dX12_init_90 : decode cX12_init 90 = .ok (.putfield 39, 3) := by decide +kernel
theorem dX12_init_93 : decode cX12_init 93 = .ok (.aload_n 0, 1) := by decide +kernel
theorem dX12_init_94 : decode cX12_init 94 = .ok (.sipush 640, 3) := by decide +kernel
theorem dX12_init_97 : decode cX12_init 97 = .ok (.newarray .long, 2) := by decide +kernel
theorem dX12_init_99 : decode cX12_init 99 = .ok (.putfield 42, 3) := by decide +kernel
theorem dX12_init_102 : decode cX12_init 102 = .ok (.aload_n 0, 1) := by decide +kernel
theorem dX12_init_103 : decode cX12_init 103 = .ok (.ldc 45, 2) := by decide +kernel
theorem dX12_init_105 : decode cX12_init 105 = .ok (.newarray .int, 2) := by decide +kernel
theorem dX12_init_107 : decode cX12_init 107 = .ok (.putfield 46, 3) := by decide +kernel
theorem dX12_init_110 : decode cX12_init 110 = .ok (.aload_n 0, 1) := by decide +kernel
theorem dX12_init_111 : decode cX12_init 111 = .ok (.sipush 336, 3) := by decide +kernel
theorem dX12_init_114 : decode cX12_init 114 = .ok (.newarray .int, 2) := by decide +kernel
theorem dX12_init_116 : decode cX12_init 116 = .ok (.putfield 49, 3) := by decide +kernel
theorem dX12_init_119 : decode cX12_init 119 = .ok (.aload_n 0, 1) := by decide +kernel
theorem dX12_init_120 : decode cX12_init 120 = .ok (.bipush 12, 2) := by decide +kernel
theorem dX12_init_122 : decode cX12_init 122 = .ok (.newarray .boolean, 2) := by decide +kernel
theorem dX12_init_124 : decode cX12_init 124 = .ok (.putfield 52, 3) := by decide +kernel
theorem dX12_init_127 : decode cX12_init 127 = .ok (.aload_n 0, 1) := by decide +kernel
theorem dX12_init_128 : decode cX12_init 128 = .ok (.sipush 3360, 3) := by decide +kernel
theorem dX12_init_131 : decode cX12_init 131 = .ok (.newarray .int, 2) := by decide +kernel
theorem dX12_init_133 : decode cX12_init 133 = .ok (.putfield 55, 3) := by decide +kernel
theorem dX12_init_136 : decode cX12_init 136 = .ok (.aload_n 0, 1) := by decide +kernel
theorem dX12_init_137 : decode cX12_init 137 = .ok (.bipush 40, 2) := by decide +kernel
theorem dX12_init_139 : decode cX12_init 139 = .ok (.newarray .int, 2) := by decide +kernel
theorem dX12_init_141 : decode cX12_init 141 = .ok (.putfield 58, 3) := by decide +kernel
theorem dX12_init_144 : decode cX12_init 144 = .ok (.aload_n 0, 1) := by decide +kernel
theorem dX12_init_145 : decode cX12_init 145 = .ok (.bipush 8, 2) := by decide +kernel
theorem dX12_init_147 : decode cX12_init 147 = .ok (.newarray .boolean, 2) := by decide +kernel
theorem dX12_init_149 : decode cX12_init 149 = .ok (.putfield 61, 3) := by decide +kernel
theorem dX12_init_152 : decode cX12_init 152 = .ok (.aload_n 0, 1) := by decide +kernel
theorem dX12_init_153 : decode cX12_init 153 = .ok (.sipush 3200, 3) := by decide +kernel
theorem dX12_init_156 : decode cX12_init 156 = .ok (.newarray .int, 2) := by decide +kernel
theorem dX12_init_158 : decode cX12_init 158 = .ok (.putfield 64, 3) := by decide +kernel
theorem dX12_init_161 : decode cX12_init 161 = .ok (.aload_n 0, 1) := by decide +kernel
theorem dX12_init_162 : decode cX12_init 162 = .ok (.sipush 3200, 3) := by decide +kernel
theorem dX12_init_165 : decode cX12_init 165 = .ok (.newarray .int, 2) := by decide +kernel
theorem dX12_init_167 : decode cX12_init 167 = .ok (.putfield 67, 3) := by decide +kernel
theorem dX12_init_170 : decode cX12_init 170 = .ok (.aload_n 0, 1) := by decide +kernel
theorem dX12_init_171 : decode cX12_init 171 = .ok (.bipush 24, 2) := by decide +kernel
theorem dX12_init_173 : decode cX12_init 173 = .ok (.newarray .int, 2) := by decide +kernel
theorem dX12_init_175 : decode cX12_init 175 = .ok (.putfield 70, 3) := by decide +kernel
theorem dX12_init_178 : decode cX12_init 178 = .ok (.aload_n 0, 1) := by decide +kernel
theorem dX12_init_179 : decode cX12_init 179 = .ok (.sipush 2400, 3) := by decide +kernel
theorem dX12_init_182 : decode cX12_init 182 = .ok (.newarray .int, 2) := by decide +kernel
theorem dX12_init_184 : decode cX12_init 184 = .ok (.putfield 73, 3) := by decide +kernel
theorem dX12_init_187 : decode cX12_init 187 = .ok (.aload_n 0, 1) := by decide +kernel
theorem dX12_init_188 : decode cX12_init 188 = .ok (.sipush 2400, 3) := by decide +kernel
theorem dX12_init_191 : decode cX12_init 191 = .ok (.newarray .long, 2) := by decide +kernel
theorem dX12_init_193 : decode cX12_init 193 = .ok (.putfield 76, 3) := by decide +kernel
theorem dX12_init_196 : decode cX12_init 196 = .ok (.aload_n 0, 1) := by decide +kernel
theorem dX12_init_197 : decode cX12_init 197 = .ok (.sipush 2400, 3) := by decide +kernel
theorem dX12_init_200 : decode cX12_init 200 = .ok (.newarray .boolean, 2) := by decide +kernel
theorem dX12_init_202 : decode cX12_init 202 = .ok (.putfield 79, 3) := by decide +kernel
theorem dX12_init_205 : decode cX12_init 205 = .ok (.aload_n 0, 1) := by decide +kernel
theorem dX12_init_206 : decode cX12_init 206 = .ok (.sipush 2400, 3) := by decide +kernel
theorem dX12_init_209 : decode cX12_init 209 = .ok (.newarray .boolean, 2) := by decide +kernel
theorem dX12_init_211 : decode cX12_init 211 = .ok (.putfield 82, 3) := by decide +kernel
theorem dX12_init_214 : decode cX12_init 214 = .ok (.aload_n 0, 1) := by decide +kernel
theorem dX12_init_215 : decode cX12_init 215 = .ok (.sipush 600, 3) := by decide +kernel
theorem dX12_init_218 : decode cX12_init 218 = .ok (.newarray .int, 2) := by decide +kernel
theorem dX12_init_220 : decode cX12_init 220 = .ok (.putfield 85, 3) := by decide +kernel
theorem dX12_init_223 : decode cX12_init 223 = .ok (.aload_n 0, 1) := by decide +kernel
theorem dX12_init_224 : decode cX12_init 224 = .ok (.sipush 600, 3) := by decide +kernel
theorem dX12_init_227 : decode cX12_init 227 = .ok (.newarray .int, 2) := by decide +kernel
theorem dX12_init_229 : decode cX12_init 229 = .ok (.putfield 88, 3) := by decide +kernel
theorem dX12_init_232 : decode cX12_init 232 = .ok (.aload_n 0, 1) := by decide +kernel
theorem dX12_init_233 : decode cX12_init 233 = .ok (.sipush 600, 3) := by decide +kernel
theorem dX12_init_236 : decode cX12_init 236 = .ok (.newarray .boolean, 2) := by decide +kernel
theorem dX12_init_238 : decode cX12_init 238 = .ok (.putfield 91, 3) := by decide +kernel
theorem dX12_init_241 : decode cX12_init 241 = .ok (.aload_n 0, 1) := by decide +kernel
theorem dX12_init_242 : decode cX12_init 242 = .ok (.sipush 128, 3) := by decide +kernel
theorem dX12_init_245 : decode cX12_init 245 = .ok (.newarray .int, 2) := by decide +kernel
theorem dX12_init_247 : decode cX12_init 247 = .ok (.putfield 94, 3) := by decide +kernel
theorem dX12_init_250 : decode cX12_init 250 = .ok (.aload_n 0, 1) := by decide +kernel
theorem dX12_init_251 : decode cX12_init 251 = .ok (.sipush 640, 3) := by decide +kernel
theorem dX12_init_254 : decode cX12_init 254 = .ok (.newarray .int, 2) := by decide +kernel
theorem dX12_init_256 : decode cX12_init 256 = .ok (.putfield 97, 3) := by decide +kernel
theorem dX12_init_259 : decode cX12_init 259 = .ok (.aload_n 0, 1) := by decide +kernel
theorem dX12_init_260 : decode cX12_init 260 = .ok (.sipush 640, 3) := by decide +kernel
theorem dX12_init_263 : decode cX12_init 263 = .ok (.newarray .long, 2) := by decide +kernel
theorem dX12_init_265 : decode cX12_init 265 = .ok (.putfield 100, 3) := by decide +kernel
theorem dX12_init_268 : decode cX12_init 268 = .ok (.aload_n 0, 1) := by decide +kernel
theorem dX12_init_269 : decode cX12_init 269 = .ok (.ldc 45, 2) := by decide +kernel
theorem dX12_init_271 : decode cX12_init 271 = .ok (.newarray .int, 2) := by decide +kernel
theorem dX12_init_273 : decode cX12_init 273 = .ok (.putfield 103, 3) := by decide +kernel
theorem dX12_init_276 : decode cX12_init 276 = .ok (.aload_n 0, 1) := by decide +kernel
theorem dX12_init_277 : decode cX12_init 277 = .ok (.sipush 336, 3) := by decide +kernel
theorem dX12_init_280 : decode cX12_init 280 = .ok (.newarray .int, 2) := by decide +kernel
theorem dX12_init_282 : decode cX12_init 282 = .ok (.putfield 106, 3) := by decide +kernel
theorem dX12_init_285 : decode cX12_init 285 = .ok (.aload_n 0, 1) := by decide +kernel
theorem dX12_init_286 : decode cX12_init 286 = .ok (.bipush 12, 2) := by decide +kernel
theorem dX12_init_288 : decode cX12_init 288 = .ok (.newarray .boolean, 2) := by decide +kernel
theorem dX12_init_290 : decode cX12_init 290 = .ok (.putfield 109, 3) := by decide +kernel
theorem dX12_init_293 : decode cX12_init 293 = .ok (.aload_n 0, 1) := by decide +kernel
theorem dX12_init_294 : decode cX12_init 294 = .ok (.sipush 3360, 3) := by decide +kernel
theorem dX12_init_297 : decode cX12_init 297 = .ok (.newarray .int, 2) := by decide +kernel
theorem dX12_init_299 : decode cX12_init 299 = .ok (.putfield 112, 3) := by decide +kernel
theorem dX12_init_302 : decode cX12_init 302 = .ok (.aload_n 0, 1) := by decide +kernel
theorem dX12_init_303 : decode cX12_init 303 = .ok (.bipush 40, 2) := by decide +kernel
theorem dX12_init_305 : decode cX12_init 305 = .ok (.newarray .int, 2) := by decide +kernel
theorem dX12_init_307 : decode cX12_init 307 = .ok (.putfield 115, 3) := by decide +kernel
theorem dX12_init_310 : decode cX12_init 310 = .ok (.aload_n 0, 1) := by decide +kernel
theorem dX12_init_311 : decode cX12_init 311 = .ok (.bipush 8, 2) := by decide +kernel
theorem dX12_init_313 : decode cX12_init 313 = .ok (.newarray .boolean, 2) := by decide +kernel
theorem dX12_init_315 : decode cX12_init 315 = .ok (.putfield 118, 3) := by decide +kernel
theorem dX12_init_318 : decode cX12_init 318 = .ok (.aload_n 0, 1) := by decide +kernel
theorem dX12_init_319 : decode cX12_init 319 = .ok (.sipush 3200, 3) := by decide +kernel
theorem dX12_init_322 : decode cX12_init 322 = .ok (.newarray .int, 2) := by decide +kernel
theorem dX12_init_324 : decode cX12_init 324 = .ok (.putfield 121, 3) := by decide +kernel
theorem dX12_init_327 : decode cX12_init 327 = .ok (.aload_n 0, 1) := by decide +kernel
theorem dX12_init_328 : decode cX12_init 328 = .ok (.sipush 3200, 3) := by decide +kernel
theorem dX12_init_331 : decode cX12_init 331 = .ok (.newarray .int, 2) := by decide +kernel
theorem dX12_init_333 : decode cX12_init 333 = .ok (.putfield 124, 3) := by decide +kernel
theorem dX12_init_336 : decode cX12_init 336 = .ok (.aload_n 0, 1) := by decide +kernel
theorem dX12_init_337 : decode cX12_init 337 = .ok (.bipush 24, 2) := by decide +kernel
theorem dX12_init_339 : decode cX12_init 339 = .ok (.newarray .int, 2) := by decide +kernel
theorem dX12_init_341 : decode cX12_init 341 = .ok (.putfield 127, 3) := by decide +kernel
theorem dX12_init_344 : decode cX12_init 344 = .ok (.aload_n 0, 1) := by decide +kernel
theorem dX12_init_345 : decode cX12_init 345 = .ok (.bipush 8, 2) := by decide +kernel
theorem dX12_init_347 : decode cX12_init 347 = .ok (.newarray .int, 2) := by decide +kernel
theorem dX12_init_349 : decode cX12_init 349 = .ok (.putfield 130, 3) := by decide +kernel
theorem dX12_init_352 : decode cX12_init 352 = .ok (.aload_n 0, 1) := by decide +kernel
theorem dX12_init_353 : decode cX12_init 353 = .ok (.sipush 256, 3) := by decide +kernel
theorem dX12_init_356 : decode cX12_init 356 = .ok (.newarray .int, 2) := by decide +kernel
theorem dX12_init_358 : decode cX12_init 358 = .ok (.putfield 133, 3) := by decide +kernel
theorem dX12_init_361 : decode cX12_init 361 = .ok (.aload_n 0, 1) := by decide +kernel
theorem dX12_init_362 : decode cX12_init 362 = .ok (.bipush 64, 2) := by decide +kernel
theorem dX12_init_364 : decode cX12_init 364 = .ok (.newarray .int, 2) := by decide +kernel
theorem dX12_init_366 : decode cX12_init 366 = .ok (.putfield 136, 3) := by decide +kernel
theorem dX12_init_369 : decode cX12_init 369 = .ok (.aload_n 0, 1) := by decide +kernel
theorem dX12_init_370 : decode cX12_init 370 = .ok (.bipush 64, 2) := by decide +kernel
theorem dX12_init_372 : decode cX12_init 372 = .ok (.newarray .int, 2) := by decide +kernel
theorem dX12_init_374 : decode cX12_init 374 = .ok (.putfield 139, 3) := by decide +kernel
theorem dX12_init_377 : decode cX12_init 377 = .ok (.aload_n 0, 1) := by decide +kernel
theorem dX12_init_378 : decode cX12_init 378 = .ok (.sipush 512, 3) := by decide +kernel
theorem dX12_init_381 : decode cX12_init 381 = .ok (.newarray .int, 2) := by decide +kernel
theorem dX12_init_383 : decode cX12_init 383 = .ok (.putfield 142, 3) := by decide +kernel
theorem dX12_init_386 : decode cX12_init 386 = .ok (.aload_n 0, 1) := by decide +kernel
theorem dX12_init_387 : decode cX12_init 387 = .ok (.bipush 8, 2) := by decide +kernel
theorem dX12_init_389 : decode cX12_init 389 = .ok (.newarray .int, 2) := by decide +kernel
theorem dX12_init_391 : decode cX12_init 391 = .ok (.putfield 145, 3) := by decide +kernel
theorem dX12_init_394 : decode cX12_init 394 = .ok (.aload_n 0, 1) := by decide +kernel
theorem dX12_init_395 : decode cX12_init 395 = .ok (.bipush 8, 2) := by decide +kernel
theorem dX12_init_397 : decode cX12_init 397 = .ok (.newarray .int, 2) := by decide +kernel
theorem dX12_init_399 : decode cX12_init 399 = .ok (.putfield 148, 3) := by decide +kernel
theorem dX12_init_402 : decode cX12_init 402 = .ok (.aload_n 0, 1) := by decide +kernel
theorem dX12_init_403 : decode cX12_init 403 = .ok (.sipush 400, 3) := by decide +kernel
theorem dX12_init_406 : decode cX12_init 406 = .ok (.newarray .int, 2) := by decide +kernel
theorem dX12_init_408 : decode cX12_init 408 = .ok (.putfield 151, 3) := by decide +kernel
theorem dX12_init_411 : decode cX12_init 411 = .ok (.aload_n 0, 1) := by decide +kernel
theorem dX12_init_412 : decode cX12_init 412 = .ok (.sipush 400, 3) := by decide +kernel
theorem dX12_init_415 : decode cX12_init 415 = .ok (.newarray .int, 2) := by decide +kernel
theorem dX12_init_417 : decode cX12_init 417 = .ok (.putfield 154, 3) := by decide +kernel
theorem dX12_init_420 : decode cX12_init 420 = .ok (.aload_n 0, 1) := by decide +kernel
theorem dX12_init_421 : decode cX12_init 421 = .ok (.sipush 3200, 3) := by decide +kernel
theorem dX12_init_424 : decode cX12_init 424 = .ok (.newarray .int, 2) := by decide +kernel
theorem dX12_init_426 : decode cX12_init 426 = .ok (.putfield 157, 3) := by decide +kernel
theorem dX12_init_429 : decode cX12_init 429 = .ok (.aload_n 0, 1) := by decide +kernel
theorem dX12_init_430 : decode cX12_init 430 = .ok (.sipush 400, 3) := by decide +kernel
theorem dX12_init_433 : decode cX12_init 433 = .ok (.newarray .int, 2) := by decide +kernel
theorem dX12_init_435 : decode cX12_init 435 = .ok (.putfield 160, 3) := by decide +kernel
theorem dX12_init_438 : decode cX12_init 438 = .ok (.aload_n 0, 1) := by decide +kernel
theorem dX12_init_439 : decode cX12_init 439 = .ok (.sipush 400, 3) := by decide +kernel
theorem dX12_init_442 : decode cX12_init 442 = .ok (.newarray .int, 2) := by decide +kernel
theorem dX12_init_444 : decode cX12_init 444 = .ok (.putfield 163, 3) := by decide +kernel
theorem dX12_init_447 : decode cX12_init 447 = .ok (.aload_n 0, 1) := by decide +kernel
theorem dX12_init_448 : decode cX12_init 448 = .ok (.sipush 4160, 3) := by decide +kernel
theorem dX12_init_451 : decode cX12_init 451 = .ok (.newarray .int, 2) := by decide +kernel
theorem dX12_init_453 : decode cX12_init 453 = .ok (.putfield 166, 3) := by decide +kernel
theorem dX12_init_456 : decode cX12_init 456 = .ok (.aload_n 0, 1) := by decide +kernel
theorem dX12_init_457 : decode cX12_init 457 = .ok (.bipush 28, 2) := by decide +kernel
theorem dX12_init_459 : decode cX12_init 459 = .ok (.newarray .int, 2) := by decide +kernel
theorem dX12_init_461 : decode cX12_init 461 = .ok (.putfield 169, 3) := by decide +kernel
theorem dX12_init_464 : decode cX12_init 464 = .ok (.aload_n 0, 1) := by decide +kernel
theorem dX12_init_465 : decode cX12_init 465 = .ok (.bipush 8, 2) := by decide +kernel
theorem dX12_init_467 : decode cX12_init 467 = .ok (.newarray .int, 2) := by decide +kernel
theorem dX12_init_469 : decode cX12_init 469 = .ok (.putfield 172, 3) := by decide +kernel
theorem dX12_init_472 : decode cX12_init 472 = .ok (.aload_n 0, 1) := by decide +kernel
theorem dX12_init_473 : decode cX12_init 473 = .ok (.bipush 8, 2) := by decide +kernel
theorem dX12_init_475 : decode cX12_init 475 = .ok (.newarray .int, 2) := by decide +kernel
theorem dX12_init_477 : decode cX12_init 477 = .ok (.putfield 175, 3) := by decide +kernel
theorem dX12_init_480 : decode cX12_init 480 = .ok (.aload_n 0, 1) := by decide +kernel
theorem dX12_init_481 : decode cX12_init 481 = .ok (.bipush 8, 2) := by decide +kernel
theorem dX12_init_483 : decode cX12_init 483 = .ok (.newarray .int, 2) := by decide +kernel
theorem dX12_init_485 : decode cX12_init 485 = .ok (.putfield 178, 3) := by decide +kernel
theorem dX12_init_488 : decode cX12_init 488 = .ok (.aload_n 0, 1) := by decide +kernel
theorem dX12_init_489 : decode cX12_init 489 = .ok (.bipush 8, 2) := by decide +kernel
theorem dX12_init_491 : decode cX12_init 491 = .ok (.newarray .int, 2) := by decide +kernel
theorem dX12_init_493 : decode cX12_init 493 = .ok (.putfield 181, 3) := by decide +kernel
theorem dX12_init_496 : decode cX12_init 496 = .ok (.return_, 1) := by decide +kernel
theorem dX12_turn_0 : decode cX12_turn 0 = .ok (.iconst 0, 1) := by decide +kernel
theorem dX12_turn_1 : decode cX12_turn 1 = .ok (.istore_n 1, 1) := by decide +kernel
theorem dX12_turn_2 : decode cX12_turn 2 = .ok (.iload_n 1, 1) := by decide +kernel
theorem dX12_turn_3 : decode cX12_turn 3 = .ok (.bipush 6, 2) := by decide +kernel
theorem dX12_turn_5 : decode cX12_turn 5 = .ok (.if_icmp .ge 69, 3) := by decide +kernel
theorem dX12_turn_8 : decode cX12_turn 8 = .ok (.iconst 0, 1) := by decide +kernel
theorem dX12_turn_9 : decode cX12_turn 9 = .ok (.istore_n 2, 1) := by decide +kernel
theorem dX12_turn_10 : decode cX12_turn 10 = .ok (.iload_n 2, 1) := by decide +kernel
theorem dX12_turn_11 : decode cX12_turn 11 = .ok (.bipush 8, 2) := by decide +kernel
theorem dX12_turn_13 : decode cX12_turn 13 = .ok (.if_icmp .ge 55, 3) := by decide +kernel
theorem dX12_turn_16 : decode cX12_turn 16 = .ok (.aload_n 0, 1) := by decide +kernel
theorem dX12_turn_17 : decode cX12_turn 17 = .ok (.getfield 130, 3) := by decide +kernel
theorem dX12_turn_20 : decode cX12_turn 20 = .ok (.iload_n 2, 1) := by decide +kernel
theorem dX12_turn_21 : decode cX12_turn 21 = .ok (.iaload, 1) := by decide +kernel
theorem dX12_turn_22 : decode cX12_turn 22 = .ok (.aload_n 0, 1) := by decide +kernel
theorem dX12_turn_23 : decode cX12_turn 23 = .ok (.getfield 130, 3) := by decide +kernel
theorem dX12_turn_26 : decode cX12_turn 26 = .ok (.iload_n 2, 1) := by decide +kernel
theorem dX12_turn_27 : decode cX12_turn 27 = .ok (.iconst 1, 1) := by decide +kernel
theorem dX12_turn_28 : decode cX12_turn 28 = .ok (.iadd, 1) := by decide +kernel
theorem dX12_turn_29 : decode cX12_turn 29 = .ok (.bipush 8, 2) := by decide +kernel
theorem dX12_turn_31 : decode cX12_turn 31 = .ok (.irem, 1) := by decide +kernel
theorem dX12_turn_32 : decode cX12_turn 32 = .ok (.iaload, 1) := by decide +kernel
theorem dX12_turn_33 : decode cX12_turn 33 = .ok (.iadd, 1) := by decide +kernel
theorem dX12_turn_34 : decode cX12_turn 34 = .ok (.istore_n 3, 1) := by decide +kernel
theorem dX12_turn_35 : decode cX12_turn 35 = .ok (.aload_n 0, 1) := by decide +kernel
theorem dX12_turn_36 : decode cX12_turn 36 = .ok (.getfield 130, 3) := by decide +kernel
theorem dX12_turn_39 : decode cX12_turn 39 = .ok (.iload_n 2, 1) := by decide +kernel
theorem dX12_turn_40 : decode cX12_turn 40 = .ok (.iload_n 3, 1) := by decide +kernel
theorem dX12_turn_41 : decode cX12_turn 41 = .ok (.bipush 7, 2) := by decide +kernel
theorem dX12_turn_43 : decode cX12_turn 43 = .ok (.ishl, 1) := by decide +kernel
theorem dX12_turn_44 : decode cX12_turn 44 = .ok (.iload_n 3, 1) := by decide +kernel
theorem dX12_turn_45 : decode cX12_turn 45 = .ok (.bipush 25, 2) := by decide +kernel
theorem dX12_turn_47 : decode cX12_turn 47 = .ok (.iushr, 1) := by decide +kernel
theorem dX12_turn_48 : decode cX12_turn 48 = .ok (.ior, 1) := by decide +kernel
theorem dX12_turn_49 : decode cX12_turn 49 = .ok (.aload_n 0, 1) := by decide +kernel
theorem dX12_turn_50 : decode cX12_turn 50 = .ok (.getfield 130, 3) := by decide +kernel
theorem dX12_turn_53 : decode cX12_turn 53 = .ok (.iload_n 2, 1) := by decide +kernel
theorem dX12_turn_54 : decode cX12_turn 54 = .ok (.iconst 3, 1) := by decide +kernel
theorem dX12_turn_55 : decode cX12_turn 55 = .ok (.iadd, 1) := by decide +kernel
theorem dX12_turn_56 : decode cX12_turn 56 = .ok (.bipush 8, 2) := by decide +kernel
theorem dX12_turn_58 : decode cX12_turn 58 = .ok (.irem, 1) := by decide +kernel
theorem dX12_turn_59 : decode cX12_turn 59 = .ok (.iaload, 1) := by decide +kernel
theorem dX12_turn_60 : decode cX12_turn 60 = .ok (.ixor, 1) := by decide +kernel
theorem dX12_turn_61 : decode cX12_turn 61 = .ok (.iastore, 1) := by decide +kernel
theorem dX12_turn_62 : decode cX12_turn 62 = .ok (.iinc 2 1, 3) := by decide +kernel
theorem dX12_turn_65 : decode cX12_turn 65 = .ok (.goto (-55), 3) := by decide +kernel
theorem dX12_turn_68 : decode cX12_turn 68 = .ok (.iinc 1 1, 3) := by decide +kernel
theorem dX12_turn_71 : decode cX12_turn 71 = .ok (.goto (-69), 3) := by decide +kernel
theorem dX12_turn_74 : decode cX12_turn 74 = .ok (.return_, 1) := by decide +kernel
theorem dX12_mix_0 : decode cX12_mix 0 = .ok (.iconst 0, 1) := by decide +kernel
theorem dX12_mix_1 : decode cX12_mix 1 = .ok (.istore_n 2, 1) := by decide +kernel
theorem dX12_mix_2 : decode cX12_mix 2 = .ok (.iload_n 2, 1) := by decide +kernel
theorem dX12_mix_3 : decode cX12_mix 3 = .ok (.bipush 8, 2) := by decide +kernel
theorem dX12_mix_5 : decode cX12_mix 5 = .ok (.if_icmp .ge 21, 3) := by decide +kernel
theorem dX12_mix_8 : decode cX12_mix 8 = .ok (.aload_n 0, 1) := by decide +kernel
theorem dX12_mix_9 : decode cX12_mix 9 = .ok (.getfield 130, 3) := by decide +kernel
theorem dX12_mix_12 : decode cX12_mix 12 = .ok (.iload_n 2, 1) := by decide +kernel
theorem dX12_mix_13 : decode cX12_mix 13 = .ok (.iload_n 2, 1) := by decide +kernel
theorem dX12_mix_14 : decode cX12_mix 14 = .ok (.iconst 1, 1) := by decide +kernel
theorem dX12_mix_15 : decode cX12_mix 15 = .ok (.iadd, 1) := by decide +kernel
theorem dX12_mix_16 : decode cX12_mix 16 = .ok (.ldc 184, 2) := by decide +kernel
theorem dX12_mix_18 : decode cX12_mix 18 = .ok (.imul, 1) := by decide +kernel
theorem dX12_mix_19 : decode cX12_mix 19 = .ok (.iastore, 1) := by decide +kernel
theorem dX12_mix_20 : decode cX12_mix 20 = .ok (.iinc 2 1, 3) := by decide +kernel
theorem dX12_mix_23 : decode cX12_mix 23 = .ok (.goto (-21), 3) := by decide +kernel
theorem dX12_mix_26 : decode cX12_mix 26 = .ok (.iconst 0, 1) := by decide +kernel
theorem dX12_mix_27 : decode cX12_mix 27 = .ok (.istore_n 2, 1) := by decide +kernel
theorem dX12_mix_28 : decode cX12_mix 28 = .ok (.iload_n 2, 1) := by decide +kernel
theorem dX12_mix_29 : decode cX12_mix 29 = .ok (.iload_n 1, 1) := by decide +kernel
theorem dX12_mix_30 : decode cX12_mix 30 = .ok (.if_icmp .ge 47, 3) := by decide +kernel
theorem dX12_mix_33 : decode cX12_mix 33 = .ok (.aload_n 0, 1) := by decide +kernel
theorem dX12_mix_34 : decode cX12_mix 34 = .ok (.getfield 130, 3) := by decide +kernel
theorem dX12_mix_37 : decode cX12_mix 37 = .ok (.iload_n 2, 1) := by decide +kernel
theorem dX12_mix_38 : decode cX12_mix 38 = .ok (.bipush 8, 2) := by decide +kernel
theorem dX12_mix_40 : decode cX12_mix 40 = .ok (.irem, 1) := by decide +kernel
theorem dX12_mix_41 : decode cX12_mix 41 = .ok (.dup2, 1) := by decide +kernel
theorem dX12_mix_42 : decode cX12_mix 42 = .ok (.iaload, 1) := by decide +kernel
theorem dX12_mix_43 : decode cX12_mix 43 = .ok (.aload_n 0, 1) := by decide +kernel
theorem dX12_mix_44 : decode cX12_mix 44 = .ok (.getfield 127, 3) := by decide +kernel
theorem dX12_mix_47 : decode cX12_mix 47 = .ok (.iload_n 2, 1) := by decide +kernel
theorem dX12_mix_48 : decode cX12_mix 48 = .ok (.iaload, 1) := by decide +kernel
theorem dX12_mix_49 : decode cX12_mix 49 = .ok (.ixor, 1) := by decide +kernel
theorem dX12_mix_50 : decode cX12_mix 50 = .ok (.iastore, 1) := by decide +kernel
theorem dX12_mix_51 : decode cX12_mix 51 = .ok (.iload_n 2, 1) := by decide +kernel
theorem dX12_mix_52 : decode cX12_mix 52 = .ok (.bipush 8, 2) := by decide +kernel
theorem dX12_mix_54 : decode cX12_mix 54 = .ok (.irem, 1) := by decide +kernel
theorem dX12_mix_55 : decode cX12_mix 55 = .ok (.bipush 7, 2) := by decide +kernel
theorem dX12_mix_57 : decode cX12_mix 57 = .ok (.if_icmp .eq 10, 3) := by decide +kernel
theorem dX12_mix_60 : decode cX12_mix 60 = .ok (.iload_n 2, 1) := by decide +kernel
theorem dX12_mix_61 : decode cX12_mix 61 = .ok (.iload_n 1, 1) := by decide +kernel
theorem dX12_mix_62 : decode cX12_mix 62 = .ok (.iconst 1, 1) := by decide +kernel
theorem dX12_mix_63 : decode cX12_mix 63 = .ok (.isub, 1) := by decide +kernel
theorem dX12_mix_64 : decode cX12_mix 64 = .ok (.if_icmp .ne 7, 3) := by decide +kernel
theorem dX12_mix_67 : decode cX12_mix 67 = .ok (.aload_n 0, 1) := by decide +kernel
theorem dX12_mix_68 : decode cX12_mix 68 = .ok (.invokevirtual 185, 3) := by decide +kernel
theorem dX12_mix_71 : decode cX12_mix 71 = .ok (.iinc 2 1, 3) := by decide +kernel
theorem dX12_mix_74 : decode cX12_mix 74 = .ok (.goto (-46), 3) := by decide +kernel
theorem dX12_mix_77 : decode cX12_mix 77 = .ok (.aload_n 0, 1) := by decide +kernel
theorem dX12_mix_78 : decode cX12_mix 78 = .ok (.getfield 130, 3) := by decide +kernel
theorem dX12_mix_81 : decode cX12_mix 81 = .ok (.iconst 0, 1) := by decide +kernel
theorem dX12_mix_82 : decode cX12_mix 82 = .ok (.dup2, 1) := by decide +kernel
theorem dX12_mix_83 : decode cX12_mix 83 = .ok (.iaload, 1) := by decide +kernel
theorem dX12_mix_84 : decode cX12_mix 84 = .ok (.iload_n 1, 1) := by decide +kernel
theorem dX12_mix_85 : decode cX12_mix 85 = .ok (.ixor, 1) := by decide +kernel
theorem dX12_mix_86 : decode cX12_mix 86 = .ok (.iastore, 1) := by decide +kernel
theorem dX12_mix_87 : decode cX12_mix 87 = .ok (.aload_n 0, 1) := by decide +kernel
theorem dX12_mix_88 : decode cX12_mix 88 = .ok (.invokevirtual 185, 3) := by decide +kernel
theorem dX12_mix_91 : decode cX12_mix 91 = .ok (.return_, 1) := by decide +kernel
theorem dX12_toRow_0 : decode cX12_toRow 0 = .ok (.iconst 0, 1) := by decide +kernel
theorem dX12_toRow_1 : decode cX12_toRow 1 = .ok (.istore_n 3, 1) := by decide +kernel
theorem dX12_toRow_2 : decode cX12_toRow 2 = .ok (.iload_n 3, 1) := by decide +kernel
theorem dX12_toRow_3 : decode cX12_toRow 3 = .ok (.bipush 8, 2) := by decide +kernel
theorem dX12_toRow_5 : decode cX12_toRow 5 = .ok (.if_icmp .ge 20, 3) := by decide +kernel
theorem dX12_toRow_8 : decode cX12_toRow 8 = .ok (.aload_n 1, 1) := by decide +kernel
theorem dX12_toRow_9 : decode cX12_toRow 9 = .ok (.iload_n 2, 1) := by decide +kernel
theorem dX12_toRow_10 : decode cX12_toRow 10 = .ok (.iload_n 3, 1) := by decide +kernel
theorem dX12_toRow_11 : decode cX12_toRow 11 = .ok (.iadd, 1) := by decide +kernel
theorem dX12_toRow_12 : decode cX12_toRow 12 = .ok (.aload_n 0, 1) := by decide +kernel
theorem dX12_toRow_13 : decode cX12_toRow 13 = .ok (.getfield 130, 3) := by decide +kernel
theorem dX12_toRow_16 : decode cX12_toRow 16 = .ok (.iload_n 3, 1) := by decide +kernel
theorem dX12_toRow_17 : decode cX12_toRow 17 = .ok (.iaload, 1) := by decide +kernel
theorem dX12_toRow_18 : decode cX12_toRow 18 = .ok (.iastore, 1) := by decide +kernel
theorem dX12_toRow_19 : decode cX12_toRow 19 = .ok (.iinc 3 1, 3) := by decide +kernel
theorem dX12_toRow_22 : decode cX12_toRow 22 = .ok (.goto (-20), 3) := by decide +kernel
theorem dX12_toRow_25 : decode cX12_toRow 25 = .ok (.return_, 1) := by decide +kernel
theorem dX12_entrySum_0 : decode cX12_entrySum 0 = .ok (.aload_n 0, 1) := by decide +kernel
theorem dX12_entrySum_1 : decode cX12_entrySum 1 = .ok (.getfield 127, 3) := by decide +kernel
theorem dX12_entrySum_4 : decode cX12_entrySum 4 = .ok (.iconst 0, 1) := by decide +kernel
theorem dX12_entrySum_5 : decode cX12_entrySum 5 = .ok (.iconst 1, 1) := by decide +kernel
theorem dX12_entrySum_6 : decode cX12_entrySum 6 = .ok (.iastore, 1) := by decide +kernel
theorem dX12_entrySum_7 : decode cX12_entrySum 7 = .ok (.aload_n 0, 1) := by decide +kernel
theorem dX12_entrySum_8 : decode cX12_entrySum 8 = .ok (.getfield 127, 3) := by decide +kernel
theorem dX12_entrySum_11 : decode cX12_entrySum 11 = .ok (.iconst 1, 1) := by decide +kernel
theorem dX12_entrySum_12 : decode cX12_entrySum 12 = .ok (.iload_n 1, 1) := by decide +kernel
theorem dX12_entrySum_13 : decode cX12_entrySum 13 = .ok (.iastore, 1) := by decide +kernel
theorem dX12_entrySum_14 : decode cX12_entrySum 14 = .ok (.aload_n 0, 1) := by decide +kernel
theorem dX12_entrySum_15 : decode cX12_entrySum 15 = .ok (.getfield 127, 3) := by decide +kernel
theorem dX12_entrySum_18 : decode cX12_entrySum 18 = .ok (.iconst 2, 1) := by decide +kernel
theorem dX12_entrySum_19 : decode cX12_entrySum 19 = .ok (.lload_n 2, 1) := by decide +kernel
theorem dX12_entrySum_20 : decode cX12_entrySum 20 = .ok (.bipush 32, 2) := by decide +kernel
theorem dX12_entrySum_22 : decode cX12_entrySum 22 = .ok (.lshr, 1) := by decide +kernel
theorem dX12_entrySum_23 : decode cX12_entrySum 23 = .ok (.l2i, 1) := by decide +kernel
theorem dX12_entrySum_24 : decode cX12_entrySum 24 = .ok (.iastore, 1) := by decide +kernel
theorem dX12_entrySum_25 : decode cX12_entrySum 25 = .ok (.aload_n 0, 1) := by decide +kernel
theorem dX12_entrySum_26 : decode cX12_entrySum 26 = .ok (.getfield 127, 3) := by decide +kernel
theorem dX12_entrySum_29 : decode cX12_entrySum 29 = .ok (.iconst 3, 1) := by decide +kernel
theorem dX12_entrySum_30 : decode cX12_entrySum 30 = .ok (.lload_n 2, 1) := by decide +kernel
theorem dX12_entrySum_31 : decode cX12_entrySum 31 = .ok (.l2i, 1) := by decide +kernel
theorem dX12_entrySum_32 : decode cX12_entrySum 32 = .ok (.iastore, 1) := by decide +kernel
theorem dX12_entrySum_33 : decode cX12_entrySum 33 = .ok (.aload_n 0, 1) := by decide +kernel
theorem dX12_entrySum_34 : decode cX12_entrySum 34 = .ok (.iconst 4, 1) := by decide +kernel
theorem dX12_entrySum_35 : decode cX12_entrySum 35 = .ok (.invokevirtual 188, 3) := by decide +kernel
theorem dX12_entrySum_38 : decode cX12_entrySum 38 = .ok (.aload_n 0, 1) := by decide +kernel
theorem dX12_entrySum_39 : decode cX12_entrySum 39 = .ok (.aload 4, 2) := by decide +kernel
theorem dX12_entrySum_41 : decode cX12_entrySum 41 = .ok (.iload 5, 2) := by decide +kernel
theorem dX12_entrySum_43 : decode cX12_entrySum 43 = .ok (.invokevirtual 192, 3) := by decide +kernel
theorem dX12_entrySum_46 : decode cX12_entrySum 46 = .ok (.return_, 1) := by decide +kernel
theorem dX12_join_0 : decode cX12_join 0 = .ok (.aload_n 0, 1) := by decide +kernel
theorem dX12_join_1 : decode cX12_join 1 = .ok (.getfield 127, 3) := by decide +kernel
theorem dX12_join_4 : decode cX12_join 4 = .ok (.iconst 0, 1) := by decide +kernel
theorem dX12_join_5 : decode cX12_join 5 = .ok (.iconst 2, 1) := by decide +kernel
theorem dX12_join_6 : decode cX12_join 6 = .ok (.iastore, 1) := by decide +kernel
theorem dX12_join_7 : decode cX12_join 7 = .ok (.iconst 0, 1) := by decide +kernel
theorem dX12_join_8 : decode cX12_join 8 = .ok (.istore 7, 2) := by decide +kernel
theorem dX12_join_10 : decode cX12_join 10 = .ok (.iload 7, 2) := by decide +kernel
theorem dX12_join_12 : decode cX12_join 12 = .ok (.bipush 8, 2) := by decide +kernel
theorem dX12_join_14 : decode cX12_join 14 = .ok (.if_icmp .ge 41, 3) := by decide +kernel
theorem dX12_join_17 : decode cX12_join 17 = .ok (.aload_n 0, 1) := by decide +kernel
theorem dX12_join_18 : decode cX12_join 18 = .ok (.getfield 127, 3) := by decide +kernel
theorem dX12_join_21 : decode cX12_join 21 = .ok (.iconst 1, 1) := by decide +kernel
theorem dX12_join_22 : decode cX12_join 22 = .ok (.iload 7, 2) := by decide +kernel
theorem dX12_join_24 : decode cX12_join 24 = .ok (.iadd, 1) := by decide +kernel
theorem dX12_join_25 : decode cX12_join 25 = .ok (.aload_n 1, 1) := by decide +kernel
theorem dX12_join_26 : decode cX12_join 26 = .ok (.iload_n 2, 1) := by decide +kernel
theorem dX12_join_27 : decode cX12_join 27 = .ok (.iload 7, 2) := by decide +kernel
theorem dX12_join_29 : decode cX12_join 29 = .ok (.iadd, 1) := by decide +kernel
theorem dX12_join_30 : decode cX12_join 30 = .ok (.iaload, 1) := by decide +kernel
theorem dX12_join_31 : decode cX12_join 31 = .ok (.iastore, 1) := by decide +kernel
theorem dX12_join_32 : decode cX12_join 32 = .ok (.aload_n 0, 1) := by decide +kernel
theorem dX12_join_33 : decode cX12_join 33 = .ok (.getfield 127, 3) := by decide +kernel
theorem dX12_join_36 : decode cX12_join 36 = .ok (.bipush 9, 2) := by decide +kernel
theorem dX12_join_38 : decode cX12_join 38 = .ok (.iload 7, 2) := by decide +kernel
theorem dX12_join_40 : decode cX12_join 40 = .ok (.iadd, 1) := by decide +kernel
theorem dX12_join_41 : decode cX12_join 41 = .ok (.aload_n 3, 1) := by decide +kernel
theorem dX12_join_42 : decode cX12_join 42 = .ok (.iload 4, 2) := by decide +kernel
theorem dX12_join_44 : decode cX12_join 44 = .ok (.iload 7, 2) := by decide +kernel
theorem dX12_join_46 : decode cX12_join 46 = .ok (.iadd, 1) := by decide +kernel
theorem dX12_join_47 : decode cX12_join 47 = .ok (.iaload, 1) := by decide +kernel
theorem dX12_join_48 : decode cX12_join 48 = .ok (.iastore, 1) := by decide +kernel
theorem dX12_join_49 : decode cX12_join 49 = .ok (.iinc 7 1, 3) := by decide +kernel
theorem dX12_join_52 : decode cX12_join 52 = .ok (.goto (-42), 3) := by decide +kernel
theorem dX12_join_55 : decode cX12_join 55 = .ok (.aload_n 0, 1) := by decide +kernel
theorem dX12_join_56 : decode cX12_join 56 = .ok (.bipush 17, 2) := by decide +kernel
theorem dX12_join_58 : decode cX12_join 58 = .ok (.invokevirtual 188, 3) := by decide +kernel
theorem dX12_join_61 : decode cX12_join 61 = .ok (.aload_n 0, 1) := by decide +kernel
theorem dX12_join_62 : decode cX12_join 62 = .ok (.aload 5, 2) := by decide +kernel
theorem dX12_join_64 : decode cX12_join 64 = .ok (.iload 6, 2) := by decide +kernel
theorem dX12_join_66 : decode cX12_join 66 = .ok (.invokevirtual 192, 3) := by decide +kernel
theorem dX12_join_69 : decode cX12_join 69 = .ok (.return_, 1) := by decide +kernel
theorem dX12_blockSum_0 : decode cX12_blockSum 0 = .ok (.iload_n 3, 1) := by decide +kernel
theorem dX12_blockSum_1 : decode cX12_blockSum 1 = .ok (.iconst 1, 1) := by decide +kernel
theorem dX12_blockSum_2 : decode cX12_blockSum 2 = .ok (.if_icmp .ne 36, 3) := by decide +kernel
theorem dX12_blockSum_5 : decode cX12_blockSum 5 = .ok (.aload_n 0, 1) := by decide +kernel
theorem dX12_blockSum_6 : decode cX12_blockSum 6 = .ok (.aload_n 0, 1) := by decide +kernel
theorem dX12_blockSum_7 : decode cX12_blockSum 7 = .ok (.getfield 13, 3) := by decide +kernel
theorem dX12_blockSum_10 : decode cX12_blockSum 10 = .ok (.sipush 400, 3) := by decide +kernel
theorem dX12_blockSum_13 : decode cX12_blockSum 13 = .ok (.iload_n 1, 1) := by decide +kernel
theorem dX12_blockSum_14 : decode cX12_blockSum 14 = .ok (.imul, 1) := by decide +kernel
theorem dX12_blockSum_15 : decode cX12_blockSum 15 = .ok (.iload_n 2, 1) := by decide +kernel
theorem dX12_blockSum_16 : decode cX12_blockSum 16 = .ok (.iadd, 1) := by decide +kernel
theorem dX12_blockSum_17 : decode cX12_blockSum 17 = .ok (.iaload, 1) := by decide +kernel
theorem dX12_blockSum_18 : decode cX12_blockSum 18 = .ok (.aload_n 0, 1) := by decide +kernel
theorem dX12_blockSum_19 : decode cX12_blockSum 19 = .ok (.getfield 16, 3) := by decide +kernel
theorem dX12_blockSum_22 : decode cX12_blockSum 22 = .ok (.sipush 400, 3) := by decide +kernel
theorem dX12_blockSum_25 : decode cX12_blockSum 25 = .ok (.iload_n 1, 1) := by decide +kernel
theorem dX12_blockSum_26 : decode cX12_blockSum 26 = .ok (.imul, 1) := by decide +kernel
theorem dX12_blockSum_27 : decode cX12_blockSum 27 = .ok (.iload_n 2, 1) := by decide +kernel
theorem dX12_blockSum_28 : decode cX12_blockSum 28 = .ok (.iadd, 1) := by decide +kernel
theorem dX12_blockSum_29 : decode cX12_blockSum 29 = .ok (.laload, 1) := by decide +kernel
theorem dX12_blockSum_30 : decode cX12_blockSum 30 = .ok (.aload 5, 2) := by decide +kernel
theorem dX12_blockSum_32 : decode cX12_blockSum 32 = .ok (.iload 6, 2) := by decide +kernel
theorem dX12_blockSum_34 : decode cX12_blockSum 34 = .ok (.invokevirtual 196, 3) := by decide +kernel
theorem dX12_blockSum_37 : decode cX12_blockSum 37 = .ok (.return_, 1) := by decide +kernel
theorem dX12_blockSum_38 : decode cX12_blockSum 38 = .ok (.aload_n 0, 1) := by decide +kernel
theorem dX12_blockSum_39 : decode cX12_blockSum 39 = .ok (.iload_n 1, 1) := by decide +kernel
theorem dX12_blockSum_40 : decode cX12_blockSum 40 = .ok (.iload_n 2, 1) := by decide +kernel
theorem dX12_blockSum_41 : decode cX12_blockSum 41 = .ok (.iload_n 3, 1) := by decide +kernel
theorem dX12_blockSum_42 : decode cX12_blockSum 42 = .ok (.iconst 2, 1) := by decide +kernel
theorem dX12_blockSum_43 : decode cX12_blockSum 43 = .ok (.idiv, 1) := by decide +kernel
theorem dX12_blockSum_44 : decode cX12_blockSum 44 = .ok (.iload 4, 2) := by decide +kernel
theorem dX12_blockSum_46 : decode cX12_blockSum 46 = .ok (.iconst 1, 1) := by decide +kernel
theorem dX12_blockSum_47 : decode cX12_blockSum 47 = .ok (.iadd, 1) := by decide +kernel
theorem dX12_blockSum_48 : decode cX12_blockSum 48 = .ok (.aload_n 0, 1) := by decide +kernel
theorem dX12_blockSum_49 : decode cX12_blockSum 49 = .ok (.getfield 133, 3) := by decide +kernel
theorem dX12_blockSum_52 : decode cX12_blockSum 52 = .ok (.bipush 16, 2) := by decide +kernel
theorem dX12_blockSum_54 : decode cX12_blockSum 54 = .ok (.iload 4, 2) := by decide +kernel
theorem dX12_blockSum_56 : decode cX12_blockSum 56 = .ok (.imul, 1) := by decide +kernel
theorem dX12_blockSum_57 : decode cX12_blockSum 57 = .ok (.invokevirtual 200, 3) := by decide +kernel
theorem dX12_blockSum_60 : decode cX12_blockSum 60 = .ok (.aload_n 0, 1) := by decide +kernel
theorem dX12_blockSum_61 : decode cX12_blockSum 61 = .ok (.iload_n 1, 1) := by decide +kernel
theorem dX12_blockSum_62 : decode cX12_blockSum 62 = .ok (.iload_n 2, 1) := by decide +kernel
theorem dX12_blockSum_63 : decode cX12_blockSum 63 = .ok (.iload_n 3, 1) := by decide +kernel
theorem dX12_blockSum_64 : decode cX12_blockSum 64 = .ok (.iconst 2, 1) := by decide +kernel
theorem dX12_blockSum_65 : decode cX12_blockSum 65 = .ok (.idiv, 1) := by decide +kernel
theorem dX12_blockSum_66 : decode cX12_blockSum 66 = .ok (.iadd, 1) := by decide +kernel
theorem dX12_blockSum_67 : decode cX12_blockSum 67 = .ok (.iload_n 3, 1) := by decide +kernel
theorem dX12_blockSum_68 : decode cX12_blockSum 68 = .ok (.iconst 2, 1) := by decide +kernel
theorem dX12_blockSum_69 : decode cX12_blockSum 69 = .ok (.idiv, 1) := by decide +kernel
theorem dX12_blockSum_70 : decode cX12_blockSum 70 = .ok (.iload 4, 2) := by decide +kernel
theorem dX12_blockSum_72 : decode cX12_blockSum 72 = .ok (.iconst 1, 1) := by decide +kernel
theorem dX12_blockSum_73 : decode cX12_blockSum 73 = .ok (.iadd, 1) := by decide +kernel
theorem dX12_blockSum_74 : decode cX12_blockSum 74 = .ok (.aload_n 0, 1) := by decide +kernel
theorem dX12_blockSum_75 : decode cX12_blockSum 75 = .ok (.getfield 133, 3) := by decide +kernel
theorem dX12_blockSum_78 : decode cX12_blockSum 78 = .ok (.bipush 16, 2) := by decide +kernel
theorem dX12_blockSum_80 : decode cX12_blockSum 80 = .ok (.iload 4, 2) := by decide +kernel
theorem dX12_blockSum_82 : decode cX12_blockSum 82 = .ok (.imul, 1) := by decide +kernel
theorem dX12_blockSum_83 : decode cX12_blockSum 83 = .ok (.bipush 8, 2) := by decide +kernel
theorem dX12_blockSum_85 : decode cX12_blockSum 85 = .ok (.iadd, 1) := by decide +kernel
theorem dX12_blockSum_86 : decode cX12_blockSum 86 = .ok (.invokevirtual 200, 3) := by decide +kernel
theorem dX12_blockSum_89 : decode cX12_blockSum 89 = .ok (.aload_n 0, 1) := by decide +kernel
theorem dX12_blockSum_90 : decode cX12_blockSum 90 = .ok (.aload_n 0, 1) := by decide +kernel
theorem dX12_blockSum_91 : decode cX12_blockSum 91 = .ok (.getfield 133, 3) := by decide +kernel
theorem dX12_blockSum_94 : decode cX12_blockSum 94 = .ok (.bipush 16, 2) := by decide +kernel
theorem dX12_blockSum_96 : decode cX12_blockSum 96 = .ok (.iload 4, 2) := by decide +kernel
theorem dX12_blockSum_98 : decode cX12_blockSum 98 = .ok (.imul, 1) := by decide +kernel
theorem dX12_blockSum_99 : decode cX12_blockSum 99 = .ok (.aload_n 0, 1) := by decide +kernel
theorem dX12_blockSum_100 : decode cX12_blockSum 100 = .ok (.getfield 133, 3) := by decide +kernel
theorem dX12_blockSum_103 : decode cX12_blockSum 103 = .ok (.bipush 16, 2) := by decide +kernel
theorem dX12_blockSum_105 : decode cX12_blockSum 105 = .ok (.iload 4, 2) := by decide +kernel
theorem dX12_blockSum_107 : decode cX12_blockSum 107 = .ok (.imul, 1) := by decide +kernel
theorem dX12_blockSum_108 : decode cX12_blockSum 108 = .ok (.bipush 8, 2) := by decide +kernel
theorem dX12_blockSum_110 : decode cX12_blockSum 110 = .ok (.iadd, 1) := by decide +kernel
theorem dX12_blockSum_111 : decode cX12_blockSum 111 = .ok (.aload 5, 2) := by decide +kernel
theorem dX12_blockSum_113 : decode cX12_blockSum 113 = .ok (.iload 6, 2) := by decide +kernel
theorem dX12_blockSum_115 : decode cX12_blockSum 115 = .ok (.invokevirtual 204, 3) := by decide +kernel
theorem dX12_blockSum_118 : decode cX12_blockSum 118 = .ok (.return_, 1) := by decide +kernel
theorem dX12_blockAt_0 : decode cX12_blockAt 0 = .ok (.iconst 1, 1) := by decide +kernel
theorem dX12_blockAt_1 : decode cX12_blockAt 1 = .ok (.istore_n 2, 1) := by decide +kernel
theorem dX12_blockAt_2 : decode cX12_blockAt 2 = .ok (.iload_n 0, 1) := by decide +kernel
theorem dX12_blockAt_3 : decode cX12_blockAt 3 = .ok (.iconst 2, 1) := by decide +kernel
theorem dX12_blockAt_4 : decode cX12_blockAt 4 = .ok (.iload_n 2, 1) := by decide +kernel
theorem dX12_blockAt_5 : decode cX12_blockAt 5 = .ok (.imul, 1) := by decide +kernel
theorem dX12_blockAt_6 : decode cX12_blockAt 6 = .ok (.irem, 1) := by decide +kernel
theorem dX12_blockAt_7 : decode cX12_blockAt 7 = .ok (.ifCond .ne 19, 3) := by decide +kernel
theorem dX12_blockAt_10 : decode cX12_blockAt 10 = .ok (.iload_n 0, 1) := by decide +kernel
theorem dX12_blockAt_11 : decode cX12_blockAt 11 = .ok (.iconst 2, 1) := by decide +kernel
theorem dX12_blockAt_12 : decode cX12_blockAt 12 = .ok (.iload_n 2, 1) := by decide +kernel
theorem dX12_blockAt_13 : decode cX12_blockAt 13 = .ok (.imul, 1) := by decide +kernel
theorem dX12_blockAt_14 : decode cX12_blockAt 14 = .ok (.iadd, 1) := by decide +kernel
theorem dX12_blockAt_15 : decode cX12_blockAt 15 = .ok (.iload_n 1, 1) := by decide +kernel
theorem dX12_blockAt_16 : decode cX12_blockAt 16 = .ok (.if_icmp .gt 10, 3) := by decide +kernel
theorem dX12_blockAt_19 : decode cX12_blockAt 19 = .ok (.iload_n 2, 1) := by decide +kernel
theorem dX12_blockAt_20 : decode cX12_blockAt 20 = .ok (.iconst 2, 1) := by decide +kernel
theorem dX12_blockAt_21 : decode cX12_blockAt 21 = .ok (.imul, 1) := by decide +kernel
theorem dX12_blockAt_22 : decode cX12_blockAt 22 = .ok (.istore_n 2, 1) := by decide +kernel
theorem dX12_blockAt_23 : decode cX12_blockAt 23 = .ok (.goto (-21), 3) := by decide +kernel
theorem dX12_blockAt_26 : decode cX12_blockAt 26 = .ok (.iload_n 2, 1) := by decide +kernel
theorem dX12_blockAt_27 : decode cX12_blockAt 27 = .ok (.ireturn, 1) := by decide +kernel
theorem dX12_lay_0 : decode cX12_lay 0 = .ok (.aload_n 0, 1) := by decide +kernel
theorem dX12_lay_1 : decode cX12_lay 1 = .ok (.getfield 136, 3) := by decide +kernel
theorem dX12_lay_4 : decode cX12_lay 4 = .ok (.aload_n 0, 1) := by decide +kernel
theorem dX12_lay_5 : decode cX12_lay 5 = .ok (.getfield 208, 3) := by decide +kernel
theorem dX12_lay_8 : decode cX12_lay 8 = .ok (.iload_n 1, 1) := by decide +kernel
theorem dX12_lay_9 : decode cX12_lay 9 = .ok (.iastore, 1) := by decide +kernel
theorem dX12_lay_10 : decode cX12_lay 10 = .ok (.aload_n 0, 1) := by decide +kernel
theorem dX12_lay_11 : decode cX12_lay 11 = .ok (.getfield 139, 3) := by decide +kernel
theorem dX12_lay_14 : decode cX12_lay 14 = .ok (.aload_n 0, 1) := by decide +kernel
theorem dX12_lay_15 : decode cX12_lay 15 = .ok (.getfield 208, 3) := by decide +kernel
theorem dX12_lay_18 : decode cX12_lay 18 = .ok (.iload_n 2, 1) := by decide +kernel
theorem dX12_lay_19 : decode cX12_lay 19 = .ok (.iastore, 1) := by decide +kernel
theorem dX12_lay_20 : decode cX12_lay 20 = .ok (.iconst 0, 1) := by decide +kernel
theorem dX12_lay_21 : decode cX12_lay 21 = .ok (.istore 5, 2) := by decide +kernel
theorem dX12_lay_23 : decode cX12_lay 23 = .ok (.iload 5, 2) := by decide +kernel
theorem dX12_lay_25 : decode cX12_lay 25 = .ok (.bipush 8, 2) := by decide +kernel
theorem dX12_lay_27 : decode cX12_lay 27 = .ok (.if_icmp .ge 31, 3) := by decide +kernel
theorem dX12_lay_30 : decode cX12_lay 30 = .ok (.aload_n 0, 1) := by decide +kernel
theorem dX12_lay_31 : decode cX12_lay 31 = .ok (.getfield 142, 3) := by decide +kernel
theorem dX12_lay_34 : decode cX12_lay 34 = .ok (.bipush 8, 2) := by decide +kernel
theorem dX12_lay_36 : decode cX12_lay 36 = .ok (.aload_n 0, 1) := by decide +kernel
theorem dX12_lay_37 : decode cX12_lay 37 = .ok (.getfield 208, 3) := by decide +kernel
theorem dX12_lay_40 : decode cX12_lay 40 = .ok (.imul, 1) := by decide +kernel
theorem dX12_lay_41 : decode cX12_lay 41 = .ok (.iload 5, 2) := by decide +kernel
theorem dX12_lay_43 : decode cX12_lay 43 = .ok (.iadd, 1) := by decide +kernel
theorem dX12_lay_44 : decode cX12_lay 44 = .ok (.aload_n 3, 1) := by decide +kernel
theorem dX12_lay_45 : decode cX12_lay 45 = .ok (.iload 4, 2) := by decide +kernel
theorem dX12_lay_47 : decode cX12_lay 47 = .ok (.iload 5, 2) := by decide +kernel
theorem dX12_lay_49 : decode cX12_lay 49 = .ok (.iadd, 1) := by decide +kernel
theorem dX12_lay_50 : decode cX12_lay 50 = .ok (.iaload, 1) := by decide +kernel
theorem dX12_lay_51 : decode cX12_lay 51 = .ok (.iastore, 1) := by decide +kernel
theorem dX12_lay_52 : decode cX12_lay 52 = .ok (.iinc 5 1, 3) := by decide +kernel
theorem dX12_lay_55 : decode cX12_lay 55 = .ok (.goto (-32), 3) := by decide +kernel
theorem dX12_lay_58 : decode cX12_lay 58 = .ok (.aload_n 0, 1) := by decide +kernel
theorem dX12_lay_59 : decode cX12_lay 59 = .ok (.dup, 1) := by decide +kernel
theorem dX12_lay_60 : decode cX12_lay 60 = .ok (.getfield 208, 3) := by decide +kernel
theorem dX12_lay_63 : decode cX12_lay 63 = .ok (.iconst 1, 1) := by decide +kernel
theorem dX12_lay_64 : decode cX12_lay 64 = .ok (.iadd, 1) := by decide +kernel
theorem dX12_lay_65 : decode cX12_lay 65 = .ok (.putfield 208, 3) := by decide +kernel
theorem dX12_lay_68 : decode cX12_lay 68 = .ok (.aload_n 0, 1) := by decide +kernel
theorem dX12_lay_69 : decode cX12_lay 69 = .ok (.getfield 208, 3) := by decide +kernel
theorem dX12_lay_72 : decode cX12_lay 72 = .ok (.iconst 1, 1) := by decide +kernel
theorem dX12_lay_73 : decode cX12_lay 73 = .ok (.if_icmp .le 127, 3) := by decide +kernel
theorem dX12_lay_76 : decode cX12_lay 76 = .ok (.aload_n 0, 1) := by decide +kernel
theorem dX12_lay_77 : decode cX12_lay 77 = .ok (.getfield 139, 3) := by decide +kernel
theorem dX12_lay_80 : decode cX12_lay 80 = .ok (.aload_n 0, 1) := by decide +kernel
theorem dX12_lay_81 : decode cX12_lay 81 = .ok (.getfield 208, 3) := by decide +kernel
theorem dX12_lay_84 : decode cX12_lay 84 = .ok (.iconst 1, 1) := by decide +kernel
theorem dX12_lay_85 : decode cX12_lay 85 = .ok (.isub, 1) := by decide +kernel
theorem dX12_lay_86 : decode cX12_lay 86 = .ok (.iaload, 1) := by decide +kernel
theorem dX12_lay_87 : decode cX12_lay 87 = .ok (.aload_n 0, 1) := by decide +kernel
theorem dX12_lay_88 : decode cX12_lay 88 = .ok (.getfield 139, 3) := by decide +kernel
theorem dX12_lay_91 : decode cX12_lay 91 = .ok (.aload_n 0, 1) := by decide +kernel
theorem dX12_lay_92 : decode cX12_lay 92 = .ok (.getfield 208, 3) := by decide +kernel
theorem dX12_lay_95 : decode cX12_lay 95 = .ok (.iconst 2, 1) := by decide +kernel
theorem dX12_lay_96 : decode cX12_lay 96 = .ok (.isub, 1) := by decide +kernel
theorem dX12_lay_97 : decode cX12_lay 97 = .ok (.iaload, 1) := by decide +kernel
theorem dX12_lay_98 : decode cX12_lay 98 = .ok (.if_icmp .ne 102, 3) := by decide +kernel
theorem dX12_lay_101 : decode cX12_lay 101 = .ok (.aload_n 0, 1) := by decide +kernel
theorem dX12_lay_102 : decode cX12_lay 102 = .ok (.getfield 136, 3) := by decide +kernel
theorem dX12_lay_105 : decode cX12_lay 105 = .ok (.aload_n 0, 1) := by decide +kernel
theorem dX12_lay_106 : decode cX12_lay 106 = .ok (.getfield 208, 3) := by decide +kernel
theorem dX12_lay_109 : decode cX12_lay 109 = .ok (.iconst 2, 1) := by decide +kernel
theorem dX12_lay_110 : decode cX12_lay 110 = .ok (.isub, 1) := by decide +kernel
theorem dX12_lay_111 : decode cX12_lay 111 = .ok (.iaload, 1) := by decide +kernel
theorem dX12_lay_112 : decode cX12_lay 112 = .ok (.iconst 2, 1) := by decide +kernel
theorem dX12_lay_113 : decode cX12_lay 113 = .ok (.aload_n 0, 1) := by decide +kernel
theorem dX12_lay_114 : decode cX12_lay 114 = .ok (.getfield 139, 3) := by decide +kernel
theorem dX12_lay_117 : decode cX12_lay 117 = .ok (.aload_n 0, 1) := by decide +kernel
theorem dX12_lay_118 : decode cX12_lay 118 = .ok (.getfield 208, 3) := by decide +kernel
theorem dX12_lay_121 : decode cX12_lay 121 = .ok (.iconst 1, 1) := by decide +kernel
theorem dX12_lay_122 : decode cX12_lay 122 = .ok (.isub, 1) := by decide +kernel
theorem dX12_lay_123 : decode cX12_lay 123 = .ok (.iaload, 1) := by decide +kernel
theorem dX12_lay_124 : decode cX12_lay 124 = .ok (.imul, 1) := by decide +kernel
theorem dX12_lay_125 : decode cX12_lay 125 = .ok (.irem, 1) := by decide +kernel
theorem dX12_lay_126 : decode cX12_lay 126 = .ok (.ifCond .ne 74, 3) := by decide +kernel
theorem dX12_lay_129 : decode cX12_lay 129 = .ok (.aload_n 0, 1) := by decide +kernel
theorem dX12_lay_130 : decode cX12_lay 130 = .ok (.aload_n 0, 1) := by decide +kernel
theorem dX12_lay_131 : decode cX12_lay 131 = .ok (.getfield 142, 3) := by decide +kernel
theorem dX12_lay_134 : decode cX12_lay 134 = .ok (.bipush 8, 2) := by decide +kernel
theorem dX12_lay_136 : decode cX12_lay 136 = .ok (.aload_n 0, 1) := by decide +kernel
theorem dX12_lay_137 : decode cX12_lay 137 = .ok (.getfield 208, 3) := by decide +kernel
theorem dX12_lay_140 : decode cX12_lay 140 = .ok (.iconst 2, 1) := by decide +kernel
theorem dX12_lay_141 : decode cX12_lay 141 = .ok (.isub, 1) := by decide +kernel
theorem dX12_lay_142 : decode cX12_lay 142 = .ok (.imul, 1) := by decide +kernel
theorem dX12_lay_143 : decode cX12_lay 143 = .ok (.aload_n 0, 1) := by decide +kernel
theorem dX12_lay_144 : decode cX12_lay 144 = .ok (.getfield 142, 3) := by decide +kernel
theorem dX12_lay_147 : decode cX12_lay 147 = .ok (.bipush 8, 2) := by decide +kernel
theorem dX12_lay_149 : decode cX12_lay 149 = .ok (.aload_n 0, 1) := by decide +kernel
theorem dX12_lay_150 : decode cX12_lay 150 = .ok (.getfield 208, 3) := by decide +kernel
theorem dX12_lay_153 : decode cX12_lay 153 = .ok (.iconst 1, 1) := by decide +kernel
theorem dX12_lay_154 : decode cX12_lay 154 = .ok (.isub, 1) := by decide +kernel
theorem dX12_lay_155 : decode cX12_lay 155 = .ok (.imul, 1) := by decide +kernel
theorem dX12_lay_156 : decode cX12_lay 156 = .ok (.aload_n 0, 1) := by decide +kernel
theorem dX12_lay_157 : decode cX12_lay 157 = .ok (.getfield 142, 3) := by decide +kernel
theorem dX12_lay_160 : decode cX12_lay 160 = .ok (.bipush 8, 2) := by decide +kernel
theorem dX12_lay_162 : decode cX12_lay 162 = .ok (.aload_n 0, 1) := by decide +kernel
theorem dX12_lay_163 : decode cX12_lay 163 = .ok (.getfield 208, 3) := by decide +kernel
theorem dX12_lay_166 : decode cX12_lay 166 = .ok (.iconst 2, 1) := by decide +kernel
theorem dX12_lay_167 : decode cX12_lay 167 = .ok (.isub, 1) := by decide +kernel
theorem dX12_lay_168 : decode cX12_lay 168 = .ok (.imul, 1) := by decide +kernel
theorem dX12_lay_169 : decode cX12_lay 169 = .ok (.invokevirtual 204, 3) := by decide +kernel
theorem dX12_lay_172 : decode cX12_lay 172 = .ok (.aload_n 0, 1) := by decide +kernel
theorem dX12_lay_173 : decode cX12_lay 173 = .ok (.getfield 139, 3) := by decide +kernel
theorem dX12_lay_176 : decode cX12_lay 176 = .ok (.aload_n 0, 1) := by decide +kernel
theorem dX12_lay_177 : decode cX12_lay 177 = .ok (.getfield 208, 3) := by decide +kernel
theorem dX12_lay_180 : decode cX12_lay 180 = .ok (.iconst 2, 1) := by decide +kernel
theorem dX12_lay_181 : decode cX12_lay 181 = .ok (.isub, 1) := by decide +kernel
theorem dX12_lay_182 : decode cX12_lay 182 = .ok (.dup2, 1) := by decide +kernel
theorem dX12_lay_183 : decode cX12_lay 183 = .ok (.iaload, 1) := by decide +kernel
theorem dX12_lay_184 : decode cX12_lay 184 = .ok (.iconst 2, 1) := by decide +kernel
theorem dX12_lay_185 : decode cX12_lay 185 = .ok (.imul, 1) := by decide +kernel
theorem dX12_lay_186 : decode cX12_lay 186 = .ok (.iastore, 1) := by decide +kernel
theorem dX12_lay_187 : decode cX12_lay 187 = .ok (.aload_n 0, 1) := by decide +kernel
theorem dX12_lay_188 : decode cX12_lay 188 = .ok (.dup, 1) := by decide +kernel
theorem dX12_lay_189 : decode cX12_lay 189 = .ok (.getfield 208, 3) := by decide +kernel
theorem dX12_lay_192 : decode cX12_lay 192 = .ok (.iconst 1, 1) := by decide +kernel
theorem dX12_lay_193 : decode cX12_lay 193 = .ok (.isub, 1) := by decide +kernel
theorem dX12_lay_194 : decode cX12_lay 194 = .ok (.putfield 208, 3) := by decide +kernel
theorem dX12_lay_197 : decode cX12_lay 197 = .ok (.goto (-129), 3) := by decide +kernel
theorem dX12_lay_200 : decode cX12_lay 200 = .ok (.return_, 1) := by decide +kernel
theorem dX12_top_0 : decode cX12_top 0 = .ok (.iconst 0, 1) := by decide +kernel
theorem dX12_top_1 : decode cX12_top 1 = .ok (.istore_n 3, 1) := by decide +kernel
theorem dX12_top_2 : decode cX12_top 2 = .ok (.iload_n 3, 1) := by decide +kernel
theorem dX12_top_3 : decode cX12_top 3 = .ok (.bipush 8, 2) := by decide +kernel
theorem dX12_top_5 : decode cX12_top 5 = .ok (.if_icmp .ge 15, 3) := by decide +kernel
theorem dX12_top_8 : decode cX12_top 8 = .ok (.aload_n 1, 1) := by decide +kernel
theorem dX12_top_9 : decode cX12_top 9 = .ok (.iload_n 2, 1) := by decide +kernel
theorem dX12_top_10 : decode cX12_top 10 = .ok (.iload_n 3, 1) := by decide +kernel
theorem dX12_top_11 : decode cX12_top 11 = .ok (.iadd, 1) := by decide +kernel
theorem dX12_top_12 : decode cX12_top 12 = .ok (.iconst 0, 1) := by decide +kernel
theorem dX12_top_13 : decode cX12_top 13 = .ok (.iastore, 1) := by decide +kernel
theorem dX12_top_14 : decode cX12_top 14 = .ok (.iinc 3 1, 3) := by decide +kernel
theorem dX12_top_17 : decode cX12_top 17 = .ok (.goto (-15), 3) := by decide +kernel
theorem dX12_top_20 : decode cX12_top 20 = .ok (.aload_n 0, 1) := by decide +kernel
theorem dX12_top_21 : decode cX12_top 21 = .ok (.getfield 208, 3) := by decide +kernel
theorem dX12_top_24 : decode cX12_top 24 = .ok (.ifCond .ne 4, 3) := by decide +kernel
theorem dX12_top_27 : decode cX12_top 27 = .ok (.return_, 1) := by decide +kernel
theorem dX12_top_28 : decode cX12_top 28 = .ok (.iconst 0, 1) := by decide +kernel
theorem dX12_top_29 : decode cX12_top 29 = .ok (.istore_n 3, 1) := by decide +kernel
theorem dX12_top_30 : decode cX12_top 30 = .ok (.iload_n 3, 1) := by decide +kernel
theorem dX12_top_31 : decode cX12_top 31 = .ok (.bipush 8, 2) := by decide +kernel
theorem dX12_top_33 : decode cX12_top 33 = .ok (.if_icmp .ge 31, 3) := by decide +kernel
theorem dX12_top_36 : decode cX12_top 36 = .ok (.aload_n 0, 1) := by decide +kernel
theorem dX12_top_37 : decode cX12_top 37 = .ok (.getfield 145, 3) := by decide +kernel
theorem dX12_top_40 : decode cX12_top 40 = .ok (.iload_n 3, 1) := by decide +kernel
theorem dX12_top_41 : decode cX12_top 41 = .ok (.aload_n 0, 1) := by decide +kernel
theorem dX12_top_42 : decode cX12_top 42 = .ok (.getfield 142, 3) := by decide +kernel
theorem dX12_top_45 : decode cX12_top 45 = .ok (.bipush 8, 2) := by decide +kernel
theorem dX12_top_47 : decode cX12_top 47 = .ok (.aload_n 0, 1) := by decide +kernel
theorem dX12_top_48 : decode cX12_top 48 = .ok (.getfield 208, 3) := by decide +kernel
theorem dX12_top_51 : decode cX12_top 51 = .ok (.iconst 1, 1) := by decide +kernel
theorem dX12_top_52 : decode cX12_top 52 = .ok (.isub, 1) := by decide +kernel
theorem dX12_top_53 : decode cX12_top 53 = .ok (.imul, 1) := by decide +kernel
theorem dX12_top_54 : decode cX12_top 54 = .ok (.iload_n 3, 1) := by decide +kernel
theorem dX12_top_55 : decode cX12_top 55 = .ok (.iadd, 1) := by decide +kernel
theorem dX12_top_56 : decode cX12_top 56 = .ok (.iaload, 1) := by decide +kernel
theorem dX12_top_57 : decode cX12_top 57 = .ok (.iastore, 1) := by decide +kernel
theorem dX12_top_58 : decode cX12_top 58 = .ok (.iinc 3 1, 3) := by decide +kernel
theorem dX12_top_61 : decode cX12_top 61 = .ok (.goto (-31), 3) := by decide +kernel
theorem dX12_top_64 : decode cX12_top 64 = .ok (.aload_n 0, 1) := by decide +kernel
theorem dX12_top_65 : decode cX12_top 65 = .ok (.getfield 208, 3) := by decide +kernel
theorem dX12_top_68 : decode cX12_top 68 = .ok (.iconst 2, 1) := by decide +kernel
theorem dX12_top_69 : decode cX12_top 69 = .ok (.isub, 1) := by decide +kernel
theorem dX12_top_70 : decode cX12_top 70 = .ok (.istore_n 3, 1) := by decide +kernel
theorem dX12_top_71 : decode cX12_top 71 = .ok (.iload_n 3, 1) := by decide +kernel
theorem dX12_top_72 : decode cX12_top 72 = .ok (.ifCond .lt 31, 3) := by decide +kernel
theorem dX12_top_75 : decode cX12_top 75 = .ok (.aload_n 0, 1) := by decide +kernel
theorem dX12_top_76 : decode cX12_top 76 = .ok (.aload_n 0, 1) := by decide +kernel
theorem dX12_top_77 : decode cX12_top 77 = .ok (.getfield 142, 3) := by decide +kernel
theorem dX12_top_80 : decode cX12_top 80 = .ok (.bipush 8, 2) := by decide +kernel
theorem dX12_top_82 : decode cX12_top 82 = .ok (.iload_n 3, 1) := by decide +kernel
theorem dX12_top_83 : decode cX12_top 83 = .ok (.imul, 1) := by decide +kernel
theorem dX12_top_84 : decode cX12_top 84 = .ok (.aload_n 0, 1) := by decide +kernel
theorem dX12_top_85 : decode cX12_top 85 = .ok (.getfield 145, 3) := by decide +kernel
theorem dX12_top_88 : decode cX12_top 88 = .ok (.iconst 0, 1) := by decide +kernel
theorem dX12_top_89 : decode cX12_top 89 = .ok (.aload_n 0, 1) := by decide +kernel
theorem dX12_top_90 : decode cX12_top 90 = .ok (.getfield 145, 3) := by decide +kernel
theorem dX12_top_93 : decode cX12_top 93 = .ok (.iconst 0, 1) := by decide +kernel
theorem dX12_top_94 : decode cX12_top 94 = .ok (.invokevirtual 204, 3) := by decide +kernel
theorem dX12_top_97 : decode cX12_top 97 = .ok (.iinc 3 (-1), 3) := by decide +kernel
theorem dX12_top_100 : decode cX12_top 100 = .ok (.goto (-29), 3) := by decide +kernel
theorem dX12_top_103 : decode cX12_top 103 = .ok (.iconst 0, 1) := by decide +kernel
theorem dX12_top_104 : decode cX12_top 104 = .ok (.istore_n 3, 1) := by decide +kernel
theorem dX12_top_105 : decode cX12_top 105 = .ok (.iload_n 3, 1) := by decide +kernel
theorem dX12_top_106 : decode cX12_top 106 = .ok (.bipush 8, 2) := by decide +kernel
theorem dX12_top_108 : decode cX12_top 108 = .ok (.if_icmp .ge 20, 3) := by decide +kernel
theorem dX12_top_111 : decode cX12_top 111 = .ok (.aload_n 1, 1) := by decide +kernel
theorem dX12_top_112 : decode cX12_top 112 = .ok (.iload_n 2, 1) := by decide +kernel
theorem dX12_top_113 : decode cX12_top 113 = .ok (.iload_n 3, 1) := by decide +kernel
theorem dX12_top_114 : decode cX12_top 114 = .ok (.iadd, 1) := by decide +kernel
theorem dX12_top_115 : decode cX12_top 115 = .ok (.aload_n 0, 1) := by decide +kernel
theorem dX12_top_116 : decode cX12_top 116 = .ok (.getfield 145, 3) := by decide +kernel
theorem dX12_top_119 : decode cX12_top 119 = .ok (.iload_n 3, 1) := by decide +kernel
theorem dX12_top_120 : decode cX12_top 120 = .ok (.iaload, 1) := by decide +kernel
theorem dX12_top_121 : decode cX12_top 121 = .ok (.iastore, 1) := by decide +kernel
theorem dX12_top_122 : decode cX12_top 122 = .ok (.iinc 3 1, 3) := by decide +kernel
theorem dX12_top_125 : decode cX12_top 125 = .ok (.goto (-20), 3) := by decide +kernel
theorem dX12_top_128 : decode cX12_top 128 = .ok (.return_, 1) := by decide +kernel
theorem dX12_layLog_0 : decode cX12_layLog 0 = .ok (.iload_n 2, 1) := by decide +kernel
theorem dX12_layLog_1 : decode cX12_layLog 1 = .ok (.istore 4, 2) := by decide +kernel
theorem dX12_layLog_3 : decode cX12_layLog 3 = .ok (.iload 4, 2) := by decide +kernel
theorem dX12_layLog_5 : decode cX12_layLog 5 = .ok (.iload_n 3, 1) := by decide +kernel
theorem dX12_layLog_6 : decode cX12_layLog 6 = .ok (.if_icmp .ge 49, 3) := by decide +kernel
theorem dX12_layLog_9 : decode cX12_layLog 9 = .ok (.iload 4, 2) := by decide +kernel
theorem dX12_layLog_11 : decode cX12_layLog 11 = .ok (.iload_n 3, 1) := by decide +kernel
theorem dX12_layLog_12 : decode cX12_layLog 12 = .ok (.invokestatic 212, 3) := by decide +kernel
theorem dX12_layLog_15 : decode cX12_layLog 15 = .ok (.istore 5, 2) := by decide +kernel
theorem dX12_layLog_17 : decode cX12_layLog 17 = .ok (.aload_n 0, 1) := by decide +kernel
theorem dX12_layLog_18 : decode cX12_layLog 18 = .ok (.iload_n 1, 1) := by decide +kernel
theorem dX12_layLog_19 : decode cX12_layLog 19 = .ok (.iload 4, 2) := by decide +kernel
theorem dX12_layLog_21 : decode cX12_layLog 21 = .ok (.iload 5, 2) := by decide +kernel
theorem dX12_layLog_23 : decode cX12_layLog 23 = .ok (.iconst 0, 1) := by decide +kernel
theorem dX12_layLog_24 : decode cX12_layLog 24 = .ok (.aload_n 0, 1) := by decide +kernel
theorem dX12_layLog_25 : decode cX12_layLog 25 = .ok (.getfield 148, 3) := by decide +kernel
theorem dX12_layLog_28 : decode cX12_layLog 28 = .ok (.iconst 0, 1) := by decide +kernel
theorem dX12_layLog_29 : decode cX12_layLog 29 = .ok (.invokevirtual 200, 3) := by decide +kernel
theorem dX12_layLog_32 : decode cX12_layLog 32 = .ok (.aload_n 0, 1) := by decide +kernel
theorem dX12_layLog_33 : decode cX12_layLog 33 = .ok (.iload 4, 2) := by decide +kernel
theorem dX12_layLog_35 : decode cX12_layLog 35 = .ok (.iload 5, 2) := by decide +kernel
theorem dX12_layLog_37 : decode cX12_layLog 37 = .ok (.aload_n 0, 1) := by decide +kernel
theorem dX12_layLog_38 : decode cX12_layLog 38 = .ok (.getfield 148, 3) := by decide +kernel
theorem dX12_layLog_41 : decode cX12_layLog 41 = .ok (.iconst 0, 1) := by decide +kernel
theorem dX12_layLog_42 : decode cX12_layLog 42 = .ok (.invokevirtual 216, 3) := by decide +kernel
theorem dX12_layLog_45 : decode cX12_layLog 45 = .ok (.iload 4, 2) := by decide +kernel
theorem dX12_layLog_47 : decode cX12_layLog 47 = .ok (.iload 5, 2) := by decide +kernel
theorem dX12_layLog_49 : decode cX12_layLog 49 = .ok (.iadd, 1) := by decide +kernel
theorem dX12_layLog_50 : decode cX12_layLog 50 = .ok (.istore 4, 2) := by decide +kernel
theorem dX12_layLog_52 : decode cX12_layLog 52 = .ok (.goto (-49), 3) := by decide +kernel
theorem dX12_layLog_55 : decode cX12_layLog 55 = .ok (.return_, 1) := by decide +kernel
theorem dX12_word_0 : decode cX12_word 0 = .ok (.aload_n 0, 1) := by decide +kernel
theorem dX12_word_1 : decode cX12_word 1 = .ok (.getfield 9, 3) := by decide +kernel
theorem dX12_word_4 : decode cX12_word 4 = .ok (.iconst 4, 1) := by decide +kernel
theorem dX12_word_5 : decode cX12_word 5 = .ok (.iload_n 1, 1) := by decide +kernel
theorem dX12_word_6 : decode cX12_word 6 = .ok (.imul, 1) := by decide +kernel
theorem dX12_word_7 : decode cX12_word 7 = .ok (.iconst 2, 1) := by decide +kernel
theorem dX12_word_8 : decode cX12_word 8 = .ok (.iadd, 1) := by decide +kernel
theorem dX12_word_9 : decode cX12_word 9 = .ok (.iaload, 1) := by decide +kernel
theorem dX12_word_10 : decode cX12_word 10 = .ok (.aload_n 0, 1) := by decide +kernel
theorem dX12_word_11 : decode cX12_word 11 = .ok (.getfield 9, 3) := by decide +kernel
theorem dX12_word_14 : decode cX12_word 14 = .ok (.iconst 4, 1) := by decide +kernel
theorem dX12_word_15 : decode cX12_word 15 = .ok (.iload_n 1, 1) := by decide +kernel
theorem dX12_word_16 : decode cX12_word 16 = .ok (.imul, 1) := by decide +kernel
theorem dX12_word_17 : decode cX12_word 17 = .ok (.iconst 3, 1) := by decide +kernel
theorem dX12_word_18 : decode cX12_word 18 = .ok (.iadd, 1) := by decide +kernel
theorem dX12_word_19 : decode cX12_word 19 = .ok (.iaload, 1) := by decide +kernel
theorem dX12_word_20 : decode cX12_word 20 = .ok (.iadd, 1) := by decide +kernel
theorem dX12_word_21 : decode cX12_word 21 = .ok (.istore_n 3, 1) := by decide +kernel
theorem dX12_word_22 : decode cX12_word 22 = .ok (.iconst 0, 1) := by decide +kernel
theorem dX12_word_23 : decode cX12_word 23 = .ok (.istore 4, 2) := by decide +kernel
theorem dX12_word_25 : decode cX12_word 25 = .ok (.iload 4, 2) := by decide +kernel
theorem dX12_word_27 : decode cX12_word 27 = .ok (.iload_n 3, 1) := by decide +kernel
theorem dX12_word_28 : decode cX12_word 28 = .ok (.if_icmp .ge 33, 3) := by decide +kernel
theorem dX12_word_31 : decode cX12_word 31 = .ok (.aload_n 0, 1) := by decide +kernel
theorem dX12_word_32 : decode cX12_word 32 = .ok (.getfield 27, 3) := by decide +kernel
theorem dX12_word_35 : decode cX12_word 35 = .ok (.bipush 100, 2) := by decide +kernel
theorem dX12_word_37 : decode cX12_word 37 = .ok (.iload_n 1, 1) := by decide +kernel
theorem dX12_word_38 : decode cX12_word 38 = .ok (.imul, 1) := by decide +kernel
theorem dX12_word_39 : decode cX12_word 39 = .ok (.iload 4, 2) := by decide +kernel
theorem dX12_word_41 : decode cX12_word 41 = .ok (.iadd, 1) := by decide +kernel
theorem dX12_word_42 : decode cX12_word 42 = .ok (.iaload, 1) := by decide +kernel
theorem dX12_word_43 : decode cX12_word 43 = .ok (.iload_n 2, 1) := by decide +kernel
theorem dX12_word_44 : decode cX12_word 44 = .ok (.if_icmp .ne 11, 3) := by decide +kernel
theorem dX12_word_47 : decode cX12_word 47 = .ok (.bipush 100, 2) := by decide +kernel
theorem dX12_word_49 : decode cX12_word 49 = .ok (.iload_n 1, 1) := by decide +kernel
theorem dX12_word_50 : decode cX12_word 50 = .ok (.imul, 1) := by decide +kernel
theorem dX12_word_51 : decode cX12_word 51 = .ok (.iload 4, 2) := by decide +kernel
theorem dX12_word_53 : decode cX12_word 53 = .ok (.iadd, 1) := by decide +kernel
theorem dX12_word_54 : decode cX12_word 54 = .ok (.ireturn, 1) := by decide +kernel
theorem dX12_word_55 : decode cX12_word 55 = .ok (.iinc 4 1, 3) := by decide +kernel
theorem dX12_word_58 : decode cX12_word 58 = .ok (.goto (-33), 3) := by decide +kernel
theorem dX12_word_61 : decode cX12_word 61 = .ok (.iconst (-1), 1) := by decide +kernel
theorem dX12_word_62 : decode cX12_word 62 = .ok (.ireturn, 1) := by decide +kernel
theorem dX12_counts_0 : decode cX12_counts 0 = .ok (.aload_n 0, 1) := by decide +kernel
theorem dX12_counts_1 : decode cX12_counts 1 = .ok (.iload_n 1, 1) := by decide +kernel
theorem dX12_counts_2 : decode cX12_counts 2 = .ok (.aload_n 0, 1) := by decide +kernel
theorem dX12_counts_3 : decode cX12_counts 3 = .ok (.getfield 13, 3) := by decide +kernel
theorem dX12_counts_6 : decode cX12_counts 6 = .ok (.sipush 400, 3) := by decide +kernel
theorem dX12_counts_9 : decode cX12_counts 9 = .ok (.iload_n 1, 1) := by decide +kernel
theorem dX12_counts_10 : decode cX12_counts 10 = .ok (.imul, 1) := by decide +kernel
theorem dX12_counts_11 : decode cX12_counts 11 = .ok (.iload_n 3, 1) := by decide +kernel
theorem dX12_counts_12 : decode cX12_counts 12 = .ok (.iadd, 1) := by decide +kernel
theorem dX12_counts_13 : decode cX12_counts 13 = .ok (.iaload, 1) := by decide +kernel
theorem dX12_counts_14 : decode cX12_counts 14 = .ok (.invokevirtual 220, 3) := by decide +kernel
theorem dX12_counts_17 : decode cX12_counts 17 = .ok (.istore 4, 2) := by decide +kernel
theorem dX12_counts_19 : decode cX12_counts 19 = .ok (.iload 4, 2) := by decide +kernel
theorem dX12_counts_21 : decode cX12_counts 21 = .ok (.iconst (-1), 1) := by decide +kernel
theorem dX12_counts_22 : decode cX12_counts 22 = .ok (.if_icmp .eq 14, 3) := by decide +kernel
theorem dX12_counts_25 : decode cX12_counts 25 = .ok (.iload_n 2, 1) := by decide +kernel
theorem dX12_counts_26 : decode cX12_counts 26 = .ok (.aload_n 0, 1) := by decide +kernel
theorem dX12_counts_27 : decode cX12_counts 27 = .ok (.getfield 30, 3) := by decide +kernel
theorem dX12_counts_30 : decode cX12_counts 30 = .ok (.iload 4, 2) := by decide +kernel
theorem dX12_counts_32 : decode cX12_counts 32 = .ok (.iaload, 1) := by decide +kernel
theorem dX12_counts_33 : decode cX12_counts 33 = .ok (.if_icmp .ge 5, 3) := by decide +kernel
theorem dX12_counts_36 : decode cX12_counts 36 = .ok (.iconst 1, 1) := by decide +kernel
theorem dX12_counts_37 : decode cX12_counts 37 = .ok (.ireturn, 1) := by decide +kernel
theorem dX12_counts_38 : decode cX12_counts 38 = .ok (.aload_n 0, 1) := by decide +kernel
theorem dX12_counts_39 : decode cX12_counts 39 = .ok (.getfield 33, 3) := by decide +kernel
theorem dX12_counts_42 : decode cX12_counts 42 = .ok (.iload 4, 2) := by decide +kernel
theorem dX12_counts_44 : decode cX12_counts 44 = .ok (.baload, 1) := by decide +kernel
theorem dX12_counts_45 : decode cX12_counts 45 = .ok (.ifCond .ne 18, 3) := by decide +kernel
theorem dX12_counts_48 : decode cX12_counts 48 = .ok (.iload_n 3, 1) := by decide +kernel
theorem dX12_counts_49 : decode cX12_counts 49 = .ok (.aload_n 0, 1) := by decide +kernel
theorem dX12_counts_50 : decode cX12_counts 50 = .ok (.getfield 30, 3) := by decide +kernel
theorem dX12_counts_53 : decode cX12_counts 53 = .ok (.iload 4, 2) := by decide +kernel
theorem dX12_counts_55 : decode cX12_counts 55 = .ok (.iaload, 1) := by decide +kernel
theorem dX12_counts_56 : decode cX12_counts 56 = .ok (.if_icmp .ge 7, 3) := by decide +kernel
theorem dX12_counts_59 : decode cX12_counts 59 = .ok (.iconst 1, 1) := by decide +kernel
theorem dX12_counts_60 : decode cX12_counts 60 = .ok (.goto 4, 3) := by decide +kernel
theorem dX12_counts_63 : decode cX12_counts 63 = .ok (.iconst 0, 1) := by decide +kernel
theorem dX12_counts_64 : decode cX12_counts 64 = .ok (.ireturn, 1) := by decide +kernel
theorem dX12_map_0 : decode cX12_map 0 = .ok (.aload_n 0, 1) := by decide +kernel
theorem dX12_map_1 : decode cX12_map 1 = .ok (.iconst 0, 1) := by decide +kernel
theorem dX12_map_2 : decode cX12_map 2 = .ok (.putfield 223, 3) := by decide +kernel
theorem dX12_map_5 : decode cX12_map 5 = .ok (.iconst 0, 1) := by decide +kernel
theorem dX12_map_6 : decode cX12_map 6 = .ok (.istore_n 3, 1) := by decide +kernel
theorem dX12_map_7 : decode cX12_map 7 = .ok (.iload_n 3, 1) := by decide +kernel
theorem dX12_map_8 : decode cX12_map 8 = .ok (.iload_n 2, 1) := by decide +kernel
theorem dX12_map_9 : decode cX12_map 9 = .ok (.if_icmp .ge 83, 3) := by decide +kernel
theorem dX12_map_12 : decode cX12_map 12 = .ok (.aload_n 0, 1) := by decide +kernel
theorem dX12_map_13 : decode cX12_map 13 = .ok (.iload_n 1, 1) := by decide +kernel
theorem dX12_map_14 : decode cX12_map 14 = .ok (.iload_n 2, 1) := by decide +kernel
theorem dX12_map_15 : decode cX12_map 15 = .ok (.iload_n 3, 1) := by decide +kernel
theorem dX12_map_16 : decode cX12_map 16 = .ok (.invokevirtual 226, 3) := by decide +kernel
theorem dX12_map_19 : decode cX12_map 19 = .ok (.ifCond .ne 6, 3) := by decide +kernel
theorem dX12_map_22 : decode cX12_map 22 = .ok (.goto 64, 3) := by decide +kernel
theorem dX12_map_25 : decode cX12_map 25 = .ok (.aload_n 0, 1) := by decide +kernel
theorem dX12_map_26 : decode cX12_map 26 = .ok (.getfield 13, 3) := by decide +kernel
theorem dX12_map_29 : decode cX12_map 29 = .ok (.sipush 400, 3) := by decide +kernel
theorem dX12_map_32 : decode cX12_map 32 = .ok (.iload_n 1, 1) := by decide +kernel
theorem dX12_map_33 : decode cX12_map 33 = .ok (.imul, 1) := by decide +kernel
theorem dX12_map_34 : decode cX12_map 34 = .ok (.iload_n 3, 1) := by decide +kernel
theorem dX12_map_35 : decode cX12_map 35 = .ok (.iadd, 1) := by decide +kernel
theorem dX12_map_36 : decode cX12_map 36 = .ok (.iaload, 1) := by decide +kernel
theorem dX12_map_37 : decode cX12_map 37 = .ok (.istore 4, 2) := by decide +kernel
theorem dX12_map_39 : decode cX12_map 39 = .ok (.aload_n 0, 1) := by decide +kernel
theorem dX12_map_40 : decode cX12_map 40 = .ok (.iload 4, 2) := by decide +kernel
theorem dX12_map_42 : decode cX12_map 42 = .ok (.invokevirtual 230, 3) := by decide +kernel
theorem dX12_map_45 : decode cX12_map 45 = .ok (.istore 5, 2) := by decide +kernel
theorem dX12_map_47 : decode cX12_map 47 = .ok (.iload 5, 2) := by decide +kernel
theorem dX12_map_49 : decode cX12_map 49 = .ok (.iconst (-1), 1) := by decide +kernel
theorem dX12_map_50 : decode cX12_map 50 = .ok (.if_icmp .ne 28, 3) := by decide +kernel
theorem dX12_map_53 : decode cX12_map 53 = .ok (.aload_n 0, 1) := by decide +kernel
theorem dX12_map_54 : decode cX12_map 54 = .ok (.getfield 223, 3) := by decide +kernel
theorem dX12_map_57 : decode cX12_map 57 = .ok (.istore 5, 2) := by decide +kernel
theorem dX12_map_59 : decode cX12_map 59 = .ok (.aload_n 0, 1) := by decide +kernel
theorem dX12_map_60 : decode cX12_map 60 = .ok (.getfield 151, 3) := by decide +kernel
theorem dX12_map_63 : decode cX12_map 63 = .ok (.iload 5, 2) := by decide +kernel
theorem dX12_map_65 : decode cX12_map 65 = .ok (.iload 4, 2) := by decide +kernel
theorem dX12_map_67 : decode cX12_map 67 = .ok (.iastore, 1) := by decide +kernel
theorem dX12_map_68 : decode cX12_map 68 = .ok (.aload_n 0, 1) := by decide +kernel
theorem dX12_map_69 : decode cX12_map 69 = .ok (.dup, 1) := by decide +kernel
theorem dX12_map_70 : decode cX12_map 70 = .ok (.getfield 223, 3) := by decide +kernel
theorem dX12_map_73 : decode cX12_map 73 = .ok (.iconst 1, 1) := by decide +kernel
theorem dX12_map_74 : decode cX12_map 74 = .ok (.iadd, 1) := by decide +kernel
theorem dX12_map_75 : decode cX12_map 75 = .ok (.putfield 223, 3) := by decide +kernel
theorem dX12_map_78 : decode cX12_map 78 = .ok (.aload_n 0, 1) := by decide +kernel
theorem dX12_map_79 : decode cX12_map 79 = .ok (.getfield 154, 3) := by decide +kernel
theorem dX12_map_82 : decode cX12_map 82 = .ok (.iload 5, 2) := by decide +kernel
theorem dX12_map_84 : decode cX12_map 84 = .ok (.iload_n 3, 1) := by decide +kernel
theorem dX12_map_85 : decode cX12_map 85 = .ok (.iastore, 1) := by decide +kernel
theorem dX12_map_86 : decode cX12_map 86 = .ok (.iinc 3 1, 3) := by decide +kernel
theorem dX12_map_89 : decode cX12_map 89 = .ok (.goto (-82), 3) := by decide +kernel
theorem dX12_map_92 : decode cX12_map 92 = .ok (.iconst 0, 1) := by decide +kernel
theorem dX12_map_93 : decode cX12_map 93 = .ok (.istore_n 3, 1) := by decide +kernel
theorem dX12_map_94 : decode cX12_map 94 = .ok (.iload_n 3, 1) := by decide +kernel
theorem dX12_map_95 : decode cX12_map 95 = .ok (.aload_n 0, 1) := by decide +kernel
theorem dX12_map_96 : decode cX12_map 96 = .ok (.getfield 223, 3) := by decide +kernel
theorem dX12_map_99 : decode cX12_map 99 = .ok (.if_icmp .ge 38, 3) := by decide +kernel
theorem dX12_map_102 : decode cX12_map 102 = .ok (.aload_n 0, 1) := by decide +kernel
theorem dX12_map_103 : decode cX12_map 103 = .ok (.getfield 160, 3) := by decide +kernel
theorem dX12_map_106 : decode cX12_map 106 = .ok (.iload_n 3, 1) := by decide +kernel
theorem dX12_map_107 : decode cX12_map 107 = .ok (.iload_n 3, 1) := by decide +kernel
theorem dX12_map_108 : decode cX12_map 108 = .ok (.iastore, 1) := by decide +kernel
theorem dX12_map_109 : decode cX12_map 109 = .ok (.aload_n 0, 1) := by decide +kernel
theorem dX12_map_110 : decode cX12_map 110 = .ok (.aload_n 0, 1) := by decide +kernel
theorem dX12_map_111 : decode cX12_map 111 = .ok (.getfield 151, 3) := by decide +kernel
theorem dX12_map_114 : decode cX12_map 114 = .ok (.iload_n 3, 1) := by decide +kernel
theorem dX12_map_115 : decode cX12_map 115 = .ok (.iaload, 1) := by decide +kernel
theorem dX12_map_116 : decode cX12_map 116 = .ok (.invokevirtual 234, 3) := by decide +kernel
theorem dX12_map_119 : decode cX12_map 119 = .ok (.aload_n 0, 1) := by decide +kernel
theorem dX12_map_120 : decode cX12_map 120 = .ok (.aload_n 0, 1) := by decide +kernel
theorem dX12_map_121 : decode cX12_map 121 = .ok (.getfield 157, 3) := by decide +kernel
theorem dX12_map_124 : decode cX12_map 124 = .ok (.bipush 8, 2) := by decide +kernel
theorem dX12_map_126 : decode cX12_map 126 = .ok (.iload_n 3, 1) := by decide +kernel
theorem dX12_map_127 : decode cX12_map 127 = .ok (.imul, 1) := by decide +kernel
theorem dX12_map_128 : decode cX12_map 128 = .ok (.invokevirtual 192, 3) := by decide +kernel
theorem dX12_map_131 : decode cX12_map 131 = .ok (.iinc 3 1, 3) := by decide +kernel
theorem dX12_map_134 : decode cX12_map 134 = .ok (.goto (-40), 3) := by decide +kernel
theorem dX12_map_137 : decode cX12_map 137 = .ok (.return_, 1) := by decide +kernel
theorem dX12_find_0 : decode cX12_find 0 = .ok (.iconst 0, 1) := by decide +kernel
theorem dX12_find_1 : decode cX12_find 1 = .ok (.istore_n 2, 1) := by decide +kernel
theorem dX12_find_2 : decode cX12_find 2 = .ok (.iload_n 2, 1) := by decide +kernel
theorem dX12_find_3 : decode cX12_find 3 = .ok (.aload_n 0, 1) := by decide +kernel
theorem dX12_find_4 : decode cX12_find 4 = .ok (.getfield 223, 3) := by decide +kernel
theorem dX12_find_7 : decode cX12_find 7 = .ok (.if_icmp .ge 21, 3) := by decide +kernel
theorem dX12_find_10 : decode cX12_find 10 = .ok (.aload_n 0, 1) := by decide +kernel
theorem dX12_find_11 : decode cX12_find 11 = .ok (.getfield 151, 3) := by decide +kernel
theorem dX12_find_14 : decode cX12_find 14 = .ok (.iload_n 2, 1) := by decide +kernel
theorem dX12_find_15 : decode cX12_find 15 = .ok (.iaload, 1) := by decide +kernel
theorem dX12_find_16 : decode cX12_find 16 = .ok (.iload_n 1, 1) := by decide +kernel
theorem dX12_find_17 : decode cX12_find 17 = .ok (.if_icmp .ne 5, 3) := by decide +kernel
theorem dX12_find_20 : decode cX12_find 20 = .ok (.iload_n 2, 1) := by decide +kernel
theorem dX12_find_21 : decode cX12_find 21 = .ok (.ireturn, 1) := by decide +kernel
theorem dX12_find_22 : decode cX12_find 22 = .ok (.iinc 2 1, 3) := by decide +kernel
theorem dX12_find_25 : decode cX12_find 25 = .ok (.goto (-23), 3) := by decide +kernel
theorem dX12_find_28 : decode cX12_find 28 = .ok (.iconst (-1), 1) := by decide +kernel
theorem dX12_find_29 : decode cX12_find 29 = .ok (.ireturn, 1) := by decide +kernel
theorem dX12_wayOf_0 : decode cX12_wayOf 0 = .ok (.aload_n 0, 1) := by decide +kernel
theorem dX12_wayOf_1 : decode cX12_wayOf 1 = .ok (.getfield 127, 3) := by decide +kernel
theorem dX12_wayOf_4 : decode cX12_wayOf 4 = .ok (.iconst 0, 1) := by decide +kernel
theorem dX12_wayOf_5 : decode cX12_wayOf 5 = .ok (.iconst 4, 1) := by decide +kernel
theorem dX12_wayOf_6 : decode cX12_wayOf 6 = .ok (.iastore, 1) := by decide +kernel
theorem dX12_wayOf_7 : decode cX12_wayOf 7 = .ok (.aload_n 0, 1) := by decide +kernel
theorem dX12_wayOf_8 : decode cX12_wayOf 8 = .ok (.getfield 127, 3) := by decide +kernel
theorem dX12_wayOf_11 : decode cX12_wayOf 11 = .ok (.iconst 1, 1) := by decide +kernel
theorem dX12_wayOf_12 : decode cX12_wayOf 12 = .ok (.iload_n 1, 1) := by decide +kernel
theorem dX12_wayOf_13 : decode cX12_wayOf 13 = .ok (.iastore, 1) := by decide +kernel
theorem dX12_wayOf_14 : decode cX12_wayOf 14 = .ok (.aload_n 0, 1) := by decide +kernel
theorem dX12_wayOf_15 : decode cX12_wayOf 15 = .ok (.iconst 2, 1) := by decide +kernel
theorem dX12_wayOf_16 : decode cX12_wayOf 16 = .ok (.invokevirtual 188, 3) := by decide +kernel
theorem dX12_wayOf_19 : decode cX12_wayOf 19 = .ok (.return_, 1) := by decide +kernel
theorem dX12_isOne_0 : decode cX12_isOne 0 = .ok (.aload_n 0, 1) := by decide +kernel
theorem dX12_isOne_1 : decode cX12_isOne 1 = .ok (.iload_n 1, 1) := by decide +kernel
theorem dX12_isOne_2 : decode cX12_isOne 2 = .ok (.iload_n 2, 1) := by decide +kernel
theorem dX12_isOne_3 : decode cX12_isOne 3 = .ok (.bipush 32, 2) := by decide +kernel
theorem dX12_isOne_5 : decode cX12_isOne 5 = .ok (.idiv, 1) := by decide +kernel
theorem dX12_isOne_6 : decode cX12_isOne 6 = .ok (.iadd, 1) := by decide +kernel
theorem dX12_isOne_7 : decode cX12_isOne 7 = .ok (.iaload, 1) := by decide +kernel
theorem dX12_isOne_8 : decode cX12_isOne 8 = .ok (.bipush 31, 2) := by decide +kernel
theorem dX12_isOne_10 : decode cX12_isOne 10 = .ok (.iload_n 2, 1) := by decide +kernel
theorem dX12_isOne_11 : decode cX12_isOne 11 = .ok (.bipush 32, 2) := by decide +kernel
theorem dX12_isOne_13 : decode cX12_isOne 13 = .ok (.irem, 1) := by decide +kernel
theorem dX12_isOne_14 : decode cX12_isOne 14 = .ok (.isub, 1) := by decide +kernel
theorem dX12_isOne_15 : decode cX12_isOne 15 = .ok (.iushr, 1) := by decide +kernel
theorem dX12_isOne_16 : decode cX12_isOne 16 = .ok (.iconst 1, 1) := by decide +kernel
theorem dX12_isOne_17 : decode cX12_isOne 17 = .ok (.iand, 1) := by decide +kernel
theorem dX12_isOne_18 : decode cX12_isOne 18 = .ok (.iconst 1, 1) := by decide +kernel
theorem dX12_isOne_19 : decode cX12_isOne 19 = .ok (.if_icmp .ne 7, 3) := by decide +kernel
theorem dX12_isOne_22 : decode cX12_isOne 22 = .ok (.iconst 1, 1) := by decide +kernel
theorem dX12_isOne_23 : decode cX12_isOne 23 = .ok (.goto 4, 3) := by decide +kernel
theorem dX12_isOne_26 : decode cX12_isOne 26 = .ok (.iconst 0, 1) := by decide +kernel
theorem dX12_isOne_27 : decode cX12_isOne 27 = .ok (.ireturn, 1) := by decide +kernel
theorem dX12_part_0 : decode cX12_part 0 = .ok (.iload_n 1, 1) := by decide +kernel
theorem dX12_part_1 : decode cX12_part 1 = .ok (.istore 4, 2) := by decide +kernel
theorem dX12_part_3 : decode cX12_part 3 = .ok (.iconst 0, 1) := by decide +kernel
theorem dX12_part_4 : decode cX12_part 4 = .ok (.istore 5, 2) := by decide +kernel
theorem dX12_part_6 : decode cX12_part 6 = .ok (.iload_n 1, 1) := by decide +kernel
theorem dX12_part_7 : decode cX12_part 7 = .ok (.istore 6, 2) := by decide +kernel
theorem dX12_part_9 : decode cX12_part 9 = .ok (.iload 6, 2) := by decide +kernel
theorem dX12_part_11 : decode cX12_part 11 = .ok (.iload_n 2, 1) := by decide +kernel
theorem dX12_part_12 : decode cX12_part 12 = .ok (.if_icmp .ge 67, 3) := by decide +kernel
theorem dX12_part_15 : decode cX12_part 15 = .ok (.aload_n 0, 1) := by decide +kernel
theorem dX12_part_16 : decode cX12_part 16 = .ok (.getfield 157, 3) := by decide +kernel
theorem dX12_part_19 : decode cX12_part 19 = .ok (.bipush 8, 2) := by decide +kernel
theorem dX12_part_21 : decode cX12_part 21 = .ok (.aload_n 0, 1) := by decide +kernel
theorem dX12_part_22 : decode cX12_part 22 = .ok (.getfield 160, 3) := by decide +kernel
theorem dX12_part_25 : decode cX12_part 25 = .ok (.iload 6, 2) := by decide +kernel
theorem dX12_part_27 : decode cX12_part 27 = .ok (.iaload, 1) := by decide +kernel
theorem dX12_part_28 : decode cX12_part 28 = .ok (.imul, 1) := by decide +kernel
theorem dX12_part_29 : decode cX12_part 29 = .ok (.iload_n 3, 1) := by decide +kernel
theorem dX12_part_30 : decode cX12_part 30 = .ok (.invokestatic 237, 3) := by decide +kernel
theorem dX12_part_33 : decode cX12_part 33 = .ok (.ifCond .eq 23, 3) := by decide +kernel
theorem dX12_part_36 : decode cX12_part 36 = .ok (.aload_n 0, 1) := by decide +kernel
theorem dX12_part_37 : decode cX12_part 37 = .ok (.getfield 163, 3) := by decide +kernel
theorem dX12_part_40 : decode cX12_part 40 = .ok (.iload 5, 2) := by decide +kernel
theorem dX12_part_42 : decode cX12_part 42 = .ok (.aload_n 0, 1) := by decide +kernel
theorem dX12_part_43 : decode cX12_part 43 = .ok (.getfield 160, 3) := by decide +kernel
theorem dX12_part_46 : decode cX12_part 46 = .ok (.iload 6, 2) := by decide +kernel
theorem dX12_part_48 : decode cX12_part 48 = .ok (.iaload, 1) := by decide +kernel
theorem dX12_part_49 : decode cX12_part 49 = .ok (.iastore, 1) := by decide +kernel
theorem dX12_part_50 : decode cX12_part 50 = .ok (.iinc 5 1, 3) := by decide +kernel
theorem dX12_part_53 : decode cX12_part 53 = .ok (.goto 20, 3) := by decide +kernel
theorem dX12_part_56 : decode cX12_part 56 = .ok (.aload_n 0, 1) := by decide +kernel
theorem dX12_part_57 : decode cX12_part 57 = .ok (.getfield 160, 3) := by decide +kernel
theorem dX12_part_60 : decode cX12_part 60 = .ok (.iload 4, 2) := by decide +kernel
theorem dX12_part_62 : decode cX12_part 62 = .ok (.aload_n 0, 1) := by decide +kernel
theorem dX12_part_63 : decode cX12_part 63 = .ok (.getfield 160, 3) := by decide +kernel
theorem dX12_part_66 : decode cX12_part 66 = .ok (.iload 6, 2) := by decide +kernel
theorem dX12_part_68 : decode cX12_part 68 = .ok (.iaload, 1) := by decide +kernel
theorem dX12_part_69 : decode cX12_part 69 = .ok (.iastore, 1) := by decide +kernel
theorem dX12_part_70 : decode cX12_part 70 = .ok (.iinc 4 1, 3) := by decide +kernel
theorem dX12_part_73 : decode cX12_part 73 = .ok (.iinc 6 1, 3) := by decide +kernel
theorem dX12_part_76 : decode cX12_part 76 = .ok (.goto (-67), 3) := by decide +kernel
theorem dX12_part_79 : decode cX12_part 79 = .ok (.iconst 0, 1) := by decide +kernel
theorem dX12_part_80 : decode cX12_part 80 = .ok (.istore 6, 2) := by decide +kernel
theorem dX12_part_82 : decode cX12_part 82 = .ok (.iload 6, 2) := by decide +kernel
theorem dX12_part_84 : decode cX12_part 84 = .ok (.iload 5, 2) := by decide +kernel
theorem dX12_part_86 : decode cX12_part 86 = .ok (.if_icmp .ge 26, 3) := by decide +kernel
theorem dX12_part_89 : decode cX12_part 89 = .ok (.aload_n 0, 1) := by decide +kernel
theorem dX12_part_90 : decode cX12_part 90 = .ok (.getfield 160, 3) := by decide +kernel
theorem dX12_part_93 : decode cX12_part 93 = .ok (.iload 4, 2) := by decide +kernel
theorem dX12_part_95 : decode cX12_part 95 = .ok (.iload 6, 2) := by decide +kernel
theorem dX12_part_97 : decode cX12_part 97 = .ok (.iadd, 1) := by decide +kernel
theorem dX12_part_98 : decode cX12_part 98 = .ok (.aload_n 0, 1) := by decide +kernel
theorem dX12_part_99 : decode cX12_part 99 = .ok (.getfield 163, 3) := by decide +kernel
theorem dX12_part_102 : decode cX12_part 102 = .ok (.iload 6, 2) := by decide +kernel
theorem dX12_part_104 : decode cX12_part 104 = .ok (.iaload, 1) := by decide +kernel
theorem dX12_part_105 : decode cX12_part 105 = .ok (.iastore, 1) := by decide +kernel
theorem dX12_part_106 : decode cX12_part 106 = .ok (.iinc 6 1, 3) := by decide +kernel
theorem dX12_part_109 : decode cX12_part 109 = .ok (.goto (-27), 3) := by decide +kernel
theorem dX12_part_112 : decode cX12_part 112 = .ok (.iload 4, 2) := by decide +kernel
theorem dX12_part_114 : decode cX12_part 114 = .ok (.ireturn, 1) := by decide +kernel
theorem dX12_leaf_0 : decode cX12_leaf 0 = .ok (.aload_n 0, 1) := by decide +kernel
theorem dX12_leaf_1 : decode cX12_leaf 1 = .ok (.getfield 127, 3) := by decide +kernel
theorem dX12_leaf_4 : decode cX12_leaf 4 = .ok (.iconst 0, 1) := by decide +kernel
theorem dX12_leaf_5 : decode cX12_leaf 5 = .ok (.iconst 5, 1) := by decide +kernel
theorem dX12_leaf_6 : decode cX12_leaf 6 = .ok (.iastore, 1) := by decide +kernel
theorem dX12_leaf_7 : decode cX12_leaf 7 = .ok (.aload_n 0, 1) := by decide +kernel
theorem dX12_leaf_8 : decode cX12_leaf 8 = .ok (.getfield 127, 3) := by decide +kernel
theorem dX12_leaf_11 : decode cX12_leaf 11 = .ok (.iconst 1, 1) := by decide +kernel
theorem dX12_leaf_12 : decode cX12_leaf 12 = .ok (.iload_n 1, 1) := by decide +kernel
theorem dX12_leaf_13 : decode cX12_leaf 13 = .ok (.iastore, 1) := by decide +kernel
theorem dX12_leaf_14 : decode cX12_leaf 14 = .ok (.aload_n 0, 1) := by decide +kernel
theorem dX12_leaf_15 : decode cX12_leaf 15 = .ok (.getfield 127, 3) := by decide +kernel
theorem dX12_leaf_18 : decode cX12_leaf 18 = .ok (.iconst 2, 1) := by decide +kernel
theorem dX12_leaf_19 : decode cX12_leaf 19 = .ok (.iload_n 2, 1) := by decide +kernel
theorem dX12_leaf_20 : decode cX12_leaf 20 = .ok (.iastore, 1) := by decide +kernel
theorem dX12_leaf_21 : decode cX12_leaf 21 = .ok (.aload_n 0, 1) := by decide +kernel
theorem dX12_leaf_22 : decode cX12_leaf 22 = .ok (.iconst 3, 1) := by decide +kernel
theorem dX12_leaf_23 : decode cX12_leaf 23 = .ok (.invokevirtual 188, 3) := by decide +kernel
theorem dX12_leaf_26 : decode cX12_leaf 26 = .ok (.return_, 1) := by decide +kernel
theorem dX12_tree_0 : decode cX12_tree 0 = .ok (.iload_n 1, 1) := by decide +kernel
theorem dX12_tree_1 : decode cX12_tree 1 = .ok (.iload_n 2, 1) := by decide +kernel
theorem dX12_tree_2 : decode cX12_tree 2 = .ok (.if_icmp .ne 29, 3) := by decide +kernel
theorem dX12_tree_5 : decode cX12_tree 5 = .ok (.iconst 0, 1) := by decide +kernel
theorem dX12_tree_6 : decode cX12_tree 6 = .ok (.istore 6, 2) := by decide +kernel
theorem dX12_tree_8 : decode cX12_tree 8 = .ok (.iload 6, 2) := by decide +kernel
theorem dX12_tree_10 : decode cX12_tree 10 = .ok (.bipush 8, 2) := by decide +kernel
theorem dX12_tree_12 : decode cX12_tree 12 = .ok (.if_icmp .ge 18, 3) := by decide +kernel
theorem dX12_tree_15 : decode cX12_tree 15 = .ok (.aload 4, 2) := by decide +kernel
theorem dX12_tree_17 : decode cX12_tree 17 = .ok (.iload 5, 2) := by decide +kernel
theorem dX12_tree_19 : decode cX12_tree 19 = .ok (.iload 6, 2) := by decide +kernel
theorem dX12_tree_21 : decode cX12_tree 21 = .ok (.iadd, 1) := by decide +kernel
theorem dX12_tree_22 : decode cX12_tree 22 = .ok (.iconst 0, 1) := by decide +kernel
theorem dX12_tree_23 : decode cX12_tree 23 = .ok (.iastore, 1) := by decide +kernel
theorem dX12_tree_24 : decode cX12_tree 24 = .ok (.iinc 6 1, 3) := by decide +kernel
theorem dX12_tree_27 : decode cX12_tree 27 = .ok (.goto (-19), 3) := by decide +kernel
theorem dX12_tree_30 : decode cX12_tree 30 = .ok (.return_, 1) := by decide +kernel
theorem dX12_tree_31 : decode cX12_tree 31 = .ok (.iload_n 2, 1) := by decide +kernel
theorem dX12_tree_32 : decode cX12_tree 32 = .ok (.iload_n 1, 1) := by decide +kernel
theorem dX12_tree_33 : decode cX12_tree 33 = .ok (.isub, 1) := by decide +kernel
theorem dX12_tree_34 : decode cX12_tree 34 = .ok (.iconst 1, 1) := by decide +kernel
theorem dX12_tree_35 : decode cX12_tree 35 = .ok (.if_icmp .ne 38, 3) := by decide +kernel
theorem dX12_tree_38 : decode cX12_tree 38 = .ok (.aload_n 0, 1) := by decide +kernel
theorem dX12_tree_39 : decode cX12_tree 39 = .ok (.aload_n 0, 1) := by decide +kernel
theorem dX12_tree_40 : decode cX12_tree 40 = .ok (.getfield 151, 3) := by decide +kernel
theorem dX12_tree_43 : decode cX12_tree 43 = .ok (.aload_n 0, 1) := by decide +kernel
theorem dX12_tree_44 : decode cX12_tree 44 = .ok (.getfield 160, 3) := by decide +kernel
theorem dX12_tree_47 : decode cX12_tree 47 = .ok (.iload_n 1, 1) := by decide +kernel
theorem dX12_tree_48 : decode cX12_tree 48 = .ok (.iaload, 1) := by decide +kernel
theorem dX12_tree_49 : decode cX12_tree 49 = .ok (.iaload, 1) := by decide +kernel
theorem dX12_tree_50 : decode cX12_tree 50 = .ok (.aload_n 0, 1) := by decide +kernel
theorem dX12_tree_51 : decode cX12_tree 51 = .ok (.getfield 154, 3) := by decide +kernel
theorem dX12_tree_54 : decode cX12_tree 54 = .ok (.aload_n 0, 1) := by decide +kernel
theorem dX12_tree_55 : decode cX12_tree 55 = .ok (.getfield 160, 3) := by decide +kernel
theorem dX12_tree_58 : decode cX12_tree 58 = .ok (.iload_n 1, 1) := by decide +kernel
theorem dX12_tree_59 : decode cX12_tree 59 = .ok (.iaload, 1) := by decide +kernel
theorem dX12_tree_60 : decode cX12_tree 60 = .ok (.iaload, 1) := by decide +kernel
theorem dX12_tree_61 : decode cX12_tree 61 = .ok (.invokevirtual 241, 3) := by decide +kernel
theorem dX12_tree_64 : decode cX12_tree 64 = .ok (.aload_n 0, 1) := by decide +kernel
theorem dX12_tree_65 : decode cX12_tree 65 = .ok (.aload 4, 2) := by decide +kernel
theorem dX12_tree_67 : decode cX12_tree 67 = .ok (.iload 5, 2) := by decide +kernel
theorem dX12_tree_69 : decode cX12_tree 69 = .ok (.invokevirtual 192, 3) := by decide +kernel
theorem dX12_tree_72 : decode cX12_tree 72 = .ok (.return_, 1) := by decide +kernel
theorem dX12_tree_73 : decode cX12_tree 73 = .ok (.aload_n 0, 1) := by decide +kernel
theorem dX12_tree_74 : decode cX12_tree 74 = .ok (.iload_n 1, 1) := by decide +kernel
theorem dX12_tree_75 : decode cX12_tree 75 = .ok (.iload_n 2, 1) := by decide +kernel
theorem dX12_tree_76 : decode cX12_tree 76 = .ok (.iload_n 3, 1) := by decide +kernel
theorem dX12_tree_77 : decode cX12_tree 77 = .ok (.invokevirtual 245, 3) := by decide +kernel
theorem dX12_tree_80 : decode cX12_tree 80 = .ok (.istore 6, 2) := by decide +kernel
theorem dX12_tree_82 : decode cX12_tree 82 = .ok (.aload_n 0, 1) := by decide +kernel
theorem dX12_tree_83 : decode cX12_tree 83 = .ok (.iload_n 1, 1) := by decide +kernel
theorem dX12_tree_84 : decode cX12_tree 84 = .ok (.iload 6, 2) := by decide +kernel
theorem dX12_tree_86 : decode cX12_tree 86 = .ok (.iload_n 3, 1) := by decide +kernel
theorem dX12_tree_87 : decode cX12_tree 87 = .ok (.iconst 1, 1) := by decide +kernel
theorem dX12_tree_88 : decode cX12_tree 88 = .ok (.iadd, 1) := by decide +kernel
theorem dX12_tree_89 : decode cX12_tree 89 = .ok (.aload_n 0, 1) := by decide +kernel
theorem dX12_tree_90 : decode cX12_tree 90 = .ok (.getfield 166, 3) := by decide +kernel
theorem dX12_tree_93 : decode cX12_tree 93 = .ok (.bipush 16, 2) := by decide +kernel
theorem dX12_tree_95 : decode cX12_tree 95 = .ok (.iload_n 3, 1) := by decide +kernel
theorem dX12_tree_96 : decode cX12_tree 96 = .ok (.imul, 1) := by decide +kernel
theorem dX12_tree_97 : decode cX12_tree 97 = .ok (.invokevirtual 249, 3) := by decide +kernel
theorem dX12_tree_100 : decode cX12_tree 100 = .ok (.aload_n 0, 1) := by decide +kernel
theorem dX12_tree_101 : decode cX12_tree 101 = .ok (.iload 6, 2) := by decide +kernel
theorem dX12_tree_103 : decode cX12_tree 103 = .ok (.iload_n 2, 1) := by decide +kernel
theorem dX12_tree_104 : decode cX12_tree 104 = .ok (.iload_n 3, 1) := by decide +kernel
theorem dX12_tree_105 : decode cX12_tree 105 = .ok (.iconst 1, 1) := by decide +kernel
theorem dX12_tree_106 : decode cX12_tree 106 = .ok (.iadd, 1) := by decide +kernel
theorem dX12_tree_107 : decode cX12_tree 107 = .ok (.aload_n 0, 1) := by decide +kernel
theorem dX12_tree_108 : decode cX12_tree 108 = .ok (.getfield 166, 3) := by decide +kernel
theorem dX12_tree_111 : decode cX12_tree 111 = .ok (.bipush 16, 2) := by decide +kernel
theorem dX12_tree_113 : decode cX12_tree 113 = .ok (.iload_n 3, 1) := by decide +kernel
theorem dX12_tree_114 : decode cX12_tree 114 = .ok (.imul, 1) := by decide +kernel
theorem dX12_tree_115 : decode cX12_tree 115 = .ok (.bipush 8, 2) := by decide +kernel
theorem dX12_tree_117 : decode cX12_tree 117 = .ok (.iadd, 1) := by decide +kernel
theorem dX12_tree_118 : decode cX12_tree 118 = .ok (.invokevirtual 249, 3) := by decide +kernel
theorem dX12_tree_121 : decode cX12_tree 121 = .ok (.aload_n 0, 1) := by decide +kernel
theorem dX12_tree_122 : decode cX12_tree 122 = .ok (.aload_n 0, 1) := by decide +kernel
theorem dX12_tree_123 : decode cX12_tree 123 = .ok (.getfield 166, 3) := by decide +kernel
theorem dX12_tree_126 : decode cX12_tree 126 = .ok (.bipush 16, 2) := by decide +kernel
theorem dX12_tree_128 : decode cX12_tree 128 = .ok (.iload_n 3, 1) := by decide +kernel
theorem dX12_tree_129 : decode cX12_tree 129 = .ok (.imul, 1) := by decide +kernel
theorem dX12_tree_130 : decode cX12_tree 130 = .ok (.aload_n 0, 1) := by decide +kernel
theorem dX12_tree_131 : decode cX12_tree 131 = .ok (.getfield 166, 3) := by decide +kernel
theorem dX12_tree_134 : decode cX12_tree 134 = .ok (.bipush 16, 2) := by decide +kernel
theorem dX12_tree_136 : decode cX12_tree 136 = .ok (.iload_n 3, 1) := by decide +kernel
theorem dX12_tree_137 : decode cX12_tree 137 = .ok (.imul, 1) := by decide +kernel
theorem dX12_tree_138 : decode cX12_tree 138 = .ok (.bipush 8, 2) := by decide +kernel
theorem dX12_tree_140 : decode cX12_tree 140 = .ok (.iadd, 1) := by decide +kernel
theorem dX12_tree_141 : decode cX12_tree 141 = .ok (.aload 4, 2) := by decide +kernel
theorem dX12_tree_143 : decode cX12_tree 143 = .ok (.iload 5, 2) := by decide +kernel
theorem dX12_tree_145 : decode cX12_tree 145 = .ok (.invokevirtual 204, 3) := by decide +kernel
theorem dX12_tree_148 : decode cX12_tree 148 = .ok (.return_, 1) := by decide +kernel
theorem dX12_mark_0 : decode cX12_mark 0 = .ok (.aload_n 0, 1) := by decide +kernel
theorem dX12_mark_1 : decode cX12_mark 1 = .ok (.getfield 127, 3) := by decide +kernel
theorem dX12_mark_4 : decode cX12_mark 4 = .ok (.iconst 0, 1) := by decide +kernel
theorem dX12_mark_5 : decode cX12_mark 5 = .ok (.bipush 6, 2) := by decide +kernel
theorem dX12_mark_7 : decode cX12_mark 7 = .ok (.iastore, 1) := by decide +kernel
theorem dX12_mark_8 : decode cX12_mark 8 = .ok (.aload_n 0, 1) := by decide +kernel
theorem dX12_mark_9 : decode cX12_mark 9 = .ok (.getfield 127, 3) := by decide +kernel
theorem dX12_mark_12 : decode cX12_mark 12 = .ok (.iconst 1, 1) := by decide +kernel
theorem dX12_mark_13 : decode cX12_mark 13 = .ok (.iload_n 1, 1) := by decide +kernel
theorem dX12_mark_14 : decode cX12_mark 14 = .ok (.iastore, 1) := by decide +kernel
theorem dX12_mark_15 : decode cX12_mark 15 = .ok (.aload_n 0, 1) := by decide +kernel
theorem dX12_mark_16 : decode cX12_mark 16 = .ok (.getfield 127, 3) := by decide +kernel
theorem dX12_mark_19 : decode cX12_mark 19 = .ok (.iconst 2, 1) := by decide +kernel
theorem dX12_mark_20 : decode cX12_mark 20 = .ok (.ldc 253, 2) := by decide +kernel
theorem dX12_mark_22 : decode cX12_mark 22 = .ok (.iload_n 1, 1) := by decide +kernel
theorem dX12_mark_23 : decode cX12_mark 23 = .ok (.imul, 1) := by decide +kernel
theorem dX12_mark_24 : decode cX12_mark 24 = .ok (.bipush 77, 2) := by decide +kernel
theorem dX12_mark_26 : decode cX12_mark 26 = .ok (.iadd, 1) := by decide +kernel
theorem dX12_mark_27 : decode cX12_mark 27 = .ok (.iastore, 1) := by decide +kernel
theorem dX12_mark_28 : decode cX12_mark 28 = .ok (.aload_n 0, 1) := by decide +kernel
theorem dX12_mark_29 : decode cX12_mark 29 = .ok (.getfield 127, 3) := by decide +kernel
theorem dX12_mark_32 : decode cX12_mark 32 = .ok (.iconst 3, 1) := by decide +kernel
theorem dX12_mark_33 : decode cX12_mark 33 = .ok (.iload_n 2, 1) := by decide +kernel
theorem dX12_mark_34 : decode cX12_mark 34 = .ok (.iastore, 1) := by decide +kernel
theorem dX12_mark_35 : decode cX12_mark 35 = .ok (.iconst 0, 1) := by decide +kernel
theorem dX12_mark_36 : decode cX12_mark 36 = .ok (.istore 6, 2) := by decide +kernel
theorem dX12_mark_38 : decode cX12_mark 38 = .ok (.iload 6, 2) := by decide +kernel
theorem dX12_mark_40 : decode cX12_mark 40 = .ok (.bipush 8, 2) := by decide +kernel
theorem dX12_mark_42 : decode cX12_mark 42 = .ok (.if_icmp .ge 42, 3) := by decide +kernel
theorem dX12_mark_45 : decode cX12_mark 45 = .ok (.aload_n 0, 1) := by decide +kernel
theorem dX12_mark_46 : decode cX12_mark 46 = .ok (.getfield 127, 3) := by decide +kernel
theorem dX12_mark_49 : decode cX12_mark 49 = .ok (.iconst 4, 1) := by decide +kernel
theorem dX12_mark_50 : decode cX12_mark 50 = .ok (.iload 6, 2) := by decide +kernel
theorem dX12_mark_52 : decode cX12_mark 52 = .ok (.iadd, 1) := by decide +kernel
theorem dX12_mark_53 : decode cX12_mark 53 = .ok (.aload_n 3, 1) := by decide +kernel
theorem dX12_mark_54 : decode cX12_mark 54 = .ok (.iload 4, 2) := by decide +kernel
theorem dX12_mark_56 : decode cX12_mark 56 = .ok (.iload 6, 2) := by decide +kernel
theorem dX12_mark_58 : decode cX12_mark 58 = .ok (.iadd, 1) := by decide +kernel
theorem dX12_mark_59 : decode cX12_mark 59 = .ok (.iaload, 1) := by decide +kernel
theorem dX12_mark_60 : decode cX12_mark 60 = .ok (.iastore, 1) := by decide +kernel
theorem dX12_mark_61 : decode cX12_mark 61 = .ok (.aload_n 0, 1) := by decide +kernel
theorem dX12_mark_62 : decode cX12_mark 62 = .ok (.getfield 127, 3) := by decide +kernel
theorem dX12_mark_65 : decode cX12_mark 65 = .ok (.bipush 12, 2) := by decide +kernel
theorem dX12_mark_67 : decode cX12_mark 67 = .ok (.iload 6, 2) := by decide +kernel
theorem dX12_mark_69 : decode cX12_mark 69 = .ok (.iadd, 1) := by decide +kernel
theorem dX12_mark_70 : decode cX12_mark 70 = .ok (.aload_n 3, 1) := by decide +kernel
theorem dX12_mark_71 : decode cX12_mark 71 = .ok (.iload 5, 2) := by decide +kernel
theorem dX12_mark_73 : decode cX12_mark 73 = .ok (.iload 6, 2) := by decide +kernel
theorem dX12_mark_75 : decode cX12_mark 75 = .ok (.iadd, 1) := by decide +kernel
theorem dX12_mark_76 : decode cX12_mark 76 = .ok (.iaload, 1) := by decide +kernel
theorem dX12_mark_77 : decode cX12_mark 77 = .ok (.iastore, 1) := by decide +kernel
theorem dX12_mark_78 : decode cX12_mark 78 = .ok (.iinc 6 1, 3) := by decide +kernel
theorem dX12_mark_81 : decode cX12_mark 81 = .ok (.goto (-43), 3) := by decide +kernel
theorem dX12_mark_84 : decode cX12_mark 84 = .ok (.aload_n 0, 1) := by decide +kernel
theorem dX12_mark_85 : decode cX12_mark 85 = .ok (.bipush 20, 2) := by decide +kernel
theorem dX12_mark_87 : decode cX12_mark 87 = .ok (.invokevirtual 188, 3) := by decide +kernel
theorem dX12_mark_90 : decode cX12_mark 90 = .ok (.return_, 1) := by decide +kernel
theorem dX12_head_0 : decode cX12_head 0 = .ok (.aload_n 3, 1) := by decide +kernel
theorem dX12_head_1 : decode cX12_head 1 = .ok (.iload 4, 2) := by decide +kernel
theorem dX12_head_3 : decode cX12_head 3 = .ok (.iload_n 2, 1) := by decide +kernel
theorem dX12_head_4 : decode cX12_head 4 = .ok (.iastore, 1) := by decide +kernel
theorem dX12_head_5 : decode cX12_head 5 = .ok (.aload_n 3, 1) := by decide +kernel
theorem dX12_head_6 : decode cX12_head 6 = .ok (.iload 4, 2) := by decide +kernel
theorem dX12_head_8 : decode cX12_head 8 = .ok (.iconst 1, 1) := by decide +kernel
theorem dX12_head_9 : decode cX12_head 9 = .ok (.iadd, 1) := by decide +kernel
theorem dX12_head_10 : decode cX12_head 10 = .ok (.iload_n 1, 1) := by decide +kernel
theorem dX12_head_11 : decode cX12_head 11 = .ok (.iastore, 1) := by decide +kernel
theorem dX12_head_12 : decode cX12_head 12 = .ok (.aload_n 3, 1) := by decide +kernel
theorem dX12_head_13 : decode cX12_head 13 = .ok (.iload 4, 2) := by decide +kernel
theorem dX12_head_15 : decode cX12_head 15 = .ok (.iconst 2, 1) := by decide +kernel
theorem dX12_head_16 : decode cX12_head 16 = .ok (.iadd, 1) := by decide +kernel
theorem dX12_head_17 : decode cX12_head 17 = .ok (.aload_n 0, 1) := by decide +kernel
theorem dX12_head_18 : decode cX12_head 18 = .ok (.getfield 9, 3) := by decide +kernel
theorem dX12_head_21 : decode cX12_head 21 = .ok (.iconst 4, 1) := by decide +kernel
theorem dX12_head_22 : decode cX12_head 22 = .ok (.iload_n 1, 1) := by decide +kernel
theorem dX12_head_23 : decode cX12_head 23 = .ok (.imul, 1) := by decide +kernel
theorem dX12_head_24 : decode cX12_head 24 = .ok (.iaload, 1) := by decide +kernel
theorem dX12_head_25 : decode cX12_head 25 = .ok (.iastore, 1) := by decide +kernel
theorem dX12_head_26 : decode cX12_head 26 = .ok (.aload_n 0, 1) := by decide +kernel
theorem dX12_head_27 : decode cX12_head 27 = .ok (.iconst 0, 1) := by decide +kernel
theorem dX12_head_28 : decode cX12_head 28 = .ok (.putfield 208, 3) := by decide +kernel
theorem dX12_head_31 : decode cX12_head 31 = .ok (.aload_n 0, 1) := by decide +kernel
theorem dX12_head_32 : decode cX12_head 32 = .ok (.iload_n 1, 1) := by decide +kernel
theorem dX12_head_33 : decode cX12_head 33 = .ok (.iconst 0, 1) := by decide +kernel
theorem dX12_head_34 : decode cX12_head 34 = .ok (.iload_n 2, 1) := by decide +kernel
theorem dX12_head_35 : decode cX12_head 35 = .ok (.invokevirtual 254, 3) := by decide +kernel
theorem dX12_head_38 : decode cX12_head 38 = .ok (.aload_n 0, 1) := by decide +kernel
theorem dX12_head_39 : decode cX12_head 39 = .ok (.aload_n 3, 1) := by decide +kernel
theorem dX12_head_40 : decode cX12_head 40 = .ok (.iload 4, 2) := by decide +kernel
theorem dX12_head_42 : decode cX12_head 42 = .ok (.iconst 4, 1) := by decide +kernel
theorem dX12_head_43 : decode cX12_head 43 = .ok (.iadd, 1) := by decide +kernel
theorem dX12_head_44 : decode cX12_head 44 = .ok (.invokevirtual 258, 3) := by decide +kernel
theorem dX12_head_47 : decode cX12_head 47 = .ok (.aload_n 0, 1) := by decide +kernel
theorem dX12_head_48 : decode cX12_head 48 = .ok (.iload_n 1, 1) := by decide +kernel
theorem dX12_head_49 : decode cX12_head 49 = .ok (.iload_n 2, 1) := by decide +kernel
theorem dX12_head_50 : decode cX12_head 50 = .ok (.invokevirtual 260, 3) := by decide +kernel
theorem dX12_head_53 : decode cX12_head 53 = .ok (.aload_n 0, 1) := by decide +kernel
theorem dX12_head_54 : decode cX12_head 54 = .ok (.iconst 0, 1) := by decide +kernel
theorem dX12_head_55 : decode cX12_head 55 = .ok (.aload_n 0, 1) := by decide +kernel
theorem dX12_head_56 : decode cX12_head 56 = .ok (.getfield 223, 3) := by decide +kernel
theorem dX12_head_59 : decode cX12_head 59 = .ok (.iconst 0, 1) := by decide +kernel
theorem dX12_head_60 : decode cX12_head 60 = .ok (.aload_n 3, 1) := by decide +kernel
theorem dX12_head_61 : decode cX12_head 61 = .ok (.iload 4, 2) := by decide +kernel
theorem dX12_head_63 : decode cX12_head 63 = .ok (.bipush 12, 2) := by decide +kernel
theorem dX12_head_65 : decode cX12_head 65 = .ok (.iadd, 1) := by decide +kernel
theorem dX12_head_66 : decode cX12_head 66 = .ok (.invokevirtual 249, 3) := by decide +kernel
theorem dX12_head_69 : decode cX12_head 69 = .ok (.aload_n 0, 1) := by decide +kernel
theorem dX12_head_70 : decode cX12_head 70 = .ok (.aload_n 0, 1) := by decide +kernel
theorem dX12_head_71 : decode cX12_head 71 = .ok (.getfield 9, 3) := by decide +kernel
theorem dX12_head_74 : decode cX12_head 74 = .ok (.iconst 4, 1) := by decide +kernel
theorem dX12_head_75 : decode cX12_head 75 = .ok (.iload_n 1, 1) := by decide +kernel
theorem dX12_head_76 : decode cX12_head 76 = .ok (.imul, 1) := by decide +kernel
theorem dX12_head_77 : decode cX12_head 77 = .ok (.iaload, 1) := by decide +kernel
theorem dX12_head_78 : decode cX12_head 78 = .ok (.iload_n 2, 1) := by decide +kernel
theorem dX12_head_79 : decode cX12_head 79 = .ok (.aload_n 3, 1) := by decide +kernel
theorem dX12_head_80 : decode cX12_head 80 = .ok (.iload 4, 2) := by decide +kernel
theorem dX12_head_82 : decode cX12_head 82 = .ok (.iconst 4, 1) := by decide +kernel
theorem dX12_head_83 : decode cX12_head 83 = .ok (.iadd, 1) := by decide +kernel
theorem dX12_head_84 : decode cX12_head 84 = .ok (.iload 4, 2) := by decide +kernel
theorem dX12_head_86 : decode cX12_head 86 = .ok (.bipush 12, 2) := by decide +kernel
theorem dX12_head_88 : decode cX12_head 88 = .ok (.iadd, 1) := by decide +kernel
theorem dX12_head_89 : decode cX12_head 89 = .ok (.invokevirtual 263, 3) := by decide +kernel
theorem dX12_head_92 : decode cX12_head 92 = .ok (.aload_n 0, 1) := by decide +kernel
theorem dX12_head_93 : decode cX12_head 93 = .ok (.aload_n 3, 1) := by decide +kernel
theorem dX12_head_94 : decode cX12_head 94 = .ok (.iload 4, 2) := by decide +kernel
theorem dX12_head_96 : decode cX12_head 96 = .ok (.bipush 20, 2) := by decide +kernel
theorem dX12_head_98 : decode cX12_head 98 = .ok (.iadd, 1) := by decide +kernel
theorem dX12_head_99 : decode cX12_head 99 = .ok (.invokevirtual 192, 3) := by decide +kernel
theorem dX12_head_102 : decode cX12_head 102 = .ok (.return_, 1) := by decide +kernel
theorem dX12_isLog_0 : decode cX12_isLog 0 = .ok (.iload_n 1, 1) := by decide +kernel
theorem dX12_isLog_1 : decode cX12_isLog 1 = .ok (.ifCond .lt 15, 3) := by decide +kernel
theorem dX12_isLog_4 : decode cX12_isLog 4 = .ok (.iload_n 1, 1) := by decide +kernel
theorem dX12_isLog_5 : decode cX12_isLog 5 = .ok (.aload_n 0, 1) := by decide +kernel
theorem dX12_isLog_6 : decode cX12_isLog 6 = .ok (.getfield 267, 3) := by decide +kernel
theorem dX12_isLog_9 : decode cX12_isLog 9 = .ok (.if_icmp .ge 7, 3) := by decide +kernel
theorem dX12_isLog_12 : decode cX12_isLog 12 = .ok (.iconst 1, 1) := by decide +kernel
theorem dX12_isLog_13 : decode cX12_isLog 13 = .ok (.goto 4, 3) := by decide +kernel
theorem dX12_isLog_16 : decode cX12_isLog 16 = .ok (.iconst 0, 1) := by decide +kernel
theorem dX12_isLog_17 : decode cX12_isLog 17 = .ok (.ireturn, 1) := by decide +kernel
theorem dX12_many_0 : decode cX12_many 0 = .ok (.aload_n 0, 1) := by decide +kernel
theorem dX12_many_1 : decode cX12_many 1 = .ok (.getfield 9, 3) := by decide +kernel
theorem dX12_many_4 : decode cX12_many 4 = .ok (.iconst 4, 1) := by decide +kernel
theorem dX12_many_5 : decode cX12_many 5 = .ok (.iload_n 1, 1) := by decide +kernel
theorem dX12_many_6 : decode cX12_many 6 = .ok (.imul, 1) := by decide +kernel
theorem dX12_many_7 : decode cX12_many 7 = .ok (.iconst 1, 1) := by decide +kernel
theorem dX12_many_8 : decode cX12_many 8 = .ok (.iadd, 1) := by decide +kernel
theorem dX12_many_9 : decode cX12_many 9 = .ok (.iaload, 1) := by decide +kernel
theorem dX12_many_10 : decode cX12_many 10 = .ok (.ireturn, 1) := by decide +kernel
theorem dX12_isCount_0 : decode cX12_isCount 0 = .ok (.aload_n 0, 1) := by decide +kernel
theorem dX12_isCount_1 : decode cX12_isCount 1 = .ok (.iload_n 1, 1) := by decide +kernel
theorem dX12_isCount_2 : decode cX12_isCount 2 = .ok (.invokevirtual 270, 3) := by decide +kernel
theorem dX12_isCount_5 : decode cX12_isCount 5 = .ok (.ifCond .eq 20, 3) := by decide +kernel
theorem dX12_isCount_8 : decode cX12_isCount 8 = .ok (.iload_n 2, 1) := by decide +kernel
theorem dX12_isCount_9 : decode cX12_isCount 9 = .ok (.ifCond .lt 16, 3) := by decide +kernel
theorem dX12_isCount_12 : decode cX12_isCount 12 = .ok (.iload_n 2, 1) := by decide +kernel
theorem dX12_isCount_13 : decode cX12_isCount 13 = .ok (.aload_n 0, 1) := by decide +kernel
theorem dX12_isCount_14 : decode cX12_isCount 14 = .ok (.iload_n 1, 1) := by decide +kernel
theorem dX12_isCount_15 : decode cX12_isCount 15 = .ok (.invokevirtual 274, 3) := by decide +kernel
theorem dX12_isCount_18 : decode cX12_isCount 18 = .ok (.if_icmp .gt 7, 3) := by decide +kernel
theorem dX12_isCount_21 : decode cX12_isCount 21 = .ok (.iconst 1, 1) := by decide +kernel
theorem dX12_isCount_22 : decode cX12_isCount 22 = .ok (.goto 4, 3) := by decide +kernel
theorem dX12_isCount_25 : decode cX12_isCount 25 = .ok (.iconst 0, 1) := by decide +kernel
theorem dX12_isCount_26 : decode cX12_isCount 26 = .ok (.ireturn, 1) := by decide +kernel
theorem dX12_open_0 : decode cX12_open 0 = .ok (.iload_n 1, 1) := by decide +kernel
theorem dX12_open_1 : decode cX12_open 1 = .ok (.ifCond .lt 17, 3) := by decide +kernel
theorem dX12_open_4 : decode cX12_open 4 = .ok (.iload_n 1, 1) := by decide +kernel
theorem dX12_open_5 : decode cX12_open 5 = .ok (.iconst 3, 1) := by decide +kernel
theorem dX12_open_6 : decode cX12_open 6 = .ok (.if_icmp .gt 12, 3) := by decide +kernel
theorem dX12_open_9 : decode cX12_open 9 = .ok (.aload_n 0, 1) := by decide +kernel
theorem dX12_open_10 : decode cX12_open 10 = .ok (.getfield 267, 3) := by decide +kernel
theorem dX12_open_13 : decode cX12_open 13 = .ok (.bipush 6, 2) := by decide +kernel
theorem dX12_open_15 : decode cX12_open 15 = .ok (.if_icmp .ne 5, 3) := by decide +kernel
theorem dX12_open_18 : decode cX12_open 18 = .ok (.iconst (-1), 1) := by decide +kernel
theorem dX12_open_19 : decode cX12_open 19 = .ok (.ireturn, 1) := by decide +kernel
theorem dX12_open_20 : decode cX12_open 20 = .ok (.aload_n 0, 1) := by decide +kernel
theorem dX12_open_21 : decode cX12_open 21 = .ok (.getfield 9, 3) := by decide +kernel
theorem dX12_open_24 : decode cX12_open 24 = .ok (.iconst 4, 1) := by decide +kernel
theorem dX12_open_25 : decode cX12_open 25 = .ok (.aload_n 0, 1) := by decide +kernel
theorem dX12_open_26 : decode cX12_open 26 = .ok (.getfield 267, 3) := by decide +kernel
theorem dX12_open_29 : decode cX12_open 29 = .ok (.imul, 1) := by decide +kernel
theorem dX12_open_30 : decode cX12_open 30 = .ok (.iload_n 1, 1) := by decide +kernel
theorem dX12_open_31 : decode cX12_open 31 = .ok (.iastore, 1) := by decide +kernel
theorem dX12_open_32 : decode cX12_open 32 = .ok (.aload_n 0, 1) := by decide +kernel
theorem dX12_open_33 : decode cX12_open 33 = .ok (.getfield 9, 3) := by decide +kernel
theorem dX12_open_36 : decode cX12_open 36 = .ok (.iconst 4, 1) := by decide +kernel
theorem dX12_open_37 : decode cX12_open 37 = .ok (.aload_n 0, 1) := by decide +kernel
theorem dX12_open_38 : decode cX12_open 38 = .ok (.getfield 267, 3) := by decide +kernel
theorem dX12_open_41 : decode cX12_open 41 = .ok (.imul, 1) := by decide +kernel
theorem dX12_open_42 : decode cX12_open 42 = .ok (.iconst 1, 1) := by decide +kernel
theorem dX12_open_43 : decode cX12_open 43 = .ok (.iadd, 1) := by decide +kernel
theorem dX12_open_44 : decode cX12_open 44 = .ok (.iconst 0, 1) := by decide +kernel
theorem dX12_open_45 : decode cX12_open 45 = .ok (.iastore, 1) := by decide +kernel
theorem dX12_open_46 : decode cX12_open 46 = .ok (.aload_n 0, 1) := by decide +kernel
theorem dX12_open_47 : decode cX12_open 47 = .ok (.getfield 9, 3) := by decide +kernel
theorem dX12_open_50 : decode cX12_open 50 = .ok (.iconst 4, 1) := by decide +kernel
theorem dX12_open_51 : decode cX12_open 51 = .ok (.aload_n 0, 1) := by decide +kernel
theorem dX12_open_52 : decode cX12_open 52 = .ok (.getfield 267, 3) := by decide +kernel
theorem dX12_open_55 : decode cX12_open 55 = .ok (.imul, 1) := by decide +kernel
theorem dX12_open_56 : decode cX12_open 56 = .ok (.iconst 2, 1) := by decide +kernel
theorem dX12_open_57 : decode cX12_open 57 = .ok (.iadd, 1) := by decide +kernel
theorem dX12_open_58 : decode cX12_open 58 = .ok (.iconst 0, 1) := by decide +kernel
theorem dX12_open_59 : decode cX12_open 59 = .ok (.iastore, 1) := by decide +kernel
theorem dX12_open_60 : decode cX12_open 60 = .ok (.aload_n 0, 1) := by decide +kernel
theorem dX12_open_61 : decode cX12_open 61 = .ok (.getfield 9, 3) := by decide +kernel
theorem dX12_open_64 : decode cX12_open 64 = .ok (.iconst 4, 1) := by decide +kernel
theorem dX12_open_65 : decode cX12_open 65 = .ok (.aload_n 0, 1) := by decide +kernel
theorem dX12_open_66 : decode cX12_open 66 = .ok (.getfield 267, 3) := by decide +kernel
theorem dX12_open_69 : decode cX12_open 69 = .ok (.imul, 1) := by decide +kernel
theorem dX12_open_70 : decode cX12_open 70 = .ok (.iconst 3, 1) := by decide +kernel
theorem dX12_open_71 : decode cX12_open 71 = .ok (.iadd, 1) := by decide +kernel
theorem dX12_open_72 : decode cX12_open 72 = .ok (.iconst 0, 1) := by decide +kernel
theorem dX12_open_73 : decode cX12_open 73 = .ok (.iastore, 1) := by decide +kernel
theorem dX12_open_74 : decode cX12_open 74 = .ok (.aload_n 0, 1) := by decide +kernel
theorem dX12_open_75 : decode cX12_open 75 = .ok (.dup, 1) := by decide +kernel
theorem dX12_open_76 : decode cX12_open 76 = .ok (.getfield 267, 3) := by decide +kernel
theorem dX12_open_79 : decode cX12_open 79 = .ok (.iconst 1, 1) := by decide +kernel
theorem dX12_open_80 : decode cX12_open 80 = .ok (.iadd, 1) := by decide +kernel
theorem dX12_open_81 : decode cX12_open 81 = .ok (.putfield 267, 3) := by decide +kernel
theorem dX12_open_84 : decode cX12_open 84 = .ok (.aload_n 0, 1) := by decide +kernel
theorem dX12_open_85 : decode cX12_open 85 = .ok (.getfield 267, 3) := by decide +kernel
theorem dX12_open_88 : decode cX12_open 88 = .ok (.iconst 1, 1) := by decide +kernel
theorem dX12_open_89 : decode cX12_open 89 = .ok (.isub, 1) := by decide +kernel
theorem dX12_open_90 : decode cX12_open 90 = .ok (.ireturn, 1) := by decide +kernel
theorem dX12_add_0 : decode cX12_add 0 = .ok (.aload_n 0, 1) := by decide +kernel
theorem dX12_add_1 : decode cX12_add 1 = .ok (.iload_n 1, 1) := by decide +kernel
theorem dX12_add_2 : decode cX12_add 2 = .ok (.invokevirtual 270, 3) := by decide +kernel
theorem dX12_add_5 : decode cX12_add 5 = .ok (.ifCond .eq 14, 3) := by decide +kernel
theorem dX12_add_8 : decode cX12_add 8 = .ok (.aload_n 0, 1) := by decide +kernel
theorem dX12_add_9 : decode cX12_add 9 = .ok (.iload_n 1, 1) := by decide +kernel
theorem dX12_add_10 : decode cX12_add 10 = .ok (.invokevirtual 274, 3) := by decide +kernel
theorem dX12_add_13 : decode cX12_add 13 = .ok (.sipush 400, 3) := by decide +kernel
theorem dX12_add_16 : decode cX12_add 16 = .ok (.if_icmp .ne 5, 3) := by decide +kernel
theorem dX12_add_19 : decode cX12_add 19 = .ok (.iconst (-1), 1) := by decide +kernel
theorem dX12_add_20 : decode cX12_add 20 = .ok (.ireturn, 1) := by decide +kernel
theorem dX12_add_21 : decode cX12_add 21 = .ok (.sipush 400, 3) := by decide +kernel
theorem dX12_add_24 : decode cX12_add 24 = .ok (.iload_n 1, 1) := by decide +kernel
theorem dX12_add_25 : decode cX12_add 25 = .ok (.imul, 1) := by decide +kernel
theorem dX12_add_26 : decode cX12_add 26 = .ok (.aload_n 0, 1) := by decide +kernel
theorem dX12_add_27 : decode cX12_add 27 = .ok (.iload_n 1, 1) := by decide +kernel
theorem dX12_add_28 : decode cX12_add 28 = .ok (.invokevirtual 274, 3) := by decide +kernel
theorem dX12_add_31 : decode cX12_add 31 = .ok (.iadd, 1) := by decide +kernel
theorem dX12_add_32 : decode cX12_add 32 = .ok (.istore 5, 2) := by decide +kernel
theorem dX12_add_34 : decode cX12_add 34 = .ok (.aload_n 0, 1) := by decide +kernel
theorem dX12_add_35 : decode cX12_add 35 = .ok (.getfield 13, 3) := by decide +kernel
theorem dX12_add_38 : decode cX12_add 38 = .ok (.iload 5, 2) := by decide +kernel
theorem dX12_add_40 : decode cX12_add 40 = .ok (.iload_n 2, 1) := by decide +kernel
theorem dX12_add_41 : decode cX12_add 41 = .ok (.iastore, 1) := by decide +kernel
theorem dX12_add_42 : decode cX12_add 42 = .ok (.aload_n 0, 1) := by decide +kernel
theorem dX12_add_43 : decode cX12_add 43 = .ok (.getfield 16, 3) := by decide +kernel
theorem dX12_add_46 : decode cX12_add 46 = .ok (.iload 5, 2) := by decide +kernel
theorem dX12_add_48 : decode cX12_add 48 = .ok (.lload_n 3, 1) := by decide +kernel
theorem dX12_add_49 : decode cX12_add 49 = .ok (.lastore, 1) := by decide +kernel
theorem dX12_add_50 : decode cX12_add 50 = .ok (.aload_n 0, 1) := by decide +kernel
theorem dX12_add_51 : decode cX12_add 51 = .ok (.getfield 20, 3) := by decide +kernel
theorem dX12_add_54 : decode cX12_add 54 = .ok (.iload 5, 2) := by decide +kernel
theorem dX12_add_56 : decode cX12_add 56 = .ok (.iconst 0, 1) := by decide +kernel
theorem dX12_add_57 : decode cX12_add 57 = .ok (.bastore, 1) := by decide +kernel
theorem dX12_add_58 : decode cX12_add 58 = .ok (.aload_n 0, 1) := by decide +kernel
theorem dX12_add_59 : decode cX12_add 59 = .ok (.getfield 24, 3) := by decide +kernel
theorem dX12_add_62 : decode cX12_add 62 = .ok (.iload 5, 2) := by decide +kernel
theorem dX12_add_64 : decode cX12_add 64 = .ok (.iconst 0, 1) := by decide +kernel
theorem dX12_add_65 : decode cX12_add 65 = .ok (.bastore, 1) := by decide +kernel
theorem dX12_add_66 : decode cX12_add 66 = .ok (.aload_n 0, 1) := by decide +kernel
theorem dX12_add_67 : decode cX12_add 67 = .ok (.getfield 9, 3) := by decide +kernel
theorem dX12_add_70 : decode cX12_add 70 = .ok (.iconst 4, 1) := by decide +kernel
theorem dX12_add_71 : decode cX12_add 71 = .ok (.iload_n 1, 1) := by decide +kernel
theorem dX12_add_72 : decode cX12_add 72 = .ok (.imul, 1) := by decide +kernel
theorem dX12_add_73 : decode cX12_add 73 = .ok (.iconst 1, 1) := by decide +kernel
theorem dX12_add_74 : decode cX12_add 74 = .ok (.iadd, 1) := by decide +kernel
theorem dX12_add_75 : decode cX12_add 75 = .ok (.dup2, 1) := by decide +kernel
theorem dX12_add_76 : decode cX12_add 76 = .ok (.iaload, 1) := by decide +kernel
theorem dX12_add_77 : decode cX12_add 77 = .ok (.iconst 1, 1) := by decide +kernel
theorem dX12_add_78 : decode cX12_add 78 = .ok (.iadd, 1) := by decide +kernel
theorem dX12_add_79 : decode cX12_add 79 = .ok (.iastore, 1) := by decide +kernel
theorem dX12_add_80 : decode cX12_add 80 = .ok (.aload_n 0, 1) := by decide +kernel
theorem dX12_add_81 : decode cX12_add 81 = .ok (.iload_n 1, 1) := by decide +kernel
theorem dX12_add_82 : decode cX12_add 82 = .ok (.invokevirtual 274, 3) := by decide +kernel
theorem dX12_add_85 : decode cX12_add 85 = .ok (.ireturn, 1) := by decide +kernel
theorem dX12_fork_0 : decode cX12_fork 0 = .ok (.aload_n 0, 1) := by decide +kernel
theorem dX12_fork_1 : decode cX12_fork 1 = .ok (.iload_n 1, 1) := by decide +kernel
theorem dX12_fork_2 : decode cX12_fork 2 = .ok (.iload_n 2, 1) := by decide +kernel
theorem dX12_fork_3 : decode cX12_fork 3 = .ok (.invokevirtual 277, 3) := by decide +kernel
theorem dX12_fork_6 : decode cX12_fork 6 = .ok (.ifCond .eq 12, 3) := by decide +kernel
theorem dX12_fork_9 : decode cX12_fork 9 = .ok (.aload_n 0, 1) := by decide +kernel
theorem dX12_fork_10 : decode cX12_fork 10 = .ok (.getfield 267, 3) := by decide +kernel
theorem dX12_fork_13 : decode cX12_fork 13 = .ok (.bipush 6, 2) := by decide +kernel
theorem dX12_fork_15 : decode cX12_fork 15 = .ok (.if_icmp .ne 5, 3) := by decide +kernel
theorem dX12_fork_18 : decode cX12_fork 18 = .ok (.iconst (-1), 1) := by decide +kernel
theorem dX12_fork_19 : decode cX12_fork 19 = .ok (.ireturn, 1) := by decide +kernel
theorem dX12_fork_20 : decode cX12_fork 20 = .ok (.aload_n 0, 1) := by decide +kernel
theorem dX12_fork_21 : decode cX12_fork 21 = .ok (.getfield 267, 3) := by decide +kernel
theorem dX12_fork_24 : decode cX12_fork 24 = .ok (.istore_n 3, 1) := by decide +kernel
theorem dX12_fork_25 : decode cX12_fork 25 = .ok (.aload_n 0, 1) := by decide +kernel
theorem dX12_fork_26 : decode cX12_fork 26 = .ok (.getfield 9, 3) := by decide +kernel
theorem dX12_fork_29 : decode cX12_fork 29 = .ok (.iconst 4, 1) := by decide +kernel
theorem dX12_fork_30 : decode cX12_fork 30 = .ok (.iload_n 3, 1) := by decide +kernel
theorem dX12_fork_31 : decode cX12_fork 31 = .ok (.imul, 1) := by decide +kernel
theorem dX12_fork_32 : decode cX12_fork 32 = .ok (.aload_n 0, 1) := by decide +kernel
theorem dX12_fork_33 : decode cX12_fork 33 = .ok (.getfield 9, 3) := by decide +kernel
theorem dX12_fork_36 : decode cX12_fork 36 = .ok (.iconst 4, 1) := by decide +kernel
theorem dX12_fork_37 : decode cX12_fork 37 = .ok (.iload_n 1, 1) := by decide +kernel
theorem dX12_fork_38 : decode cX12_fork 38 = .ok (.imul, 1) := by decide +kernel
theorem dX12_fork_39 : decode cX12_fork 39 = .ok (.iaload, 1) := by decide +kernel
theorem dX12_fork_40 : decode cX12_fork 40 = .ok (.iastore, 1) := by decide +kernel
theorem dX12_fork_41 : decode cX12_fork 41 = .ok (.aload_n 0, 1) := by decide +kernel
theorem dX12_fork_42 : decode cX12_fork 42 = .ok (.getfield 9, 3) := by decide +kernel
theorem dX12_fork_45 : decode cX12_fork 45 = .ok (.iconst 4, 1) := by decide +kernel
theorem dX12_fork_46 : decode cX12_fork 46 = .ok (.iload_n 3, 1) := by decide +kernel
theorem dX12_fork_47 : decode cX12_fork 47 = .ok (.imul, 1) := by decide +kernel
theorem dX12_fork_48 : decode cX12_fork 48 = .ok (.iconst 1, 1) := by decide +kernel
theorem dX12_fork_49 : decode cX12_fork 49 = .ok (.iadd, 1) := by decide +kernel
theorem dX12_fork_50 : decode cX12_fork 50 = .ok (.iload_n 2, 1) := by decide +kernel
theorem dX12_fork_51 : decode cX12_fork 51 = .ok (.iastore, 1) := by decide +kernel
theorem dX12_fork_52 : decode cX12_fork 52 = .ok (.iconst 0, 1) := by decide +kernel
theorem dX12_fork_53 : decode cX12_fork 53 = .ok (.istore 4, 2) := by decide +kernel
theorem dX12_fork_55 : decode cX12_fork 55 = .ok (.iload 4, 2) := by decide +kernel
theorem dX12_fork_57 : decode cX12_fork 57 = .ok (.iload_n 2, 1) := by decide +kernel
theorem dX12_fork_58 : decode cX12_fork 58 = .ok (.if_icmp .ge 113, 3) := by decide +kernel
theorem dX12_fork_61 : decode cX12_fork 61 = .ok (.aload_n 0, 1) := by decide +kernel
theorem dX12_fork_62 : decode cX12_fork 62 = .ok (.getfield 13, 3) := by decide +kernel
theorem dX12_fork_65 : decode cX12_fork 65 = .ok (.sipush 400, 3) := by decide +kernel
theorem dX12_fork_68 : decode cX12_fork 68 = .ok (.iload_n 3, 1) := by decide +kernel
theorem dX12_fork_69 : decode cX12_fork 69 = .ok (.imul, 1) := by decide +kernel
theorem dX12_fork_70 : decode cX12_fork 70 = .ok (.iload 4, 2) := by decide +kernel
theorem dX12_fork_72 : decode cX12_fork 72 = .ok (.iadd, 1) := by decide +kernel
theorem dX12_fork_73 : decode cX12_fork 73 = .ok (.aload_n 0, 1) := by decide +kernel
theorem dX12_fork_74 : decode cX12_fork 74 = .ok (.getfield 13, 3) := by decide +kernel
theorem dX12_fork_77 : decode cX12_fork 77 = .ok (.sipush 400, 3) := by decide +kernel
theorem dX12_fork_80 : decode cX12_fork 80 = .ok (.iload_n 1, 1) := by decide +kernel
theorem dX12_fork_81 : decode cX12_fork 81 = .ok (.imul, 1) := by decide +kernel
theorem dX12_fork_82 : decode cX12_fork 82 = .ok (.iload 4, 2) := by decide +kernel
theorem dX12_fork_84 : decode cX12_fork 84 = .ok (.iadd, 1) := by decide +kernel
theorem dX12_fork_85 : decode cX12_fork 85 = .ok (.iaload, 1) := by decide +kernel
theorem dX12_fork_86 : decode cX12_fork 86 = .ok (.iastore, 1) := by decide +kernel
theorem dX12_fork_87 : decode cX12_fork 87 = .ok (.aload_n 0, 1) := by decide +kernel
theorem dX12_fork_88 : decode cX12_fork 88 = .ok (.getfield 16, 3) := by decide +kernel
theorem dX12_fork_91 : decode cX12_fork 91 = .ok (.sipush 400, 3) := by decide +kernel
theorem dX12_fork_94 : decode cX12_fork 94 = .ok (.iload_n 3, 1) := by decide +kernel
theorem dX12_fork_95 : decode cX12_fork 95 = .ok (.imul, 1) := by decide +kernel
theorem dX12_fork_96 : decode cX12_fork 96 = .ok (.iload 4, 2) := by decide +kernel
theorem dX12_fork_98 : decode cX12_fork 98 = .ok (.iadd, 1) := by decide +kernel
theorem dX12_fork_99 : decode cX12_fork 99 = .ok (.aload_n 0, 1) := by decide +kernel
theorem dX12_fork_100 : decode cX12_fork 100 = .ok (.getfield 16, 3) := by decide +kernel
theorem dX12_fork_103 : decode cX12_fork 103 = .ok (.sipush 400, 3) := by decide +kernel
theorem dX12_fork_106 : decode cX12_fork 106 = .ok (.iload_n 1, 1) := by decide +kernel
theorem dX12_fork_107 : decode cX12_fork 107 = .ok (.imul, 1) := by decide +kernel
theorem dX12_fork_108 : decode cX12_fork 108 = .ok (.iload 4, 2) := by decide +kernel
theorem dX12_fork_110 : decode cX12_fork 110 = .ok (.iadd, 1) := by decide +kernel
theorem dX12_fork_111 : decode cX12_fork 111 = .ok (.laload, 1) := by decide +kernel
theorem dX12_fork_112 : decode cX12_fork 112 = .ok (.lastore, 1) := by decide +kernel
theorem dX12_fork_113 : decode cX12_fork 113 = .ok (.aload_n 0, 1) := by decide +kernel
theorem dX12_fork_114 : decode cX12_fork 114 = .ok (.getfield 20, 3) := by decide +kernel
theorem dX12_fork_117 : decode cX12_fork 117 = .ok (.sipush 400, 3) := by decide +kernel
theorem dX12_fork_120 : decode cX12_fork 120 = .ok (.iload_n 3, 1) := by decide +kernel
theorem dX12_fork_121 : decode cX12_fork 121 = .ok (.imul, 1) := by decide +kernel
theorem dX12_fork_122 : decode cX12_fork 122 = .ok (.iload 4, 2) := by decide +kernel
theorem dX12_fork_124 : decode cX12_fork 124 = .ok (.iadd, 1) := by decide +kernel
theorem dX12_fork_125 : decode cX12_fork 125 = .ok (.aload_n 0, 1) := by decide +kernel
theorem dX12_fork_126 : decode cX12_fork 126 = .ok (.getfield 20, 3) := by decide +kernel
theorem dX12_fork_129 : decode cX12_fork 129 = .ok (.sipush 400, 3) := by decide +kernel
theorem dX12_fork_132 : decode cX12_fork 132 = .ok (.iload_n 1, 1) := by decide +kernel
theorem dX12_fork_133 : decode cX12_fork 133 = .ok (.imul, 1) := by decide +kernel
theorem dX12_fork_134 : decode cX12_fork 134 = .ok (.iload 4, 2) := by decide +kernel
theorem dX12_fork_136 : decode cX12_fork 136 = .ok (.iadd, 1) := by decide +kernel
theorem dX12_fork_137 : decode cX12_fork 137 = .ok (.baload, 1) := by decide +kernel
theorem dX12_fork_138 : decode cX12_fork 138 = .ok (.bastore, 1) := by decide +kernel
theorem dX12_fork_139 : decode cX12_fork 139 = .ok (.aload_n 0, 1) := by decide +kernel
theorem dX12_fork_140 : decode cX12_fork 140 = .ok (.getfield 24, 3) := by decide +kernel
theorem dX12_fork_143 : decode cX12_fork 143 = .ok (.sipush 400, 3) := by decide +kernel
theorem dX12_fork_146 : decode cX12_fork 146 = .ok (.iload_n 3, 1) := by decide +kernel
theorem dX12_fork_147 : decode cX12_fork 147 = .ok (.imul, 1) := by decide +kernel
theorem dX12_fork_148 : decode cX12_fork 148 = .ok (.iload 4, 2) := by decide +kernel
theorem dX12_fork_150 : decode cX12_fork 150 = .ok (.iadd, 1) := by decide +kernel
theorem dX12_fork_151 : decode cX12_fork 151 = .ok (.aload_n 0, 1) := by decide +kernel
theorem dX12_fork_152 : decode cX12_fork 152 = .ok (.getfield 24, 3) := by decide +kernel
theorem dX12_fork_155 : decode cX12_fork 155 = .ok (.sipush 400, 3) := by decide +kernel
theorem dX12_fork_158 : decode cX12_fork 158 = .ok (.iload_n 1, 1) := by decide +kernel
theorem dX12_fork_159 : decode cX12_fork 159 = .ok (.imul, 1) := by decide +kernel
theorem dX12_fork_160 : decode cX12_fork 160 = .ok (.iload 4, 2) := by decide +kernel
theorem dX12_fork_162 : decode cX12_fork 162 = .ok (.iadd, 1) := by decide +kernel
theorem dX12_fork_163 : decode cX12_fork 163 = .ok (.baload, 1) := by decide +kernel
theorem dX12_fork_164 : decode cX12_fork 164 = .ok (.bastore, 1) := by decide +kernel
theorem dX12_fork_165 : decode cX12_fork 165 = .ok (.iinc 4 1, 3) := by decide +kernel
theorem dX12_fork_168 : decode cX12_fork 168 = .ok (.goto (-113), 3) := by decide +kernel
theorem dX12_fork_171 : decode cX12_fork 171 = .ok (.aload_n 0, 1) := by decide +kernel
theorem dX12_fork_172 : decode cX12_fork 172 = .ok (.getfield 9, 3) := by decide +kernel
theorem dX12_fork_175 : decode cX12_fork 175 = .ok (.iconst 4, 1) := by decide +kernel
theorem dX12_fork_176 : decode cX12_fork 176 = .ok (.iload_n 1, 1) := by decide +kernel
theorem dX12_fork_177 : decode cX12_fork 177 = .ok (.imul, 1) := by decide +kernel
theorem dX12_fork_178 : decode cX12_fork 178 = .ok (.iconst 2, 1) := by decide +kernel
theorem dX12_fork_179 : decode cX12_fork 179 = .ok (.iadd, 1) := by decide +kernel
theorem dX12_fork_180 : decode cX12_fork 180 = .ok (.iaload, 1) := by decide +kernel
theorem dX12_fork_181 : decode cX12_fork 181 = .ok (.aload_n 0, 1) := by decide +kernel
theorem dX12_fork_182 : decode cX12_fork 182 = .ok (.getfield 9, 3) := by decide +kernel
theorem dX12_fork_185 : decode cX12_fork 185 = .ok (.iconst 4, 1) := by decide +kernel
theorem dX12_fork_186 : decode cX12_fork 186 = .ok (.iload_n 1, 1) := by decide +kernel
theorem dX12_fork_187 : decode cX12_fork 187 = .ok (.imul, 1) := by decide +kernel
theorem dX12_fork_188 : decode cX12_fork 188 = .ok (.iconst 3, 1) := by decide +kernel
theorem dX12_fork_189 : decode cX12_fork 189 = .ok (.iadd, 1) := by decide +kernel
theorem dX12_fork_190 : decode cX12_fork 190 = .ok (.iaload, 1) := by decide +kernel
theorem dX12_fork_191 : decode cX12_fork 191 = .ok (.iadd, 1) := by decide +kernel
theorem dX12_fork_192 : decode cX12_fork 192 = .ok (.istore 4, 2) := by decide +kernel
theorem dX12_fork_194 : decode cX12_fork 194 = .ok (.iconst 0, 1) := by decide +kernel
theorem dX12_fork_195 : decode cX12_fork 195 = .ok (.istore 5, 2) := by decide +kernel
theorem dX12_fork_197 : decode cX12_fork 197 = .ok (.iconst 0, 1) := by decide +kernel
theorem dX12_fork_198 : decode cX12_fork 198 = .ok (.istore 6, 2) := by decide +kernel
theorem dX12_fork_200 : decode cX12_fork 200 = .ok (.iconst 0, 1) := by decide +kernel
theorem dX12_fork_201 : decode cX12_fork 201 = .ok (.istore 7, 2) := by decide +kernel
theorem dX12_fork_203 : decode cX12_fork 203 = .ok (.iload 7, 2) := by decide +kernel
theorem dX12_fork_205 : decode cX12_fork 205 = .ok (.iload 4, 2) := by decide +kernel
theorem dX12_fork_207 : decode cX12_fork 207 = .ok (.if_icmp .ge 112, 3) := by decide +kernel
theorem dX12_fork_210 : decode cX12_fork 210 = .ok (.bipush 100, 2) := by decide +kernel
theorem dX12_fork_212 : decode cX12_fork 212 = .ok (.iload_n 1, 1) := by decide +kernel
theorem dX12_fork_213 : decode cX12_fork 213 = .ok (.imul, 1) := by decide +kernel
theorem dX12_fork_214 : decode cX12_fork 214 = .ok (.iload 7, 2) := by decide +kernel
theorem dX12_fork_216 : decode cX12_fork 216 = .ok (.iadd, 1) := by decide +kernel
theorem dX12_fork_217 : decode cX12_fork 217 = .ok (.istore 8, 2) := by decide +kernel
theorem dX12_fork_219 : decode cX12_fork 219 = .ok (.aload_n 0, 1) := by decide +kernel
theorem dX12_fork_220 : decode cX12_fork 220 = .ok (.getfield 30, 3) := by decide +kernel
theorem dX12_fork_223 : decode cX12_fork 223 = .ok (.iload 8, 2) := by decide +kernel
theorem dX12_fork_225 : decode cX12_fork 225 = .ok (.iaload, 1) := by decide +kernel
theorem dX12_fork_226 : decode cX12_fork 226 = .ok (.iload_n 2, 1) := by decide +kernel
theorem dX12_fork_227 : decode cX12_fork 227 = .ok (.if_icmp .le 6, 3) := by decide +kernel
theorem dX12_fork_230 : decode cX12_fork 230 = .ok (.goto 83, 3) := by decide +kernel
theorem dX12_fork_233 : decode cX12_fork 233 = .ok (.aload_n 0, 1) := by decide +kernel
theorem dX12_fork_234 : decode cX12_fork 234 = .ok (.getfield 27, 3) := by decide +kernel
theorem dX12_fork_237 : decode cX12_fork 237 = .ok (.bipush 100, 2) := by decide +kernel
theorem dX12_fork_239 : decode cX12_fork 239 = .ok (.iload_n 3, 1) := by decide +kernel
theorem dX12_fork_240 : decode cX12_fork 240 = .ok (.imul, 1) := by decide +kernel
theorem dX12_fork_241 : decode cX12_fork 241 = .ok (.iload 6, 2) := by decide +kernel
theorem dX12_fork_243 : decode cX12_fork 243 = .ok (.iadd, 1) := by decide +kernel
theorem dX12_fork_244 : decode cX12_fork 244 = .ok (.aload_n 0, 1) := by decide +kernel
theorem dX12_fork_245 : decode cX12_fork 245 = .ok (.getfield 27, 3) := by decide +kernel
theorem dX12_fork_248 : decode cX12_fork 248 = .ok (.iload 8, 2) := by decide +kernel
theorem dX12_fork_250 : decode cX12_fork 250 = .ok (.iaload, 1) := by decide +kernel
theorem dX12_fork_251 : decode cX12_fork 251 = .ok (.iastore, 1) := by decide +kernel
theorem dX12_fork_252 : decode cX12_fork 252 = .ok (.aload_n 0, 1) := by decide +kernel
theorem dX12_fork_253 : decode cX12_fork 253 = .ok (.getfield 30, 3) := by decide +kernel
theorem dX12_fork_256 : decode cX12_fork 256 = .ok (.bipush 100, 2) := by decide +kernel
theorem dX12_fork_258 : decode cX12_fork 258 = .ok (.iload_n 3, 1) := by decide +kernel
theorem dX12_fork_259 : decode cX12_fork 259 = .ok (.imul, 1) := by decide +kernel
theorem dX12_fork_260 : decode cX12_fork 260 = .ok (.iload 6, 2) := by decide +kernel
theorem dX12_fork_262 : decode cX12_fork 262 = .ok (.iadd, 1) := by decide +kernel
theorem dX12_fork_263 : decode cX12_fork 263 = .ok (.aload_n 0, 1) := by decide +kernel
theorem dX12_fork_264 : decode cX12_fork 264 = .ok (.getfield 30, 3) := by decide +kernel
theorem dX12_fork_267 : decode cX12_fork 267 = .ok (.iload 8, 2) := by decide +kernel
theorem dX12_fork_269 : decode cX12_fork 269 = .ok (.iaload, 1) := by decide +kernel
theorem dX12_fork_270 : decode cX12_fork 270 = .ok (.iastore, 1) := by decide +kernel
theorem dX12_fork_271 : decode cX12_fork 271 = .ok (.aload_n 0, 1) := by decide +kernel
theorem dX12_fork_272 : decode cX12_fork 272 = .ok (.getfield 33, 3) := by decide +kernel
theorem dX12_fork_275 : decode cX12_fork 275 = .ok (.bipush 100, 2) := by decide +kernel
theorem dX12_fork_277 : decode cX12_fork 277 = .ok (.iload_n 3, 1) := by decide +kernel
theorem dX12_fork_278 : decode cX12_fork 278 = .ok (.imul, 1) := by decide +kernel
theorem dX12_fork_279 : decode cX12_fork 279 = .ok (.iload 6, 2) := by decide +kernel
theorem dX12_fork_281 : decode cX12_fork 281 = .ok (.iadd, 1) := by decide +kernel
theorem dX12_fork_282 : decode cX12_fork 282 = .ok (.aload_n 0, 1) := by decide +kernel
theorem dX12_fork_283 : decode cX12_fork 283 = .ok (.getfield 33, 3) := by decide +kernel
theorem dX12_fork_286 : decode cX12_fork 286 = .ok (.iload 8, 2) := by decide +kernel
theorem dX12_fork_288 : decode cX12_fork 288 = .ok (.baload, 1) := by decide +kernel
theorem dX12_fork_289 : decode cX12_fork 289 = .ok (.bastore, 1) := by decide +kernel
theorem dX12_fork_290 : decode cX12_fork 290 = .ok (.iload 5, 2) := by decide +kernel
theorem dX12_fork_292 : decode cX12_fork 292 = .ok (.aload_n 0, 1) := by decide +kernel
theorem dX12_fork_293 : decode cX12_fork 293 = .ok (.getfield 33, 3) := by decide +kernel
theorem dX12_fork_296 : decode cX12_fork 296 = .ok (.iload 8, 2) := by decide +kernel
theorem dX12_fork_298 : decode cX12_fork 298 = .ok (.baload, 1) := by decide +kernel
theorem dX12_fork_299 : decode cX12_fork 299 = .ok (.ifCond .eq 7, 3) := by decide +kernel
theorem dX12_fork_302 : decode cX12_fork 302 = .ok (.iconst 1, 1) := by decide +kernel
theorem dX12_fork_303 : decode cX12_fork 303 = .ok (.goto 4, 3) := by decide +kernel
theorem dX12_fork_306 : decode cX12_fork 306 = .ok (.iconst 0, 1) := by decide +kernel
theorem dX12_fork_307 : decode cX12_fork 307 = .ok (.iadd, 1) := by decide +kernel
theorem dX12_fork_308 : decode cX12_fork 308 = .ok (.istore 5, 2) := by decide +kernel
theorem dX12_fork_310 : decode cX12_fork 310 = .ok (.iinc 6 1, 3) := by decide +kernel
theorem dX12_fork_313 : decode cX12_fork 313 = .ok (.iinc 7 1, 3) := by decide +kernel
theorem dX12_fork_316 : decode cX12_fork 316 = .ok (.goto (-113), 3) := by decide +kernel
theorem dX12_fork_319 : decode cX12_fork 319 = .ok (.aload_n 0, 1) := by decide +kernel
theorem dX12_fork_320 : decode cX12_fork 320 = .ok (.getfield 9, 3) := by decide +kernel
theorem dX12_fork_323 : decode cX12_fork 323 = .ok (.iconst 4, 1) := by decide +kernel
theorem dX12_fork_324 : decode cX12_fork 324 = .ok (.iload_n 3, 1) := by decide +kernel
theorem dX12_fork_325 : decode cX12_fork 325 = .ok (.imul, 1) := by decide +kernel
theorem dX12_fork_326 : decode cX12_fork 326 = .ok (.iconst 2, 1) := by decide +kernel
theorem dX12_fork_327 : decode cX12_fork 327 = .ok (.iadd, 1) := by decide +kernel
theorem dX12_fork_328 : decode cX12_fork 328 = .ok (.iload 5, 2) := by decide +kernel
theorem dX12_fork_330 : decode cX12_fork 330 = .ok (.iastore, 1) := by decide +kernel
theorem dX12_fork_331 : decode cX12_fork 331 = .ok (.aload_n 0, 1) := by decide +kernel
theorem dX12_fork_332 : decode cX12_fork 332 = .ok (.getfield 9, 3) := by decide +kernel
theorem dX12_fork_335 : decode cX12_fork 335 = .ok (.iconst 4, 1) := by decide +kernel
theorem dX12_fork_336 : decode cX12_fork 336 = .ok (.iload_n 3, 1) := by decide +kernel
theorem dX12_fork_337 : decode cX12_fork 337 = .ok (.imul, 1) := by decide +kernel
theorem dX12_fork_338 : decode cX12_fork 338 = .ok (.iconst 3, 1) := by decide +kernel
theorem dX12_fork_339 : decode cX12_fork 339 = .ok (.iadd, 1) := by decide +kernel
theorem dX12_fork_340 : decode cX12_fork 340 = .ok (.iload 6, 2) := by decide +kernel
theorem dX12_fork_342 : decode cX12_fork 342 = .ok (.iload 5, 2) := by decide +kernel
theorem dX12_fork_344 : decode cX12_fork 344 = .ok (.isub, 1) := by decide +kernel
theorem dX12_fork_345 : decode cX12_fork 345 = .ok (.iastore, 1) := by decide +kernel
theorem dX12_fork_346 : decode cX12_fork 346 = .ok (.aload_n 0, 1) := by decide +kernel
theorem dX12_fork_347 : decode cX12_fork 347 = .ok (.dup, 1) := by decide +kernel
theorem dX12_fork_348 : decode cX12_fork 348 = .ok (.getfield 267, 3) := by decide +kernel
theorem dX12_fork_351 : decode cX12_fork 351 = .ok (.iconst 1, 1) := by decide +kernel
theorem dX12_fork_352 : decode cX12_fork 352 = .ok (.iadd, 1) := by decide +kernel
theorem dX12_fork_353 : decode cX12_fork 353 = .ok (.putfield 267, 3) := by decide +kernel
theorem dX12_fork_356 : decode cX12_fork 356 = .ok (.iload_n 3, 1) := by decide +kernel
theorem dX12_fork_357 : decode cX12_fork 357 = .ok (.ireturn, 1) := by decide +kernel
theorem dX12_say_0 : decode cX12_say 0 = .ok (.aload_n 0, 1) := by decide +kernel
theorem dX12_say_1 : decode cX12_say 1 = .ok (.iload_n 1, 1) := by decide +kernel
theorem dX12_say_2 : decode cX12_say 2 = .ok (.invokevirtual 270, 3) := by decide +kernel
theorem dX12_say_5 : decode cX12_say 5 = .ok (.ifCond .eq 13, 3) := by decide +kernel
theorem dX12_say_8 : decode cX12_say 8 = .ok (.aload_n 0, 1) := by decide +kernel
theorem dX12_say_9 : decode cX12_say 9 = .ok (.iload_n 1, 1) := by decide +kernel
theorem dX12_say_10 : decode cX12_say 10 = .ok (.iload_n 2, 1) := by decide +kernel
theorem dX12_say_11 : decode cX12_say 11 = .ok (.invokevirtual 220, 3) := by decide +kernel
theorem dX12_say_14 : decode cX12_say 14 = .ok (.iconst (-1), 1) := by decide +kernel
theorem dX12_say_15 : decode cX12_say 15 = .ok (.if_icmp .eq 5, 3) := by decide +kernel
theorem dX12_say_18 : decode cX12_say 18 = .ok (.iconst 0, 1) := by decide +kernel
theorem dX12_say_19 : decode cX12_say 19 = .ok (.ireturn, 1) := by decide +kernel
theorem dX12_say_20 : decode cX12_say 20 = .ok (.aload_n 0, 1) := by decide +kernel
theorem dX12_say_21 : decode cX12_say 21 = .ok (.getfield 9, 3) := by decide +kernel
theorem dX12_say_24 : decode cX12_say 24 = .ok (.iconst 4, 1) := by decide +kernel
theorem dX12_say_25 : decode cX12_say 25 = .ok (.iload_n 1, 1) := by decide +kernel
theorem dX12_say_26 : decode cX12_say 26 = .ok (.imul, 1) := by decide +kernel
theorem dX12_say_27 : decode cX12_say 27 = .ok (.iconst 2, 1) := by decide +kernel
theorem dX12_say_28 : decode cX12_say 28 = .ok (.iadd, 1) := by decide +kernel
theorem dX12_say_29 : decode cX12_say 29 = .ok (.iaload, 1) := by decide +kernel
theorem dX12_say_30 : decode cX12_say 30 = .ok (.aload_n 0, 1) := by decide +kernel
theorem dX12_say_31 : decode cX12_say 31 = .ok (.getfield 9, 3) := by decide +kernel
theorem dX12_say_34 : decode cX12_say 34 = .ok (.iconst 4, 1) := by decide +kernel
theorem dX12_say_35 : decode cX12_say 35 = .ok (.iload_n 1, 1) := by decide +kernel
theorem dX12_say_36 : decode cX12_say 36 = .ok (.imul, 1) := by decide +kernel
theorem dX12_say_37 : decode cX12_say 37 = .ok (.iconst 3, 1) := by decide +kernel
theorem dX12_say_38 : decode cX12_say 38 = .ok (.iadd, 1) := by decide +kernel
theorem dX12_say_39 : decode cX12_say 39 = .ok (.iaload, 1) := by decide +kernel
theorem dX12_say_40 : decode cX12_say 40 = .ok (.iadd, 1) := by decide +kernel
theorem dX12_say_41 : decode cX12_say 41 = .ok (.istore 4, 2) := by decide +kernel
theorem dX12_say_43 : decode cX12_say 43 = .ok (.iload 4, 2) := by decide +kernel
theorem dX12_say_45 : decode cX12_say 45 = .ok (.bipush 100, 2) := by decide +kernel
theorem dX12_say_47 : decode cX12_say 47 = .ok (.if_icmp .ne 5, 3) := by decide +kernel
theorem dX12_say_50 : decode cX12_say 50 = .ok (.iconst 0, 1) := by decide +kernel
theorem dX12_say_51 : decode cX12_say 51 = .ok (.ireturn, 1) := by decide +kernel
theorem dX12_say_52 : decode cX12_say 52 = .ok (.aload_n 0, 1) := by decide +kernel
theorem dX12_say_53 : decode cX12_say 53 = .ok (.getfield 27, 3) := by decide +kernel
theorem dX12_say_56 : decode cX12_say 56 = .ok (.bipush 100, 2) := by decide +kernel
theorem dX12_say_58 : decode cX12_say 58 = .ok (.iload_n 1, 1) := by decide +kernel
theorem dX12_say_59 : decode cX12_say 59 = .ok (.imul, 1) := by decide +kernel
theorem dX12_say_60 : decode cX12_say 60 = .ok (.iload 4, 2) := by decide +kernel
theorem dX12_say_62 : decode cX12_say 62 = .ok (.iadd, 1) := by decide +kernel
theorem dX12_say_63 : decode cX12_say 63 = .ok (.iload_n 2, 1) := by decide +kernel
theorem dX12_say_64 : decode cX12_say 64 = .ok (.iastore, 1) := by decide +kernel
theorem dX12_say_65 : decode cX12_say 65 = .ok (.aload_n 0, 1) := by decide +kernel
theorem dX12_say_66 : decode cX12_say 66 = .ok (.getfield 30, 3) := by decide +kernel
theorem dX12_say_69 : decode cX12_say 69 = .ok (.bipush 100, 2) := by decide +kernel
theorem dX12_say_71 : decode cX12_say 71 = .ok (.iload_n 1, 1) := by decide +kernel
theorem dX12_say_72 : decode cX12_say 72 = .ok (.imul, 1) := by decide +kernel
theorem dX12_say_73 : decode cX12_say 73 = .ok (.iload 4, 2) := by decide +kernel
theorem dX12_say_75 : decode cX12_say 75 = .ok (.iadd, 1) := by decide +kernel
theorem dX12_say_76 : decode cX12_say 76 = .ok (.aload_n 0, 1) := by decide +kernel
theorem dX12_say_77 : decode cX12_say 77 = .ok (.iload_n 1, 1) := by decide +kernel
theorem dX12_say_78 : decode cX12_say 78 = .ok (.invokevirtual 274, 3) := by decide +kernel
theorem dX12_say_81 : decode cX12_say 81 = .ok (.iastore, 1) := by decide +kernel
theorem dX12_say_82 : decode cX12_say 82 = .ok (.aload_n 0, 1) := by decide +kernel
theorem dX12_say_83 : decode cX12_say 83 = .ok (.getfield 33, 3) := by decide +kernel
theorem dX12_say_86 : decode cX12_say 86 = .ok (.bipush 100, 2) := by decide +kernel
theorem dX12_say_88 : decode cX12_say 88 = .ok (.iload_n 1, 1) := by decide +kernel
theorem dX12_say_89 : decode cX12_say 89 = .ok (.imul, 1) := by decide +kernel
theorem dX12_say_90 : decode cX12_say 90 = .ok (.iload 4, 2) := by decide +kernel
theorem dX12_say_92 : decode cX12_say 92 = .ok (.iadd, 1) := by decide +kernel
theorem dX12_say_93 : decode cX12_say 93 = .ok (.iload_n 3, 1) := by decide +kernel
theorem dX12_say_94 : decode cX12_say 94 = .ok (.bastore, 1) := by decide +kernel
theorem dX12_say_95 : decode cX12_say 95 = .ok (.aload_n 0, 1) := by decide +kernel
theorem dX12_say_96 : decode cX12_say 96 = .ok (.getfield 9, 3) := by decide +kernel
theorem dX12_say_99 : decode cX12_say 99 = .ok (.iconst 4, 1) := by decide +kernel
theorem dX12_say_100 : decode cX12_say 100 = .ok (.iload_n 1, 1) := by decide +kernel
theorem dX12_say_101 : decode cX12_say 101 = .ok (.imul, 1) := by decide +kernel
theorem dX12_say_102 : decode cX12_say 102 = .ok (.iload_n 3, 1) := by decide +kernel
theorem dX12_say_103 : decode cX12_say 103 = .ok (.ifCond .eq 7, 3) := by decide +kernel
theorem dX12_say_106 : decode cX12_say 106 = .ok (.iconst 2, 1) := by decide +kernel
theorem dX12_say_107 : decode cX12_say 107 = .ok (.goto 4, 3) := by decide +kernel
theorem dX12_say_110 : decode cX12_say 110 = .ok (.iconst 3, 1) := by decide +kernel
theorem dX12_say_111 : decode cX12_say 111 = .ok (.iadd, 1) := by decide +kernel
theorem dX12_say_112 : decode cX12_say 112 = .ok (.dup2, 1) := by decide +kernel
theorem dX12_say_113 : decode cX12_say 113 = .ok (.iaload, 1) := by decide +kernel
theorem dX12_say_114 : decode cX12_say 114 = .ok (.iconst 1, 1) := by decide +kernel
theorem dX12_say_115 : decode cX12_say 115 = .ok (.iadd, 1) := by decide +kernel
theorem dX12_say_116 : decode cX12_say 116 = .ok (.iastore, 1) := by decide +kernel
theorem dX12_say_117 : decode cX12_say 117 = .ok (.iconst 1, 1) := by decide +kernel
theorem dX12_say_118 : decode cX12_say 118 = .ok (.ireturn, 1) := by decide +kernel
theorem dX12_hide_0 : decode cX12_hide 0 = .ok (.aload_n 0, 1) := by decide +kernel
theorem dX12_hide_1 : decode cX12_hide 1 = .ok (.iload_n 1, 1) := by decide +kernel
theorem dX12_hide_2 : decode cX12_hide 2 = .ok (.iload_n 2, 1) := by decide +kernel
theorem dX12_hide_3 : decode cX12_hide 3 = .ok (.iconst 1, 1) := by decide +kernel
theorem dX12_hide_4 : decode cX12_hide 4 = .ok (.invokevirtual 281, 3) := by decide +kernel
theorem dX12_hide_7 : decode cX12_hide 7 = .ok (.ireturn, 1) := by decide +kernel
theorem dX12_lag_0 : decode cX12_lag 0 = .ok (.aload_n 0, 1) := by decide +kernel
theorem dX12_lag_1 : decode cX12_lag 1 = .ok (.iload_n 1, 1) := by decide +kernel
theorem dX12_lag_2 : decode cX12_lag 2 = .ok (.iload_n 2, 1) := by decide +kernel
theorem dX12_lag_3 : decode cX12_lag 3 = .ok (.iconst 0, 1) := by decide +kernel
theorem dX12_lag_4 : decode cX12_lag 4 = .ok (.invokevirtual 281, 3) := by decide +kernel
theorem dX12_lag_7 : decode cX12_lag 7 = .ok (.ireturn, 1) := by decide +kernel
theorem dX12_prune_0 : decode cX12_prune 0 = .ok (.aload_n 0, 1) := by decide +kernel
theorem dX12_prune_1 : decode cX12_prune 1 = .ok (.iload_n 1, 1) := by decide +kernel
theorem dX12_prune_2 : decode cX12_prune 2 = .ok (.iload_n 2, 1) := by decide +kernel
theorem dX12_prune_3 : decode cX12_prune 3 = .ok (.invokevirtual 277, 3) := by decide +kernel
theorem dX12_prune_6 : decode cX12_prune 6 = .ok (.ifCond .ne 5, 3) := by decide +kernel
theorem dX12_prune_9 : decode cX12_prune 9 = .ok (.iconst (-1), 1) := by decide +kernel
theorem dX12_prune_10 : decode cX12_prune 10 = .ok (.ireturn, 1) := by decide +kernel
theorem dX12_prune_11 : decode cX12_prune 11 = .ok (.iconst 0, 1) := by decide +kernel
theorem dX12_prune_12 : decode cX12_prune 12 = .ok (.istore_n 3, 1) := by decide +kernel
theorem dX12_prune_13 : decode cX12_prune 13 = .ok (.iconst 0, 1) := by decide +kernel
theorem dX12_prune_14 : decode cX12_prune 14 = .ok (.istore 4, 2) := by decide +kernel
theorem dX12_prune_16 : decode cX12_prune 16 = .ok (.iload 4, 2) := by decide +kernel
theorem dX12_prune_18 : decode cX12_prune 18 = .ok (.iload_n 2, 1) := by decide +kernel
theorem dX12_prune_19 : decode cX12_prune 19 = .ok (.if_icmp .ge 53, 3) := by decide +kernel
theorem dX12_prune_22 : decode cX12_prune 22 = .ok (.sipush 400, 3) := by decide +kernel
theorem dX12_prune_25 : decode cX12_prune 25 = .ok (.iload_n 1, 1) := by decide +kernel
theorem dX12_prune_26 : decode cX12_prune 26 = .ok (.imul, 1) := by decide +kernel
theorem dX12_prune_27 : decode cX12_prune 27 = .ok (.iload 4, 2) := by decide +kernel
theorem dX12_prune_29 : decode cX12_prune 29 = .ok (.iadd, 1) := by decide +kernel
theorem dX12_prune_30 : decode cX12_prune 30 = .ok (.istore 5, 2) := by decide +kernel
theorem dX12_prune_32 : decode cX12_prune 32 = .ok (.aload_n 0, 1) := by decide +kernel
theorem dX12_prune_33 : decode cX12_prune 33 = .ok (.getfield 20, 3) := by decide +kernel
theorem dX12_prune_36 : decode cX12_prune 36 = .ok (.iload 5, 2) := by decide +kernel
theorem dX12_prune_38 : decode cX12_prune 38 = .ok (.baload, 1) := by decide +kernel
theorem dX12_prune_39 : decode cX12_prune 39 = .ok (.ifCond .ne 27, 3) := by decide +kernel
theorem dX12_prune_42 : decode cX12_prune 42 = .ok (.aload_n 0, 1) := by decide +kernel
theorem dX12_prune_43 : decode cX12_prune 43 = .ok (.getfield 24, 3) := by decide +kernel
theorem dX12_prune_46 : decode cX12_prune 46 = .ok (.iload 5, 2) := by decide +kernel
theorem dX12_prune_48 : decode cX12_prune 48 = .ok (.baload, 1) := by decide +kernel
theorem dX12_prune_49 : decode cX12_prune 49 = .ok (.ifCond .eq 6, 3) := by decide +kernel
theorem dX12_prune_52 : decode cX12_prune 52 = .ok (.goto 14, 3) := by decide +kernel
theorem dX12_prune_55 : decode cX12_prune 55 = .ok (.aload_n 0, 1) := by decide +kernel
theorem dX12_prune_56 : decode cX12_prune 56 = .ok (.getfield 20, 3) := by decide +kernel
theorem dX12_prune_59 : decode cX12_prune 59 = .ok (.iload 5, 2) := by decide +kernel
theorem dX12_prune_61 : decode cX12_prune 61 = .ok (.iconst 1, 1) := by decide +kernel
theorem dX12_prune_62 : decode cX12_prune 62 = .ok (.bastore, 1) := by decide +kernel
theorem dX12_prune_63 : decode cX12_prune 63 = .ok (.iinc 3 1, 3) := by decide +kernel
theorem dX12_prune_66 : decode cX12_prune 66 = .ok (.iinc 4 1, 3) := by decide +kernel
theorem dX12_prune_69 : decode cX12_prune 69 = .ok (.goto (-53), 3) := by decide +kernel
theorem dX12_prune_72 : decode cX12_prune 72 = .ok (.iload_n 3, 1) := by decide +kernel
theorem dX12_prune_73 : decode cX12_prune 73 = .ok (.ireturn, 1) := by decide +kernel
theorem dX12_keep_0 : decode cX12_keep 0 = .ok (.aload_n 0, 1) := by decide +kernel
theorem dX12_keep_1 : decode cX12_keep 1 = .ok (.iload_n 1, 1) := by decide +kernel
theorem dX12_keep_2 : decode cX12_keep 2 = .ok (.invokevirtual 270, 3) := by decide +kernel
theorem dX12_keep_5 : decode cX12_keep 5 = .ok (.ifCond .eq 31, 3) := by decide +kernel
theorem dX12_keep_8 : decode cX12_keep 8 = .ok (.iload_n 2, 1) := by decide +kernel
theorem dX12_keep_9 : decode cX12_keep 9 = .ok (.ifCond .lt 27, 3) := by decide +kernel
theorem dX12_keep_12 : decode cX12_keep 12 = .ok (.iload_n 2, 1) := by decide +kernel
theorem dX12_keep_13 : decode cX12_keep 13 = .ok (.aload_n 0, 1) := by decide +kernel
theorem dX12_keep_14 : decode cX12_keep 14 = .ok (.iload_n 1, 1) := by decide +kernel
theorem dX12_keep_15 : decode cX12_keep 15 = .ok (.invokevirtual 274, 3) := by decide +kernel
theorem dX12_keep_18 : decode cX12_keep 18 = .ok (.if_icmp .ge 18, 3) := by decide +kernel
theorem dX12_keep_21 : decode cX12_keep 21 = .ok (.aload_n 0, 1) := by decide +kernel
theorem dX12_keep_22 : decode cX12_keep 22 = .ok (.getfield 20, 3) := by decide +kernel
theorem dX12_keep_25 : decode cX12_keep 25 = .ok (.sipush 400, 3) := by decide +kernel
theorem dX12_keep_28 : decode cX12_keep 28 = .ok (.iload_n 1, 1) := by decide +kernel
theorem dX12_keep_29 : decode cX12_keep 29 = .ok (.imul, 1) := by decide +kernel
theorem dX12_keep_30 : decode cX12_keep 30 = .ok (.iload_n 2, 1) := by decide +kernel
theorem dX12_keep_31 : decode cX12_keep 31 = .ok (.iadd, 1) := by decide +kernel
theorem dX12_keep_32 : decode cX12_keep 32 = .ok (.baload, 1) := by decide +kernel
theorem dX12_keep_33 : decode cX12_keep 33 = .ok (.ifCond .eq 5, 3) := by decide +kernel
theorem dX12_keep_36 : decode cX12_keep 36 = .ok (.iconst 0, 1) := by decide +kernel
theorem dX12_keep_37 : decode cX12_keep 37 = .ok (.ireturn, 1) := by decide +kernel
theorem dX12_keep_38 : decode cX12_keep 38 = .ok (.aload_n 0, 1) := by decide +kernel
theorem dX12_keep_39 : decode cX12_keep 39 = .ok (.getfield 24, 3) := by decide +kernel
theorem dX12_keep_42 : decode cX12_keep 42 = .ok (.sipush 400, 3) := by decide +kernel
theorem dX12_keep_45 : decode cX12_keep 45 = .ok (.iload_n 1, 1) := by decide +kernel
theorem dX12_keep_46 : decode cX12_keep 46 = .ok (.imul, 1) := by decide +kernel
theorem dX12_keep_47 : decode cX12_keep 47 = .ok (.iload_n 2, 1) := by decide +kernel
theorem dX12_keep_48 : decode cX12_keep 48 = .ok (.iadd, 1) := by decide +kernel
theorem dX12_keep_49 : decode cX12_keep 49 = .ok (.iconst 1, 1) := by decide +kernel
theorem dX12_keep_50 : decode cX12_keep 50 = .ok (.bastore, 1) := by decide +kernel
theorem dX12_keep_51 : decode cX12_keep 51 = .ok (.iconst 1, 1) := by decide +kernel
theorem dX12_keep_52 : decode cX12_keep 52 = .ok (.ireturn, 1) := by decide +kernel
theorem dX12_count_0 : decode cX12_count 0 = .ok (.aload_n 0, 1) := by decide +kernel
theorem dX12_count_1 : decode cX12_count 1 = .ok (.iload_n 1, 1) := by decide +kernel
theorem dX12_count_2 : decode cX12_count 2 = .ok (.invokevirtual 270, 3) := by decide +kernel
theorem dX12_count_5 : decode cX12_count 5 = .ok (.ifCond .ne 5, 3) := by decide +kernel
theorem dX12_count_8 : decode cX12_count 8 = .ok (.iconst (-1), 1) := by decide +kernel
theorem dX12_count_9 : decode cX12_count 9 = .ok (.ireturn, 1) := by decide +kernel
theorem dX12_count_10 : decode cX12_count 10 = .ok (.iconst 0, 1) := by decide +kernel
theorem dX12_count_11 : decode cX12_count 11 = .ok (.istore_n 3, 1) := by decide +kernel
theorem dX12_count_12 : decode cX12_count 12 = .ok (.iload_n 2, 1) := by decide +kernel
theorem dX12_count_13 : decode cX12_count 13 = .ok (.tableswitch 131 0 5 #[39, 45, 85, 94, 109, 120], 39) := by decide +kernel
theorem dX12_count_52 : decode cX12_count 52 = .ok (.aload_n 0, 1) := by decide +kernel
theorem dX12_count_53 : decode cX12_count 53 = .ok (.iload_n 1, 1) := by decide +kernel
theorem dX12_count_54 : decode cX12_count 54 = .ok (.invokevirtual 274, 3) := by decide +kernel
theorem dX12_count_57 : decode cX12_count 57 = .ok (.ireturn, 1) := by decide +kernel
theorem dX12_count_58 : decode cX12_count 58 = .ok (.iconst 0, 1) := by decide +kernel
theorem dX12_count_59 : decode cX12_count 59 = .ok (.istore 4, 2) := by decide +kernel
theorem dX12_count_61 : decode cX12_count 61 = .ok (.iload 4, 2) := by decide +kernel
theorem dX12_count_63 : decode cX12_count 63 = .ok (.aload_n 0, 1) := by decide +kernel
theorem dX12_count_64 : decode cX12_count 64 = .ok (.iload_n 1, 1) := by decide +kernel
theorem dX12_count_65 : decode cX12_count 65 = .ok (.invokevirtual 274, 3) := by decide +kernel
theorem dX12_count_68 : decode cX12_count 68 = .ok (.if_icmp .ge 28, 3) := by decide +kernel
theorem dX12_count_71 : decode cX12_count 71 = .ok (.aload_n 0, 1) := by decide +kernel
theorem dX12_count_72 : decode cX12_count 72 = .ok (.getfield 20, 3) := by decide +kernel
theorem dX12_count_75 : decode cX12_count 75 = .ok (.sipush 400, 3) := by decide +kernel
theorem dX12_count_78 : decode cX12_count 78 = .ok (.iload_n 1, 1) := by decide +kernel
theorem dX12_count_79 : decode cX12_count 79 = .ok (.imul, 1) := by decide +kernel
theorem dX12_count_80 : decode cX12_count 80 = .ok (.iload 4, 2) := by decide +kernel
theorem dX12_count_82 : decode cX12_count 82 = .ok (.iadd, 1) := by decide +kernel
theorem dX12_count_83 : decode cX12_count 83 = .ok (.baload, 1) := by decide +kernel
theorem dX12_count_84 : decode cX12_count 84 = .ok (.ifCond .eq 6, 3) := by decide +kernel
theorem dX12_count_87 : decode cX12_count 87 = .ok (.iinc 3 1, 3) := by decide +kernel
theorem dX12_count_90 : decode cX12_count 90 = .ok (.iinc 4 1, 3) := by decide +kernel
theorem dX12_count_93 : decode cX12_count 93 = .ok (.goto (-32), 3) := by decide +kernel
theorem dX12_count_96 : decode cX12_count 96 = .ok (.iload_n 3, 1) := by decide +kernel
theorem dX12_count_97 : decode cX12_count 97 = .ok (.ireturn, 1) := by decide +kernel
theorem dX12_count_98 : decode cX12_count 98 = .ok (.aload_n 0, 1) := by decide +kernel
theorem dX12_count_99 : decode cX12_count 99 = .ok (.getfield 9, 3) := by decide +kernel
theorem dX12_count_102 : decode cX12_count 102 = .ok (.iconst 4, 1) := by decide +kernel
theorem dX12_count_103 : decode cX12_count 103 = .ok (.iload_n 1, 1) := by decide +kernel
theorem dX12_count_104 : decode cX12_count 104 = .ok (.imul, 1) := by decide +kernel
theorem dX12_count_105 : decode cX12_count 105 = .ok (.iaload, 1) := by decide +kernel
theorem dX12_count_106 : decode cX12_count 106 = .ok (.ireturn, 1) := by decide +kernel
theorem dX12_count_107 : decode cX12_count 107 = .ok (.aload_n 0, 1) := by decide +kernel
theorem dX12_count_108 : decode cX12_count 108 = .ok (.iload_n 1, 1) := by decide +kernel
theorem dX12_count_109 : decode cX12_count 109 = .ok (.aload_n 0, 1) := by decide +kernel
theorem dX12_count_110 : decode cX12_count 110 = .ok (.iload_n 1, 1) := by decide +kernel
theorem dX12_count_111 : decode cX12_count 111 = .ok (.invokevirtual 274, 3) := by decide +kernel
theorem dX12_count_114 : decode cX12_count 114 = .ok (.invokevirtual 260, 3) := by decide +kernel
theorem dX12_count_117 : decode cX12_count 117 = .ok (.aload_n 0, 1) := by decide +kernel
theorem dX12_count_118 : decode cX12_count 118 = .ok (.getfield 223, 3) := by decide +kernel
theorem dX12_count_121 : decode cX12_count 121 = .ok (.ireturn, 1) := by decide +kernel
theorem dX12_count_122 : decode cX12_count 122 = .ok (.aload_n 0, 1) := by decide +kernel
theorem dX12_count_123 : decode cX12_count 123 = .ok (.getfield 9, 3) := by decide +kernel
theorem dX12_count_126 : decode cX12_count 126 = .ok (.iconst 4, 1) := by decide +kernel
theorem dX12_count_127 : decode cX12_count 127 = .ok (.iload_n 1, 1) := by decide +kernel
theorem dX12_count_128 : decode cX12_count 128 = .ok (.imul, 1) := by decide +kernel
theorem dX12_count_129 : decode cX12_count 129 = .ok (.iconst 2, 1) := by decide +kernel
theorem dX12_count_130 : decode cX12_count 130 = .ok (.iadd, 1) := by decide +kernel
theorem dX12_count_131 : decode cX12_count 131 = .ok (.iaload, 1) := by decide +kernel
theorem dX12_count_132 : decode cX12_count 132 = .ok (.ireturn, 1) := by decide +kernel
theorem dX12_count_133 : decode cX12_count 133 = .ok (.aload_n 0, 1) := by decide +kernel
theorem dX12_count_134 : decode cX12_count 134 = .ok (.getfield 9, 3) := by decide +kernel
theorem dX12_count_137 : decode cX12_count 137 = .ok (.iconst 4, 1) := by decide +kernel
theorem dX12_count_138 : decode cX12_count 138 = .ok (.iload_n 1, 1) := by decide +kernel
theorem dX12_count_139 : decode cX12_count 139 = .ok (.imul, 1) := by decide +kernel
theorem dX12_count_140 : decode cX12_count 140 = .ok (.iconst 3, 1) := by decide +kernel
theorem dX12_count_141 : decode cX12_count 141 = .ok (.iadd, 1) := by decide +kernel
theorem dX12_count_142 : decode cX12_count 142 = .ok (.iaload, 1) := by decide +kernel
theorem dX12_count_143 : decode cX12_count 143 = .ok (.ireturn, 1) := by decide +kernel
theorem dX12_count_144 : decode cX12_count 144 = .ok (.iconst (-1), 1) := by decide +kernel
theorem dX12_count_145 : decode cX12_count 145 = .ok (.ireturn, 1) := by decide +kernel
theorem dX12_latest_0 : decode cX12_latest 0 = .ok (.aload_n 0, 1) := by decide +kernel
theorem dX12_latest_1 : decode cX12_latest 1 = .ok (.iload_n 1, 1) := by decide +kernel
theorem dX12_latest_2 : decode cX12_latest 2 = .ok (.iload_n 2, 1) := by decide +kernel
theorem dX12_latest_3 : decode cX12_latest 3 = .ok (.invokevirtual 277, 3) := by decide +kernel
theorem dX12_latest_6 : decode cX12_latest 6 = .ok (.ifCond .ne 5, 3) := by decide +kernel
theorem dX12_latest_9 : decode cX12_latest 9 = .ok (.iconst (-1), 1) := by decide +kernel
theorem dX12_latest_10 : decode cX12_latest 10 = .ok (.ireturn, 1) := by decide +kernel
theorem dX12_latest_11 : decode cX12_latest 11 = .ok (.iconst (-1), 1) := by decide +kernel
theorem dX12_latest_12 : decode cX12_latest 12 = .ok (.istore 4, 2) := by decide +kernel
theorem dX12_latest_14 : decode cX12_latest 14 = .ok (.iconst 0, 1) := by decide +kernel
theorem dX12_latest_15 : decode cX12_latest 15 = .ok (.istore 5, 2) := by decide +kernel
theorem dX12_latest_17 : decode cX12_latest 17 = .ok (.iload 5, 2) := by decide +kernel
theorem dX12_latest_19 : decode cX12_latest 19 = .ok (.iload_n 2, 1) := by decide +kernel
theorem dX12_latest_20 : decode cX12_latest 20 = .ok (.if_icmp .ge 41, 3) := by decide +kernel
theorem dX12_latest_23 : decode cX12_latest 23 = .ok (.aload_n 0, 1) := by decide +kernel
theorem dX12_latest_24 : decode cX12_latest 24 = .ok (.getfield 13, 3) := by decide +kernel
theorem dX12_latest_27 : decode cX12_latest 27 = .ok (.sipush 400, 3) := by decide +kernel
theorem dX12_latest_30 : decode cX12_latest 30 = .ok (.iload_n 1, 1) := by decide +kernel
theorem dX12_latest_31 : decode cX12_latest 31 = .ok (.imul, 1) := by decide +kernel
theorem dX12_latest_32 : decode cX12_latest 32 = .ok (.iload 5, 2) := by decide +kernel
theorem dX12_latest_34 : decode cX12_latest 34 = .ok (.iadd, 1) := by decide +kernel
theorem dX12_latest_35 : decode cX12_latest 35 = .ok (.iaload, 1) := by decide +kernel
theorem dX12_latest_36 : decode cX12_latest 36 = .ok (.iload_n 3, 1) := by decide +kernel
theorem dX12_latest_37 : decode cX12_latest 37 = .ok (.if_icmp .ne 18, 3) := by decide +kernel
theorem dX12_latest_40 : decode cX12_latest 40 = .ok (.aload_n 0, 1) := by decide +kernel
theorem dX12_latest_41 : decode cX12_latest 41 = .ok (.iload_n 1, 1) := by decide +kernel
theorem dX12_latest_42 : decode cX12_latest 42 = .ok (.iload_n 2, 1) := by decide +kernel
theorem dX12_latest_43 : decode cX12_latest 43 = .ok (.iload 5, 2) := by decide +kernel
theorem dX12_latest_45 : decode cX12_latest 45 = .ok (.invokevirtual 226, 3) := by decide +kernel
theorem dX12_latest_48 : decode cX12_latest 48 = .ok (.ifCond .eq 7, 3) := by decide +kernel
theorem dX12_latest_51 : decode cX12_latest 51 = .ok (.iload 5, 2) := by decide +kernel
theorem dX12_latest_53 : decode cX12_latest 53 = .ok (.istore 4, 2) := by decide +kernel
theorem dX12_latest_55 : decode cX12_latest 55 = .ok (.iinc 5 1, 3) := by decide +kernel
theorem dX12_latest_58 : decode cX12_latest 58 = .ok (.goto (-41), 3) := by decide +kernel
theorem dX12_latest_61 : decode cX12_latest 61 = .ok (.iload 4, 2) := by decide +kernel
theorem dX12_latest_63 : decode cX12_latest 63 = .ok (.ireturn, 1) := by decide +kernel
theorem dX12_head__0 : decode cX12_head_ 0 = .ok (.aload_n 0, 1) := by decide +kernel
theorem dX12_head__1 : decode cX12_head_ 1 = .ok (.iload_n 1, 1) := by decide +kernel
theorem dX12_head__2 : decode cX12_head_ 2 = .ok (.iload_n 2, 1) := by decide +kernel
theorem dX12_head__3 : decode cX12_head_ 3 = .ok (.invokevirtual 277, 3) := by decide +kernel
theorem dX12_head__6 : decode cX12_head_ 6 = .ok (.ifCond .eq 24, 3) := by decide +kernel
theorem dX12_head__9 : decode cX12_head_ 9 = .ok (.iload_n 3, 1) := by decide +kernel
theorem dX12_head__10 : decode cX12_head_ 10 = .ok (.ifCond .lt 20, 3) := by decide +kernel
theorem dX12_head__13 : decode cX12_head_ 13 = .ok (.iload_n 3, 1) := by decide +kernel
theorem dX12_head__14 : decode cX12_head_ 14 = .ok (.iconst 2, 1) := by decide +kernel
theorem dX12_head__15 : decode cX12_head_ 15 = .ok (.if_icmp .gt 15, 3) := by decide +kernel
theorem dX12_head__18 : decode cX12_head_ 18 = .ok (.iload 4, 2) := by decide +kernel
theorem dX12_head__20 : decode cX12_head_ 20 = .ok (.ifCond .lt 10, 3) := by decide +kernel
theorem dX12_head__23 : decode cX12_head_ 23 = .ok (.iload 4, 2) := by decide +kernel
theorem dX12_head__25 : decode cX12_head_ 25 = .ok (.bipush 7, 2) := by decide +kernel
theorem dX12_head__27 : decode cX12_head_ 27 = .ok (.if_icmp .le 5, 3) := by decide +kernel
theorem dX12_head__30 : decode cX12_head_ 30 = .ok (.iconst 0, 1) := by decide +kernel
theorem dX12_head__31 : decode cX12_head_ 31 = .ok (.ireturn, 1) := by decide +kernel
theorem dX12_head__32 : decode cX12_head_ 32 = .ok (.aload_n 0, 1) := by decide +kernel
theorem dX12_head__33 : decode cX12_head_ 33 = .ok (.iload_n 1, 1) := by decide +kernel
theorem dX12_head__34 : decode cX12_head_ 34 = .ok (.iload_n 2, 1) := by decide +kernel
theorem dX12_head__35 : decode cX12_head_ 35 = .ok (.aload_n 0, 1) := by decide +kernel
theorem dX12_head__36 : decode cX12_head_ 36 = .ok (.getfield 169, 3) := by decide +kernel
theorem dX12_head__39 : decode cX12_head_ 39 = .ok (.iconst 0, 1) := by decide +kernel
theorem dX12_head__40 : decode cX12_head_ 40 = .ok (.invokevirtual 285, 3) := by decide +kernel
theorem dX12_head__43 : decode cX12_head_ 43 = .ok (.aload_n 0, 1) := by decide +kernel
theorem dX12_head__44 : decode cX12_head_ 44 = .ok (.getfield 169, 3) := by decide +kernel
theorem dX12_head__47 : decode cX12_head_ 47 = .ok (.iconst 4, 1) := by decide +kernel
theorem dX12_head__48 : decode cX12_head_ 48 = .ok (.bipush 8, 2) := by decide +kernel
theorem dX12_head__50 : decode cX12_head_ 50 = .ok (.iload_n 3, 1) := by decide +kernel
theorem dX12_head__51 : decode cX12_head_ 51 = .ok (.imul, 1) := by decide +kernel
theorem dX12_head__52 : decode cX12_head_ 52 = .ok (.iadd, 1) := by decide +kernel
theorem dX12_head__53 : decode cX12_head_ 53 = .ok (.iload 4, 2) := by decide +kernel
theorem dX12_head__55 : decode cX12_head_ 55 = .ok (.iadd, 1) := by decide +kernel
theorem dX12_head__56 : decode cX12_head_ 56 = .ok (.iaload, 1) := by decide +kernel
theorem dX12_head__57 : decode cX12_head_ 57 = .ok (.ireturn, 1) := by decide +kernel
theorem dX12_isSlot_0 : decode cX12_isSlot 0 = .ok (.iload_n 1, 1) := by decide +kernel
theorem dX12_isSlot_1 : decode cX12_isSlot 1 = .ok (.ifCond .lt 13, 3) := by decide +kernel
theorem dX12_isSlot_4 : decode cX12_isSlot 4 = .ok (.iload_n 1, 1) := by decide +kernel
theorem dX12_isSlot_5 : decode cX12_isSlot 5 = .ok (.bipush 16, 2) := by decide +kernel
theorem dX12_isSlot_7 : decode cX12_isSlot 7 = .ok (.if_icmp .ge 7, 3) := by decide +kernel
theorem dX12_isSlot_10 : decode cX12_isSlot 10 = .ok (.iconst 1, 1) := by decide +kernel
theorem dX12_isSlot_11 : decode cX12_isSlot 11 = .ok (.goto 4, 3) := by decide +kernel
theorem dX12_isSlot_14 : decode cX12_isSlot 14 = .ok (.iconst 0, 1) := by decide +kernel
theorem dX12_isSlot_15 : decode cX12_isSlot 15 = .ok (.ireturn, 1) := by decide +kernel
theorem dX12_begin_0 : decode cX12_begin 0 = .ok (.iconst 0, 1) := by decide +kernel
theorem dX12_begin_1 : decode cX12_begin 1 = .ok (.istore 6, 2) := by decide +kernel
theorem dX12_begin_3 : decode cX12_begin 3 = .ok (.iload 6, 2) := by decide +kernel
theorem dX12_begin_5 : decode cX12_begin 5 = .ok (.bipush 8, 2) := by decide +kernel
theorem dX12_begin_7 : decode cX12_begin 7 = .ok (.if_icmp .ge 22, 3) := by decide +kernel
theorem dX12_begin_10 : decode cX12_begin 10 = .ok (.aload_n 0, 1) := by decide +kernel
theorem dX12_begin_11 : decode cX12_begin 11 = .ok (.getfield 36, 3) := by decide +kernel
theorem dX12_begin_14 : decode cX12_begin 14 = .ok (.bipush 8, 2) := by decide +kernel
theorem dX12_begin_16 : decode cX12_begin 16 = .ok (.iload_n 1, 1) := by decide +kernel
theorem dX12_begin_17 : decode cX12_begin 17 = .ok (.imul, 1) := by decide +kernel
theorem dX12_begin_18 : decode cX12_begin 18 = .ok (.iload 6, 2) := by decide +kernel
theorem dX12_begin_20 : decode cX12_begin 20 = .ok (.iadd, 1) := by decide +kernel
theorem dX12_begin_21 : decode cX12_begin 21 = .ok (.iconst 0, 1) := by decide +kernel
theorem dX12_begin_22 : decode cX12_begin 22 = .ok (.iastore, 1) := by decide +kernel
theorem dX12_begin_23 : decode cX12_begin 23 = .ok (.iinc 6 1, 3) := by decide +kernel
theorem dX12_begin_26 : decode cX12_begin 26 = .ok (.goto (-23), 3) := by decide +kernel
theorem dX12_begin_29 : decode cX12_begin 29 = .ok (.aload_n 0, 1) := by decide +kernel
theorem dX12_begin_30 : decode cX12_begin 30 = .ok (.getfield 36, 3) := by decide +kernel
theorem dX12_begin_33 : decode cX12_begin 33 = .ok (.bipush 8, 2) := by decide +kernel
theorem dX12_begin_35 : decode cX12_begin 35 = .ok (.iload_n 1, 1) := by decide +kernel
theorem dX12_begin_36 : decode cX12_begin 36 = .ok (.imul, 1) := by decide +kernel
theorem dX12_begin_37 : decode cX12_begin 37 = .ok (.iload_n 2, 1) := by decide +kernel
theorem dX12_begin_38 : decode cX12_begin 38 = .ok (.iastore, 1) := by decide +kernel
theorem dX12_begin_39 : decode cX12_begin 39 = .ok (.aload_n 0, 1) := by decide +kernel
theorem dX12_begin_40 : decode cX12_begin 40 = .ok (.getfield 36, 3) := by decide +kernel
theorem dX12_begin_43 : decode cX12_begin 43 = .ok (.bipush 8, 2) := by decide +kernel
theorem dX12_begin_45 : decode cX12_begin 45 = .ok (.iload_n 1, 1) := by decide +kernel
theorem dX12_begin_46 : decode cX12_begin 46 = .ok (.imul, 1) := by decide +kernel
theorem dX12_begin_47 : decode cX12_begin 47 = .ok (.iconst 2, 1) := by decide +kernel
theorem dX12_begin_48 : decode cX12_begin 48 = .ok (.iadd, 1) := by decide +kernel
theorem dX12_begin_49 : decode cX12_begin 49 = .ok (.iload_n 3, 1) := by decide +kernel
theorem dX12_begin_50 : decode cX12_begin 50 = .ok (.iastore, 1) := by decide +kernel
theorem dX12_begin_51 : decode cX12_begin 51 = .ok (.aload_n 0, 1) := by decide +kernel
theorem dX12_begin_52 : decode cX12_begin 52 = .ok (.getfield 36, 3) := by decide +kernel
theorem dX12_begin_55 : decode cX12_begin 55 = .ok (.bipush 8, 2) := by decide +kernel
theorem dX12_begin_57 : decode cX12_begin 57 = .ok (.iload_n 1, 1) := by decide +kernel
theorem dX12_begin_58 : decode cX12_begin 58 = .ok (.imul, 1) := by decide +kernel
theorem dX12_begin_59 : decode cX12_begin 59 = .ok (.iconst 3, 1) := by decide +kernel
theorem dX12_begin_60 : decode cX12_begin 60 = .ok (.iadd, 1) := by decide +kernel
theorem dX12_begin_61 : decode cX12_begin 61 = .ok (.iload 4, 2) := by decide +kernel
theorem dX12_begin_63 : decode cX12_begin 63 = .ok (.iastore, 1) := by decide +kernel
theorem dX12_begin_64 : decode cX12_begin 64 = .ok (.aload_n 0, 1) := by decide +kernel
theorem dX12_begin_65 : decode cX12_begin 65 = .ok (.getfield 36, 3) := by decide +kernel
theorem dX12_begin_68 : decode cX12_begin 68 = .ok (.bipush 8, 2) := by decide +kernel
theorem dX12_begin_70 : decode cX12_begin 70 = .ok (.iload_n 1, 1) := by decide +kernel
theorem dX12_begin_71 : decode cX12_begin 71 = .ok (.imul, 1) := by decide +kernel
theorem dX12_begin_72 : decode cX12_begin 72 = .ok (.iconst 4, 1) := by decide +kernel
theorem dX12_begin_73 : decode cX12_begin 73 = .ok (.iadd, 1) := by decide +kernel
theorem dX12_begin_74 : decode cX12_begin 74 = .ok (.iload 5, 2) := by decide +kernel
theorem dX12_begin_76 : decode cX12_begin 76 = .ok (.iastore, 1) := by decide +kernel
theorem dX12_begin_77 : decode cX12_begin 77 = .ok (.return_, 1) := by decide +kernel
theorem dX12_step_0 : decode cX12_step 0 = .ok (.aload_n 0, 1) := by decide +kernel
theorem dX12_step_1 : decode cX12_step 1 = .ok (.getfield 36, 3) := by decide +kernel
theorem dX12_step_4 : decode cX12_step 4 = .ok (.bipush 8, 2) := by decide +kernel
theorem dX12_step_6 : decode cX12_step 6 = .ok (.iload_n 1, 1) := by decide +kernel
theorem dX12_step_7 : decode cX12_step 7 = .ok (.imul, 1) := by decide +kernel
theorem dX12_step_8 : decode cX12_step 8 = .ok (.iconst 1, 1) := by decide +kernel
theorem dX12_step_9 : decode cX12_step 9 = .ok (.iadd, 1) := by decide +kernel
theorem dX12_step_10 : decode cX12_step 10 = .ok (.iaload, 1) := by decide +kernel
theorem dX12_step_11 : decode cX12_step 11 = .ok (.istore 4, 2) := by decide +kernel
theorem dX12_step_13 : decode cX12_step 13 = .ok (.iload 4, 2) := by decide +kernel
theorem dX12_step_15 : decode cX12_step 15 = .ok (.sipush 256, 3) := by decide +kernel
theorem dX12_step_18 : decode cX12_step 18 = .ok (.if_icmp .lt 4, 3) := by decide +kernel
theorem dX12_step_21 : decode cX12_step 21 = .ok (.return_, 1) := by decide +kernel
theorem dX12_step_22 : decode cX12_step 22 = .ok (.iconst 0, 1) := by decide +kernel
theorem dX12_step_23 : decode cX12_step 23 = .ok (.istore 5, 2) := by decide +kernel
theorem dX12_step_25 : decode cX12_step 25 = .ok (.iload 5, 2) := by decide +kernel
theorem dX12_step_27 : decode cX12_step 27 = .ok (.bipush 8, 2) := by decide +kernel
theorem dX12_step_29 : decode cX12_step 29 = .ok (.if_icmp .ge 34, 3) := by decide +kernel
theorem dX12_step_32 : decode cX12_step 32 = .ok (.aload_n 0, 1) := by decide +kernel
theorem dX12_step_33 : decode cX12_step 33 = .ok (.getfield 46, 3) := by decide +kernel
theorem dX12_step_36 : decode cX12_step 36 = .ok (.bipush 8, 2) := by decide +kernel
theorem dX12_step_38 : decode cX12_step 38 = .ok (.sipush 256, 3) := by decide +kernel
theorem dX12_step_41 : decode cX12_step 41 = .ok (.iload_n 1, 1) := by decide +kernel
theorem dX12_step_42 : decode cX12_step 42 = .ok (.imul, 1) := by decide +kernel
theorem dX12_step_43 : decode cX12_step 43 = .ok (.iload 4, 2) := by decide +kernel
theorem dX12_step_45 : decode cX12_step 45 = .ok (.iadd, 1) := by decide +kernel
theorem dX12_step_46 : decode cX12_step 46 = .ok (.imul, 1) := by decide +kernel
theorem dX12_step_47 : decode cX12_step 47 = .ok (.iload 5, 2) := by decide +kernel
theorem dX12_step_49 : decode cX12_step 49 = .ok (.iadd, 1) := by decide +kernel
theorem dX12_step_50 : decode cX12_step 50 = .ok (.aload_n 2, 1) := by decide +kernel
theorem dX12_step_51 : decode cX12_step 51 = .ok (.iload_n 3, 1) := by decide +kernel
theorem dX12_step_52 : decode cX12_step 52 = .ok (.iload 5, 2) := by decide +kernel
theorem dX12_step_54 : decode cX12_step 54 = .ok (.iadd, 1) := by decide +kernel
theorem dX12_step_55 : decode cX12_step 55 = .ok (.iaload, 1) := by decide +kernel
theorem dX12_step_56 : decode cX12_step 56 = .ok (.iastore, 1) := by decide +kernel
theorem dX12_step_57 : decode cX12_step 57 = .ok (.iinc 5 1, 3) := by decide +kernel
theorem dX12_step_60 : decode cX12_step 60 = .ok (.goto (-35), 3) := by decide +kernel
theorem dX12_step_63 : decode cX12_step 63 = .ok (.aload_n 0, 1) := by decide +kernel
theorem dX12_step_64 : decode cX12_step 64 = .ok (.getfield 36, 3) := by decide +kernel
theorem dX12_step_67 : decode cX12_step 67 = .ok (.bipush 8, 2) := by decide +kernel
theorem dX12_step_69 : decode cX12_step 69 = .ok (.iload_n 1, 1) := by decide +kernel
theorem dX12_step_70 : decode cX12_step 70 = .ok (.imul, 1) := by decide +kernel
theorem dX12_step_71 : decode cX12_step 71 = .ok (.iconst 1, 1) := by decide +kernel
theorem dX12_step_72 : decode cX12_step 72 = .ok (.iadd, 1) := by decide +kernel
theorem dX12_step_73 : decode cX12_step 73 = .ok (.dup2, 1) := by decide +kernel
theorem dX12_step_74 : decode cX12_step 74 = .ok (.iaload, 1) := by decide +kernel
theorem dX12_step_75 : decode cX12_step 75 = .ok (.iconst 1, 1) := by decide +kernel
theorem dX12_step_76 : decode cX12_step 76 = .ok (.iadd, 1) := by decide +kernel
theorem dX12_step_77 : decode cX12_step 77 = .ok (.iastore, 1) := by decide +kernel
theorem dX12_step_78 : decode cX12_step 78 = .ok (.return_, 1) := by decide +kernel
theorem dX12_stepLog_0 : decode cX12_stepLog 0 = .ok (.iload_n 3, 1) := by decide +kernel
theorem dX12_stepLog_1 : decode cX12_stepLog 1 = .ok (.istore 5, 2) := by decide +kernel
theorem dX12_stepLog_3 : decode cX12_stepLog 3 = .ok (.iload 5, 2) := by decide +kernel
theorem dX12_stepLog_5 : decode cX12_stepLog 5 = .ok (.iload 4, 2) := by decide +kernel
theorem dX12_stepLog_7 : decode cX12_stepLog 7 = .ok (.if_icmp .ge 47, 3) := by decide +kernel
theorem dX12_stepLog_10 : decode cX12_stepLog 10 = .ok (.iload 5, 2) := by decide +kernel
theorem dX12_stepLog_12 : decode cX12_stepLog 12 = .ok (.iload 4, 2) := by decide +kernel
theorem dX12_stepLog_14 : decode cX12_stepLog 14 = .ok (.invokestatic 212, 3) := by decide +kernel
theorem dX12_stepLog_17 : decode cX12_stepLog 17 = .ok (.istore 6, 2) := by decide +kernel
theorem dX12_stepLog_19 : decode cX12_stepLog 19 = .ok (.aload_n 0, 1) := by decide +kernel
theorem dX12_stepLog_20 : decode cX12_stepLog 20 = .ok (.iload_n 2, 1) := by decide +kernel
theorem dX12_stepLog_21 : decode cX12_stepLog 21 = .ok (.iload 5, 2) := by decide +kernel
theorem dX12_stepLog_23 : decode cX12_stepLog 23 = .ok (.iload 6, 2) := by decide +kernel
theorem dX12_stepLog_25 : decode cX12_stepLog 25 = .ok (.iconst 0, 1) := by decide +kernel
theorem dX12_stepLog_26 : decode cX12_stepLog 26 = .ok (.aload_n 0, 1) := by decide +kernel
theorem dX12_stepLog_27 : decode cX12_stepLog 27 = .ok (.getfield 148, 3) := by decide +kernel
theorem dX12_stepLog_30 : decode cX12_stepLog 30 = .ok (.iconst 0, 1) := by decide +kernel
theorem dX12_stepLog_31 : decode cX12_stepLog 31 = .ok (.invokevirtual 200, 3) := by decide +kernel
theorem dX12_stepLog_34 : decode cX12_stepLog 34 = .ok (.aload_n 0, 1) := by decide +kernel
theorem dX12_stepLog_35 : decode cX12_stepLog 35 = .ok (.iload_n 1, 1) := by decide +kernel
theorem dX12_stepLog_36 : decode cX12_stepLog 36 = .ok (.aload_n 0, 1) := by decide +kernel
theorem dX12_stepLog_37 : decode cX12_stepLog 37 = .ok (.getfield 148, 3) := by decide +kernel
theorem dX12_stepLog_40 : decode cX12_stepLog 40 = .ok (.iconst 0, 1) := by decide +kernel
theorem dX12_stepLog_41 : decode cX12_stepLog 41 = .ok (.invokevirtual 288, 3) := by decide +kernel
theorem dX12_stepLog_44 : decode cX12_stepLog 44 = .ok (.iload 5, 2) := by decide +kernel
theorem dX12_stepLog_46 : decode cX12_stepLog 46 = .ok (.iload 6, 2) := by decide +kernel
theorem dX12_stepLog_48 : decode cX12_stepLog 48 = .ok (.iadd, 1) := by decide +kernel
theorem dX12_stepLog_49 : decode cX12_stepLog 49 = .ok (.istore 5, 2) := by decide +kernel
theorem dX12_stepLog_51 : decode cX12_stepLog 51 = .ok (.goto (-48), 3) := by decide +kernel
theorem dX12_stepLog_54 : decode cX12_stepLog 54 = .ok (.return_, 1) := by decide +kernel
theorem dX12_within_0 : decode cX12_within 0 = .ok (.aload_n 0, 1) := by decide +kernel
theorem dX12_within_1 : decode cX12_within 1 = .ok (.iload_n 1, 1) := by decide +kernel
theorem dX12_within_2 : decode cX12_within 2 = .ok (.invokevirtual 292, 3) := by decide +kernel
theorem dX12_within_5 : decode cX12_within 5 = .ok (.ifCond .eq 39, 3) := by decide +kernel
theorem dX12_within_8 : decode cX12_within 8 = .ok (.aload_n 0, 1) := by decide +kernel
theorem dX12_within_9 : decode cX12_within 9 = .ok (.iload_n 2, 1) := by decide +kernel
theorem dX12_within_10 : decode cX12_within 10 = .ok (.iload_n 3, 1) := by decide +kernel
theorem dX12_within_11 : decode cX12_within 11 = .ok (.invokevirtual 277, 3) := by decide +kernel
theorem dX12_within_14 : decode cX12_within 14 = .ok (.ifCond .eq 30, 3) := by decide +kernel
theorem dX12_within_17 : decode cX12_within 17 = .ok (.iload 4, 2) := by decide +kernel
theorem dX12_within_19 : decode cX12_within 19 = .ok (.ifCond .lt 25, 3) := by decide +kernel
theorem dX12_within_22 : decode cX12_within 22 = .ok (.iload 4, 2) := by decide +kernel
theorem dX12_within_24 : decode cX12_within 24 = .ok (.iload_n 3, 1) := by decide +kernel
theorem dX12_within_25 : decode cX12_within 25 = .ok (.if_icmp .ge 19, 3) := by decide +kernel
theorem dX12_within_28 : decode cX12_within 28 = .ok (.aload_n 0, 1) := by decide +kernel
theorem dX12_within_29 : decode cX12_within 29 = .ok (.getfield 20, 3) := by decide +kernel
theorem dX12_within_32 : decode cX12_within 32 = .ok (.sipush 400, 3) := by decide +kernel
theorem dX12_within_35 : decode cX12_within 35 = .ok (.iload_n 2, 1) := by decide +kernel
theorem dX12_within_36 : decode cX12_within 36 = .ok (.imul, 1) := by decide +kernel
theorem dX12_within_37 : decode cX12_within 37 = .ok (.iload 4, 2) := by decide +kernel
theorem dX12_within_39 : decode cX12_within 39 = .ok (.iadd, 1) := by decide +kernel
theorem dX12_within_40 : decode cX12_within 40 = .ok (.baload, 1) := by decide +kernel
theorem dX12_within_41 : decode cX12_within 41 = .ok (.ifCond .eq 5, 3) := by decide +kernel
theorem dX12_within_44 : decode cX12_within 44 = .ok (.iconst (-1), 1) := by decide +kernel
theorem dX12_within_45 : decode cX12_within 45 = .ok (.ireturn, 1) := by decide +kernel
theorem dX12_within_46 : decode cX12_within 46 = .ok (.aload_n 0, 1) := by decide +kernel
theorem dX12_within_47 : decode cX12_within 47 = .ok (.iload_n 1, 1) := by decide +kernel
theorem dX12_within_48 : decode cX12_within 48 = .ok (.iconst 1, 1) := by decide +kernel
theorem dX12_within_49 : decode cX12_within 49 = .ok (.iload_n 3, 1) := by decide +kernel
theorem dX12_within_50 : decode cX12_within 50 = .ok (.iload 4, 2) := by decide +kernel
theorem dX12_within_52 : decode cX12_within 52 = .ok (.iconst 0, 1) := by decide +kernel
theorem dX12_within_53 : decode cX12_within 53 = .ok (.invokevirtual 295, 3) := by decide +kernel
theorem dX12_within_56 : decode cX12_within 56 = .ok (.aload_n 0, 1) := by decide +kernel
theorem dX12_within_57 : decode cX12_within 57 = .ok (.getfield 39, 3) := by decide +kernel
theorem dX12_within_60 : decode cX12_within 60 = .ok (.bipush 40, 2) := by decide +kernel
theorem dX12_within_62 : decode cX12_within 62 = .ok (.iload_n 1, 1) := by decide +kernel
theorem dX12_within_63 : decode cX12_within 63 = .ok (.imul, 1) := by decide +kernel
theorem dX12_within_64 : decode cX12_within 64 = .ok (.aload_n 0, 1) := by decide +kernel
theorem dX12_within_65 : decode cX12_within 65 = .ok (.getfield 13, 3) := by decide +kernel
theorem dX12_within_68 : decode cX12_within 68 = .ok (.sipush 400, 3) := by decide +kernel
theorem dX12_within_71 : decode cX12_within 71 = .ok (.iload_n 2, 1) := by decide +kernel
theorem dX12_within_72 : decode cX12_within 72 = .ok (.imul, 1) := by decide +kernel
theorem dX12_within_73 : decode cX12_within 73 = .ok (.iload 4, 2) := by decide +kernel
theorem dX12_within_75 : decode cX12_within 75 = .ok (.iadd, 1) := by decide +kernel
theorem dX12_within_76 : decode cX12_within 76 = .ok (.iaload, 1) := by decide +kernel
theorem dX12_within_77 : decode cX12_within 77 = .ok (.iastore, 1) := by decide +kernel
theorem dX12_within_78 : decode cX12_within 78 = .ok (.aload_n 0, 1) := by decide +kernel
theorem dX12_within_79 : decode cX12_within 79 = .ok (.getfield 42, 3) := by decide +kernel
theorem dX12_within_82 : decode cX12_within 82 = .ok (.bipush 40, 2) := by decide +kernel
theorem dX12_within_84 : decode cX12_within 84 = .ok (.iload_n 1, 1) := by decide +kernel
theorem dX12_within_85 : decode cX12_within 85 = .ok (.imul, 1) := by decide +kernel
theorem dX12_within_86 : decode cX12_within 86 = .ok (.aload_n 0, 1) := by decide +kernel
theorem dX12_within_87 : decode cX12_within 87 = .ok (.getfield 16, 3) := by decide +kernel
theorem dX12_within_90 : decode cX12_within 90 = .ok (.sipush 400, 3) := by decide +kernel
theorem dX12_within_93 : decode cX12_within 93 = .ok (.iload_n 2, 1) := by decide +kernel
theorem dX12_within_94 : decode cX12_within 94 = .ok (.imul, 1) := by decide +kernel
theorem dX12_within_95 : decode cX12_within 95 = .ok (.iload 4, 2) := by decide +kernel
theorem dX12_within_97 : decode cX12_within 97 = .ok (.iadd, 1) := by decide +kernel
theorem dX12_within_98 : decode cX12_within 98 = .ok (.laload, 1) := by decide +kernel
theorem dX12_within_99 : decode cX12_within 99 = .ok (.lastore, 1) := by decide +kernel
theorem dX12_within_100 : decode cX12_within 100 = .ok (.aload_n 0, 1) := by decide +kernel
theorem dX12_within_101 : decode cX12_within 101 = .ok (.iload_n 1, 1) := by decide +kernel
theorem dX12_within_102 : decode cX12_within 102 = .ok (.iload_n 2, 1) := by decide +kernel
theorem dX12_within_103 : decode cX12_within 103 = .ok (.iconst 0, 1) := by decide +kernel
theorem dX12_within_104 : decode cX12_within 104 = .ok (.iload 4, 2) := by decide +kernel
theorem dX12_within_106 : decode cX12_within 106 = .ok (.invokevirtual 299, 3) := by decide +kernel
theorem dX12_within_109 : decode cX12_within 109 = .ok (.aload_n 0, 1) := by decide +kernel
theorem dX12_within_110 : decode cX12_within 110 = .ok (.iload_n 1, 1) := by decide +kernel
theorem dX12_within_111 : decode cX12_within 111 = .ok (.iload_n 2, 1) := by decide +kernel
theorem dX12_within_112 : decode cX12_within 112 = .ok (.iload 4, 2) := by decide +kernel
theorem dX12_within_114 : decode cX12_within 114 = .ok (.iconst 1, 1) := by decide +kernel
theorem dX12_within_115 : decode cX12_within 115 = .ok (.iadd, 1) := by decide +kernel
theorem dX12_within_116 : decode cX12_within 116 = .ok (.iload_n 3, 1) := by decide +kernel
theorem dX12_within_117 : decode cX12_within 117 = .ok (.invokevirtual 299, 3) := by decide +kernel
theorem dX12_within_120 : decode cX12_within 120 = .ok (.aload_n 0, 1) := by decide +kernel
theorem dX12_within_121 : decode cX12_within 121 = .ok (.getfield 36, 3) := by decide +kernel
theorem dX12_within_124 : decode cX12_within 124 = .ok (.bipush 8, 2) := by decide +kernel
theorem dX12_within_126 : decode cX12_within 126 = .ok (.iload_n 1, 1) := by decide +kernel
theorem dX12_within_127 : decode cX12_within 127 = .ok (.imul, 1) := by decide +kernel
theorem dX12_within_128 : decode cX12_within 128 = .ok (.iconst 1, 1) := by decide +kernel
theorem dX12_within_129 : decode cX12_within 129 = .ok (.iadd, 1) := by decide +kernel
theorem dX12_within_130 : decode cX12_within 130 = .ok (.iaload, 1) := by decide +kernel
theorem dX12_within_131 : decode cX12_within 131 = .ok (.ireturn, 1) := by decide +kernel
theorem dX12_grown_0 : decode cX12_grown 0 = .ok (.aload_n 0, 1) := by decide +kernel
theorem dX12_grown_1 : decode cX12_grown 1 = .ok (.iload_n 1, 1) := by decide +kernel
theorem dX12_grown_2 : decode cX12_grown 2 = .ok (.invokevirtual 292, 3) := by decide +kernel
theorem dX12_grown_5 : decode cX12_grown 5 = .ok (.ifCond .eq 23, 3) := by decide +kernel
theorem dX12_grown_8 : decode cX12_grown 8 = .ok (.aload_n 0, 1) := by decide +kernel
theorem dX12_grown_9 : decode cX12_grown 9 = .ok (.iload_n 2, 1) := by decide +kernel
theorem dX12_grown_10 : decode cX12_grown 10 = .ok (.iload 4, 2) := by decide +kernel
theorem dX12_grown_12 : decode cX12_grown 12 = .ok (.invokevirtual 277, 3) := by decide +kernel
theorem dX12_grown_15 : decode cX12_grown 15 = .ok (.ifCond .eq 13, 3) := by decide +kernel
theorem dX12_grown_18 : decode cX12_grown 18 = .ok (.iload_n 3, 1) := by decide +kernel
theorem dX12_grown_19 : decode cX12_grown 19 = .ok (.ifCond .lt 9, 3) := by decide +kernel
theorem dX12_grown_22 : decode cX12_grown 22 = .ok (.iload_n 3, 1) := by decide +kernel
theorem dX12_grown_23 : decode cX12_grown 23 = .ok (.iload 4, 2) := by decide +kernel
theorem dX12_grown_25 : decode cX12_grown 25 = .ok (.if_icmp .le 5, 3) := by decide +kernel
theorem dX12_grown_28 : decode cX12_grown 28 = .ok (.iconst (-1), 1) := by decide +kernel
theorem dX12_grown_29 : decode cX12_grown 29 = .ok (.ireturn, 1) := by decide +kernel
theorem dX12_grown_30 : decode cX12_grown 30 = .ok (.aload_n 0, 1) := by decide +kernel
theorem dX12_grown_31 : decode cX12_grown 31 = .ok (.iload_n 1, 1) := by decide +kernel
theorem dX12_grown_32 : decode cX12_grown 32 = .ok (.iconst 2, 1) := by decide +kernel
theorem dX12_grown_33 : decode cX12_grown 33 = .ok (.iload 4, 2) := by decide +kernel
theorem dX12_grown_35 : decode cX12_grown 35 = .ok (.iload_n 3, 1) := by decide +kernel
theorem dX12_grown_36 : decode cX12_grown 36 = .ok (.iconst 0, 1) := by decide +kernel
theorem dX12_grown_37 : decode cX12_grown 37 = .ok (.invokevirtual 295, 3) := by decide +kernel
theorem dX12_grown_40 : decode cX12_grown 40 = .ok (.aload_n 0, 1) := by decide +kernel
theorem dX12_grown_41 : decode cX12_grown 41 = .ok (.iload_n 1, 1) := by decide +kernel
theorem dX12_grown_42 : decode cX12_grown 42 = .ok (.iload_n 2, 1) := by decide +kernel
theorem dX12_grown_43 : decode cX12_grown 43 = .ok (.iconst 0, 1) := by decide +kernel
theorem dX12_grown_44 : decode cX12_grown 44 = .ok (.iload_n 3, 1) := by decide +kernel
theorem dX12_grown_45 : decode cX12_grown 45 = .ok (.invokevirtual 299, 3) := by decide +kernel
theorem dX12_grown_48 : decode cX12_grown 48 = .ok (.aload_n 0, 1) := by decide +kernel
theorem dX12_grown_49 : decode cX12_grown 49 = .ok (.iload_n 1, 1) := by decide +kernel
theorem dX12_grown_50 : decode cX12_grown 50 = .ok (.iload_n 2, 1) := by decide +kernel
theorem dX12_grown_51 : decode cX12_grown 51 = .ok (.iload_n 3, 1) := by decide +kernel
theorem dX12_grown_52 : decode cX12_grown 52 = .ok (.iload 4, 2) := by decide +kernel
theorem dX12_grown_54 : decode cX12_grown 54 = .ok (.invokevirtual 299, 3) := by decide +kernel
theorem dX12_grown_57 : decode cX12_grown 57 = .ok (.aload_n 0, 1) := by decide +kernel
theorem dX12_grown_58 : decode cX12_grown 58 = .ok (.getfield 36, 3) := by decide +kernel
theorem dX12_grown_61 : decode cX12_grown 61 = .ok (.bipush 8, 2) := by decide +kernel
theorem dX12_grown_63 : decode cX12_grown 63 = .ok (.iload_n 1, 1) := by decide +kernel
theorem dX12_grown_64 : decode cX12_grown 64 = .ok (.imul, 1) := by decide +kernel
theorem dX12_grown_65 : decode cX12_grown 65 = .ok (.iconst 1, 1) := by decide +kernel
theorem dX12_grown_66 : decode cX12_grown 66 = .ok (.iadd, 1) := by decide +kernel
theorem dX12_grown_67 : decode cX12_grown 67 = .ok (.iaload, 1) := by decide +kernel
theorem dX12_grown_68 : decode cX12_grown 68 = .ok (.ireturn, 1) := by decide +kernel
theorem dX12_follow_0 : decode cX12_follow 0 = .ok (.aload_n 0, 1) := by decide +kernel
theorem dX12_follow_1 : decode cX12_follow 1 = .ok (.iload_n 2, 1) := by decide +kernel
theorem dX12_follow_2 : decode cX12_follow 2 = .ok (.invokevirtual 234, 3) := by decide +kernel
theorem dX12_follow_5 : decode cX12_follow 5 = .ok (.aload_n 0, 1) := by decide +kernel
theorem dX12_follow_6 : decode cX12_follow 6 = .ok (.aload_n 0, 1) := by decide +kernel
theorem dX12_follow_7 : decode cX12_follow 7 = .ok (.getfield 175, 3) := by decide +kernel
theorem dX12_follow_10 : decode cX12_follow 10 = .ok (.iconst 0, 1) := by decide +kernel
theorem dX12_follow_11 : decode cX12_follow 11 = .ok (.invokevirtual 192, 3) := by decide +kernel
theorem dX12_follow_14 : decode cX12_follow 14 = .ok (.iconst 0, 1) := by decide +kernel
theorem dX12_follow_15 : decode cX12_follow 15 = .ok (.istore_n 3, 1) := by decide +kernel
theorem dX12_follow_16 : decode cX12_follow 16 = .ok (.aload_n 0, 1) := by decide +kernel
theorem dX12_follow_17 : decode cX12_follow 17 = .ok (.getfield 223, 3) := by decide +kernel
theorem dX12_follow_20 : decode cX12_follow 20 = .ok (.istore 4, 2) := by decide +kernel
theorem dX12_follow_22 : decode cX12_follow 22 = .ok (.iconst 0, 1) := by decide +kernel
theorem dX12_follow_23 : decode cX12_follow 23 = .ok (.istore 5, 2) := by decide +kernel
theorem dX12_follow_25 : decode cX12_follow 25 = .ok (.iload 4, 2) := by decide +kernel
theorem dX12_follow_27 : decode cX12_follow 27 = .ok (.iload_n 3, 1) := by decide +kernel
theorem dX12_follow_28 : decode cX12_follow 28 = .ok (.isub, 1) := by decide +kernel
theorem dX12_follow_29 : decode cX12_follow 29 = .ok (.iconst 1, 1) := by decide +kernel
theorem dX12_follow_30 : decode cX12_follow 30 = .ok (.if_icmp .le 86, 3) := by decide +kernel
theorem dX12_follow_33 : decode cX12_follow 33 = .ok (.aload_n 0, 1) := by decide +kernel
theorem dX12_follow_34 : decode cX12_follow 34 = .ok (.iload_n 3, 1) := by decide +kernel
theorem dX12_follow_35 : decode cX12_follow 35 = .ok (.iload 4, 2) := by decide +kernel
theorem dX12_follow_37 : decode cX12_follow 37 = .ok (.iload 5, 2) := by decide +kernel
theorem dX12_follow_39 : decode cX12_follow 39 = .ok (.invokevirtual 245, 3) := by decide +kernel
theorem dX12_follow_42 : decode cX12_follow 42 = .ok (.istore 6, 2) := by decide +kernel
theorem dX12_follow_44 : decode cX12_follow 44 = .ok (.aload_n 0, 1) := by decide +kernel
theorem dX12_follow_45 : decode cX12_follow 45 = .ok (.getfield 175, 3) := by decide +kernel
theorem dX12_follow_48 : decode cX12_follow 48 = .ok (.iconst 0, 1) := by decide +kernel
theorem dX12_follow_49 : decode cX12_follow 49 = .ok (.iload 5, 2) := by decide +kernel
theorem dX12_follow_51 : decode cX12_follow 51 = .ok (.invokestatic 237, 3) := by decide +kernel
theorem dX12_follow_54 : decode cX12_follow 54 = .ok (.ifCond .eq 25, 3) := by decide +kernel
theorem dX12_follow_57 : decode cX12_follow 57 = .ok (.aload_n 0, 1) := by decide +kernel
theorem dX12_follow_58 : decode cX12_follow 58 = .ok (.iload_n 3, 1) := by decide +kernel
theorem dX12_follow_59 : decode cX12_follow 59 = .ok (.iload 6, 2) := by decide +kernel
theorem dX12_follow_61 : decode cX12_follow 61 = .ok (.iload 5, 2) := by decide +kernel
theorem dX12_follow_63 : decode cX12_follow 63 = .ok (.iconst 1, 1) := by decide +kernel
theorem dX12_follow_64 : decode cX12_follow 64 = .ok (.iadd, 1) := by decide +kernel
theorem dX12_follow_65 : decode cX12_follow 65 = .ok (.aload_n 0, 1) := by decide +kernel
theorem dX12_follow_66 : decode cX12_follow 66 = .ok (.getfield 172, 3) := by decide +kernel
theorem dX12_follow_69 : decode cX12_follow 69 = .ok (.iconst 0, 1) := by decide +kernel
theorem dX12_follow_70 : decode cX12_follow 70 = .ok (.invokevirtual 249, 3) := by decide +kernel
theorem dX12_follow_73 : decode cX12_follow 73 = .ok (.iload 6, 2) := by decide +kernel
theorem dX12_follow_75 : decode cX12_follow 75 = .ok (.istore_n 3, 1) := by decide +kernel
theorem dX12_follow_76 : decode cX12_follow 76 = .ok (.goto 24, 3) := by decide +kernel
theorem dX12_follow_79 : decode cX12_follow 79 = .ok (.aload_n 0, 1) := by decide +kernel
theorem dX12_follow_80 : decode cX12_follow 80 = .ok (.iload 6, 2) := by decide +kernel
theorem dX12_follow_82 : decode cX12_follow 82 = .ok (.iload 4, 2) := by decide +kernel
theorem dX12_follow_84 : decode cX12_follow 84 = .ok (.iload 5, 2) := by decide +kernel
theorem dX12_follow_86 : decode cX12_follow 86 = .ok (.iconst 1, 1) := by decide +kernel
theorem dX12_follow_87 : decode cX12_follow 87 = .ok (.iadd, 1) := by decide +kernel
theorem dX12_follow_88 : decode cX12_follow 88 = .ok (.aload_n 0, 1) := by decide +kernel
theorem dX12_follow_89 : decode cX12_follow 89 = .ok (.getfield 172, 3) := by decide +kernel
theorem dX12_follow_92 : decode cX12_follow 92 = .ok (.iconst 0, 1) := by decide +kernel
theorem dX12_follow_93 : decode cX12_follow 93 = .ok (.invokevirtual 249, 3) := by decide +kernel
theorem dX12_follow_96 : decode cX12_follow 96 = .ok (.iload 6, 2) := by decide +kernel
theorem dX12_follow_98 : decode cX12_follow 98 = .ok (.istore 4, 2) := by decide +kernel
theorem dX12_follow_100 : decode cX12_follow 100 = .ok (.aload_n 0, 1) := by decide +kernel
theorem dX12_follow_101 : decode cX12_follow 101 = .ok (.iload_n 1, 1) := by decide +kernel
theorem dX12_follow_102 : decode cX12_follow 102 = .ok (.aload_n 0, 1) := by decide +kernel
theorem dX12_follow_103 : decode cX12_follow 103 = .ok (.getfield 172, 3) := by decide +kernel
theorem dX12_follow_106 : decode cX12_follow 106 = .ok (.iconst 0, 1) := by decide +kernel
theorem dX12_follow_107 : decode cX12_follow 107 = .ok (.invokevirtual 288, 3) := by decide +kernel
theorem dX12_follow_110 : decode cX12_follow 110 = .ok (.iinc 5 1, 3) := by decide +kernel
theorem dX12_follow_113 : decode cX12_follow 113 = .ok (.goto (-88), 3) := by decide +kernel
theorem dX12_follow_116 : decode cX12_follow 116 = .ok (.aload_n 0, 1) := by decide +kernel
theorem dX12_follow_117 : decode cX12_follow 117 = .ok (.iload_n 3, 1) := by decide +kernel
theorem dX12_follow_118 : decode cX12_follow 118 = .ok (.iload 4, 2) := by decide +kernel
theorem dX12_follow_120 : decode cX12_follow 120 = .ok (.if_icmp .ne 7, 3) := by decide +kernel
