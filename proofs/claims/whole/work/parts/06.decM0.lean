theorem dX9_init_0 : decode cX9_init 0 = .ok (.aload_n 0, 1) := by decide +kernel
theorem dX9_init_1 : decode cX9_init 1 = .ok (.invokespecial 1, 3) := by decide +kernel
theorem dX9_init_4 : decode cX9_init 4 = .ok (.aload_n 0, 1) := by decide +kernel
theorem dX9_init_5 : decode cX9_init 5 = .ok (.sipush 1700, 3) := by decide +kernel
theorem dX9_init_8 : decode cX9_init 8 = .ok (.newarray .int, 2) := by decide +kernel
theorem dX9_init_10 : decode cX9_init 10 = .ok (.putfield 7, 3) := by decide +kernel
theorem dX9_init_13 : decode cX9_init 13 = .ok (.aload_n 0, 1) := by decide +kernel
theorem dX9_init_14 : decode cX9_init 14 = .ok (.iconst (-1), 1) := by decide +kernel
theorem dX9_init_15 : decode cX9_init 15 = .ok (.putfield 13, 3) := by decide +kernel
theorem dX9_init_18 : decode cX9_init 18 = .ok (.aload_n 0, 1) := by decide +kernel
theorem dX9_init_19 : decode cX9_init 19 = .ok (.sipush 640, 3) := by decide +kernel
theorem dX9_init_22 : decode cX9_init 22 = .ok (.newarray .int, 2) := by decide +kernel
theorem dX9_init_24 : decode cX9_init 24 = .ok (.putfield 17, 3) := by decide +kernel
theorem dX9_init_27 : decode cX9_init 27 = .ok (.aload_n 0, 1) := by decide +kernel
theorem dX9_init_28 : decode cX9_init 28 = .ok (.sipush 640, 3) := by decide +kernel
theorem dX9_init_31 : decode cX9_init 31 = .ok (.newarray .int, 2) := by decide +kernel
theorem dX9_init_33 : decode cX9_init 33 = .ok (.putfield 20, 3) := by decide +kernel
theorem dX9_init_36 : decode cX9_init 36 = .ok (.aload_n 0, 1) := by decide +kernel
theorem dX9_init_37 : decode cX9_init 37 = .ok (.sipush 640, 3) := by decide +kernel
theorem dX9_init_40 : decode cX9_init 40 = .ok (.newarray .int, 2) := by decide +kernel
theorem dX9_init_42 : decode cX9_init 42 = .ok (.putfield 23, 3) := by decide +kernel
theorem dX9_init_45 : decode cX9_init 45 = .ok (.aload_n 0, 1) := by decide +kernel
theorem dX9_init_46 : decode cX9_init 46 = .ok (.sipush 640, 3) := by decide +kernel
theorem dX9_init_49 : decode cX9_init 49 = .ok (.newarray .int, 2) := by decide +kernel
theorem dX9_init_51 : decode cX9_init 51 = .ok (.putfield 26, 3) := by decide +kernel
theorem dX9_init_54 : decode cX9_init 54 = .ok (.aload_n 0, 1) := by decide +kernel
theorem dX9_init_55 : decode cX9_init 55 = .ok (.sipush 300, 3) := by decide +kernel
theorem dX9_init_58 : decode cX9_init 58 = .ok (.newarray .int, 2) := by decide +kernel
theorem dX9_init_60 : decode cX9_init 60 = .ok (.putfield 29, 3) := by decide +kernel
theorem dX9_init_63 : decode cX9_init 63 = .ok (.aload_n 0, 1) := by decide +kernel
theorem dX9_init_64 : decode cX9_init 64 = .ok (.bipush 50, 2) := by decide +kernel
theorem dX9_init_66 : decode cX9_init 66 = .ok (.newarray .int, 2) := by decide +kernel
theorem dX9_init_68 : decode cX9_init 68 = .ok (.putfield 32, 3) := by decide +kernel
theorem dX9_init_71 : decode cX9_init 71 = .ok (.aload_n 0, 1) := by decide +kernel
theorem dX9_init_72 : decode cX9_init 72 = .ok (.bipush 6, 2) := by decide +kernel
theorem dX9_init_74 : decode cX9_init 74 = .ok (.newarray .int, 2) := by decide +kernel
theorem dX9_init_76 : decode cX9_init 76 = .ok (.putfield 35, 3) := by decide +kernel
theorem dX9_init_79 : decode cX9_init 79 = .ok (.aload_n 0, 1) := by decide +kernel
theorem dX9_init_80 : decode cX9_init 80 = .ok (.bipush 30, 2) := by decide +kernel
theorem dX9_init_82 : decode cX9_init 82 = .ok (.newarray .long, 2) := by decide +kernel
theorem dX9_init_84 : decode cX9_init 84 = .ok (.putfield 38, 3) := by decide +kernel
theorem dX9_init_87 : decode cX9_init 87 = .ok (.aload_n 0, 1) := by decide +kernel
theorem dX9_init_88 : decode cX9_init 88 = .ok (.iconst 3, 1) := by decide +kernel
theorem dX9_init_89 : decode cX9_init 89 = .ok (.newarray .int, 2) := by decide +kernel
theorem dX9_init_91 : decode cX9_init 91 = .ok (.putfield 42, 3) := by decide +kernel
theorem dX9_init_94 : decode cX9_init 94 = .ok (.aload_n 0, 1) := by decide +kernel
theorem dX9_init_95 : decode cX9_init 95 = .ok (.iconst 3, 1) := by decide +kernel
theorem dX9_init_96 : decode cX9_init 96 = .ok (.newarray .int, 2) := by decide +kernel
theorem dX9_init_98 : decode cX9_init 98 = .ok (.putfield 45, 3) := by decide +kernel
theorem dX9_init_101 : decode cX9_init 101 = .ok (.aload_n 0, 1) := by decide +kernel
theorem dX9_init_102 : decode cX9_init 102 = .ok (.bipush 6, 2) := by decide +kernel
theorem dX9_init_104 : decode cX9_init 104 = .ok (.newarray .int, 2) := by decide +kernel
theorem dX9_init_106 : decode cX9_init 106 = .ok (.putfield 48, 3) := by decide +kernel
theorem dX9_init_109 : decode cX9_init 109 = .ok (.aload_n 0, 1) := by decide +kernel
theorem dX9_init_110 : decode cX9_init 110 = .ok (.bipush 6, 2) := by decide +kernel
theorem dX9_init_112 : decode cX9_init 112 = .ok (.newarray .int, 2) := by decide +kernel
theorem dX9_init_114 : decode cX9_init 114 = .ok (.putfield 51, 3) := by decide +kernel
theorem dX9_init_117 : decode cX9_init 117 = .ok (.aload_n 0, 1) := by decide +kernel
theorem dX9_init_118 : decode cX9_init 118 = .ok (.iconst 4, 1) := by decide +kernel
theorem dX9_init_119 : decode cX9_init 119 = .ok (.newarray .int, 2) := by decide +kernel
theorem dX9_init_121 : decode cX9_init 121 = .ok (.putfield 54, 3) := by decide +kernel
theorem dX9_init_124 : decode cX9_init 124 = .ok (.aload_n 0, 1) := by decide +kernel
theorem dX9_init_125 : decode cX9_init 125 = .ok (.bipush 24, 2) := by decide +kernel
theorem dX9_init_127 : decode cX9_init 127 = .ok (.newarray .int, 2) := by decide +kernel
theorem dX9_init_129 : decode cX9_init 129 = .ok (.putfield 57, 3) := by decide +kernel
theorem dX9_init_132 : decode cX9_init 132 = .ok (.aload_n 0, 1) := by decide +kernel
theorem dX9_init_133 : decode cX9_init 133 = .ok (.bipush 16, 2) := by decide +kernel
theorem dX9_init_135 : decode cX9_init 135 = .ok (.newarray .int, 2) := by decide +kernel
theorem dX9_init_137 : decode cX9_init 137 = .ok (.putfield 60, 3) := by decide +kernel
theorem dX9_init_140 : decode cX9_init 140 = .ok (.aload_n 0, 1) := by decide +kernel
theorem dX9_init_141 : decode cX9_init 141 = .ok (.bipush 6, 2) := by decide +kernel
theorem dX9_init_143 : decode cX9_init 143 = .ok (.newarray .int, 2) := by decide +kernel
theorem dX9_init_145 : decode cX9_init 145 = .ok (.putfield 63, 3) := by decide +kernel
theorem dX9_init_148 : decode cX9_init 148 = .ok (.aload_n 0, 1) := by decide +kernel
theorem dX9_init_149 : decode cX9_init 149 = .ok (.bipush 6, 2) := by decide +kernel
theorem dX9_init_151 : decode cX9_init 151 = .ok (.newarray .int, 2) := by decide +kernel
theorem dX9_init_153 : decode cX9_init 153 = .ok (.putfield 66, 3) := by decide +kernel
theorem dX9_init_156 : decode cX9_init 156 = .ok (.aload_n 0, 1) := by decide +kernel
theorem dX9_init_157 : decode cX9_init 157 = .ok (.iconst 4, 1) := by decide +kernel
theorem dX9_init_158 : decode cX9_init 158 = .ok (.newarray .int, 2) := by decide +kernel
theorem dX9_init_160 : decode cX9_init 160 = .ok (.putfield 69, 3) := by decide +kernel
theorem dX9_init_163 : decode cX9_init 163 = .ok (.aload_n 0, 1) := by decide +kernel
theorem dX9_init_164 : decode cX9_init 164 = .ok (.bipush 24, 2) := by decide +kernel
theorem dX9_init_166 : decode cX9_init 166 = .ok (.newarray .int, 2) := by decide +kernel
theorem dX9_init_168 : decode cX9_init 168 = .ok (.putfield 72, 3) := by decide +kernel
theorem dX9_init_171 : decode cX9_init 171 = .ok (.aload_n 0, 1) := by decide +kernel
theorem dX9_init_172 : decode cX9_init 172 = .ok (.bipush 16, 2) := by decide +kernel
theorem dX9_init_174 : decode cX9_init 174 = .ok (.newarray .int, 2) := by decide +kernel
theorem dX9_init_176 : decode cX9_init 176 = .ok (.putfield 75, 3) := by decide +kernel
theorem dX9_init_179 : decode cX9_init 179 = .ok (.aload_n 0, 1) := by decide +kernel
theorem dX9_init_180 : decode cX9_init 180 = .ok (.bipush 6, 2) := by decide +kernel
theorem dX9_init_182 : decode cX9_init 182 = .ok (.newarray .boolean, 2) := by decide +kernel
theorem dX9_init_184 : decode cX9_init 184 = .ok (.putfield 78, 3) := by decide +kernel
theorem dX9_init_187 : decode cX9_init 187 = .ok (.aload_n 0, 1) := by decide +kernel
theorem dX9_init_188 : decode cX9_init 188 = .ok (.bipush 6, 2) := by decide +kernel
theorem dX9_init_190 : decode cX9_init 190 = .ok (.newarray .boolean, 2) := by decide +kernel
theorem dX9_init_192 : decode cX9_init 192 = .ok (.putfield 82, 3) := by decide +kernel
theorem dX9_init_195 : decode cX9_init 195 = .ok (.aload_n 0, 1) := by decide +kernel
theorem dX9_init_196 : decode cX9_init 196 = .ok (.bipush 24, 2) := by decide +kernel
theorem dX9_init_198 : decode cX9_init 198 = .ok (.newarray .boolean, 2) := by decide +kernel
theorem dX9_init_200 : decode cX9_init 200 = .ok (.putfield 85, 3) := by decide +kernel
theorem dX9_init_203 : decode cX9_init 203 = .ok (.aload_n 0, 1) := by decide +kernel
theorem dX9_init_204 : decode cX9_init 204 = .ok (.bipush 6, 2) := by decide +kernel
theorem dX9_init_206 : decode cX9_init 206 = .ok (.newarray .boolean, 2) := by decide +kernel
theorem dX9_init_208 : decode cX9_init 208 = .ok (.putfield 88, 3) := by decide +kernel
theorem dX9_init_211 : decode cX9_init 211 = .ok (.aload_n 0, 1) := by decide +kernel
theorem dX9_init_212 : decode cX9_init 212 = .ok (.bipush 6, 2) := by decide +kernel
theorem dX9_init_214 : decode cX9_init 214 = .ok (.newarray .boolean, 2) := by decide +kernel
theorem dX9_init_216 : decode cX9_init 216 = .ok (.putfield 91, 3) := by decide +kernel
theorem dX9_init_219 : decode cX9_init 219 = .ok (.aload_n 0, 1) := by decide +kernel
theorem dX9_init_220 : decode cX9_init 220 = .ok (.bipush 6, 2) := by decide +kernel
theorem dX9_init_222 : decode cX9_init 222 = .ok (.newarray .int, 2) := by decide +kernel
theorem dX9_init_224 : decode cX9_init 224 = .ok (.putfield 94, 3) := by decide +kernel
theorem dX9_init_227 : decode cX9_init 227 = .ok (.aload_n 0, 1) := by decide +kernel
theorem dX9_init_228 : decode cX9_init 228 = .ok (.bipush 6, 2) := by decide +kernel
theorem dX9_init_230 : decode cX9_init 230 = .ok (.newarray .int, 2) := by decide +kernel
theorem dX9_init_232 : decode cX9_init 232 = .ok (.putfield 97, 3) := by decide +kernel
theorem dX9_init_235 : decode cX9_init 235 = .ok (.aload_n 0, 1) := by decide +kernel
theorem dX9_init_236 : decode cX9_init 236 = .ok (.bipush 6, 2) := by decide +kernel
theorem dX9_init_238 : decode cX9_init 238 = .ok (.newarray .int, 2) := by decide +kernel
theorem dX9_init_240 : decode cX9_init 240 = .ok (.putfield 100, 3) := by decide +kernel
theorem dX9_init_243 : decode cX9_init 243 = .ok (.aload_n 0, 1) := by decide +kernel
theorem dX9_init_244 : decode cX9_init 244 = .ok (.bipush 6, 2) := by decide +kernel
theorem dX9_init_246 : decode cX9_init 246 = .ok (.newarray .int, 2) := by decide +kernel
theorem dX9_init_248 : decode cX9_init 248 = .ok (.putfield 103, 3) := by decide +kernel
theorem dX9_init_251 : decode cX9_init 251 = .ok (.aload_n 0, 1) := by decide +kernel
theorem dX9_init_252 : decode cX9_init 252 = .ok (.iconst 4, 1) := by decide +kernel
theorem dX9_init_253 : decode cX9_init 253 = .ok (.newarray .int, 2) := by decide +kernel
theorem dX9_init_255 : decode cX9_init 255 = .ok (.putfield 106, 3) := by decide +kernel
theorem dX9_init_258 : decode cX9_init 258 = .ok (.aload_n 0, 1) := by decide +kernel
theorem dX9_init_259 : decode cX9_init 259 = .ok (.iconst 4, 1) := by decide +kernel
theorem dX9_init_260 : decode cX9_init 260 = .ok (.newarray .int, 2) := by decide +kernel
theorem dX9_init_262 : decode cX9_init 262 = .ok (.putfield 109, 3) := by decide +kernel
theorem dX9_init_265 : decode cX9_init 265 = .ok (.aload_n 0, 1) := by decide +kernel
theorem dX9_init_266 : decode cX9_init 266 = .ok (.bipush 6, 2) := by decide +kernel
theorem dX9_init_268 : decode cX9_init 268 = .ok (.newarray .boolean, 2) := by decide +kernel
theorem dX9_init_270 : decode cX9_init 270 = .ok (.putfield 112, 3) := by decide +kernel
theorem dX9_init_273 : decode cX9_init 273 = .ok (.aload_n 0, 1) := by decide +kernel
theorem dX9_init_274 : decode cX9_init 274 = .ok (.bipush 6, 2) := by decide +kernel
theorem dX9_init_276 : decode cX9_init 276 = .ok (.newarray .boolean, 2) := by decide +kernel
theorem dX9_init_278 : decode cX9_init 278 = .ok (.putfield 115, 3) := by decide +kernel
theorem dX9_init_281 : decode cX9_init 281 = .ok (.aload_n 0, 1) := by decide +kernel
theorem dX9_init_282 : decode cX9_init 282 = .ok (.sipush 600, 3) := by decide +kernel
theorem dX9_init_285 : decode cX9_init 285 = .ok (.newarray .int, 2) := by decide +kernel
theorem dX9_init_287 : decode cX9_init 287 = .ok (.putfield 118, 3) := by decide +kernel
theorem dX9_init_290 : decode cX9_init 290 = .ok (.aload_n 0, 1) := by decide +kernel
theorem dX9_init_291 : decode cX9_init 291 = .ok (.sipush 1206, 3) := by decide +kernel
theorem dX9_init_294 : decode cX9_init 294 = .ok (.newarray .int, 2) := by decide +kernel
theorem dX9_init_296 : decode cX9_init 296 = .ok (.putfield 121, 3) := by decide +kernel
theorem dX9_init_299 : decode cX9_init 299 = .ok (.aload_n 0, 1) := by decide +kernel
theorem dX9_init_300 : decode cX9_init 300 = .ok (.ldc 124, 2) := by decide +kernel
theorem dX9_init_302 : decode cX9_init 302 = .ok (.newarray .int, 2) := by decide +kernel
theorem dX9_init_304 : decode cX9_init 304 = .ok (.putfield 125, 3) := by decide +kernel
theorem dX9_init_307 : decode cX9_init 307 = .ok (.aload_n 0, 1) := by decide +kernel
theorem dX9_init_308 : decode cX9_init 308 = .ok (.ldc 124, 2) := by decide +kernel
theorem dX9_init_310 : decode cX9_init 310 = .ok (.newarray .int, 2) := by decide +kernel
theorem dX9_init_312 : decode cX9_init 312 = .ok (.putfield 128, 3) := by decide +kernel
theorem dX9_init_315 : decode cX9_init 315 = .ok (.aload_n 0, 1) := by decide +kernel
theorem dX9_init_316 : decode cX9_init 316 = .ok (.sipush 4096, 3) := by decide +kernel
theorem dX9_init_319 : decode cX9_init 319 = .ok (.newarray .boolean, 2) := by decide +kernel
theorem dX9_init_321 : decode cX9_init 321 = .ok (.putfield 131, 3) := by decide +kernel
theorem dX9_init_324 : decode cX9_init 324 = .ok (.aload_n 0, 1) := by decide +kernel
theorem dX9_init_325 : decode cX9_init 325 = .ok (.sipush 4096, 3) := by decide +kernel
theorem dX9_init_328 : decode cX9_init 328 = .ok (.newarray .boolean, 2) := by decide +kernel
theorem dX9_init_330 : decode cX9_init 330 = .ok (.putfield 134, 3) := by decide +kernel
theorem dX9_init_333 : decode cX9_init 333 = .ok (.aload_n 0, 1) := by decide +kernel
theorem dX9_init_334 : decode cX9_init 334 = .ok (.iconst 3, 1) := by decide +kernel
theorem dX9_init_335 : decode cX9_init 335 = .ok (.newarray .int, 2) := by decide +kernel
theorem dX9_init_337 : decode cX9_init 337 = .ok (.putfield 137, 3) := by decide +kernel
theorem dX9_init_340 : decode cX9_init 340 = .ok (.aload_n 0, 1) := by decide +kernel
theorem dX9_init_341 : decode cX9_init 341 = .ok (.bipush 40, 2) := by decide +kernel
theorem dX9_init_343 : decode cX9_init 343 = .ok (.newarray .int, 2) := by decide +kernel
theorem dX9_init_345 : decode cX9_init 345 = .ok (.putfield 140, 3) := by decide +kernel
theorem dX9_init_348 : decode cX9_init 348 = .ok (.aload_n 0, 1) := by decide +kernel
theorem dX9_init_349 : decode cX9_init 349 = .ok (.bipush 40, 2) := by decide +kernel
theorem dX9_init_351 : decode cX9_init 351 = .ok (.newarray .int, 2) := by decide +kernel
theorem dX9_init_353 : decode cX9_init 353 = .ok (.putfield 143, 3) := by decide +kernel
theorem dX9_init_356 : decode cX9_init 356 = .ok (.aload_n 0, 1) := by decide +kernel
theorem dX9_init_357 : decode cX9_init 357 = .ok (.bipush 40, 2) := by decide +kernel
theorem dX9_init_359 : decode cX9_init 359 = .ok (.newarray .int, 2) := by decide +kernel
theorem dX9_init_361 : decode cX9_init 361 = .ok (.putfield 146, 3) := by decide +kernel
theorem dX9_init_364 : decode cX9_init 364 = .ok (.aload_n 0, 1) := by decide +kernel
theorem dX9_init_365 : decode cX9_init 365 = .ok (.bipush 40, 2) := by decide +kernel
theorem dX9_init_367 : decode cX9_init 367 = .ok (.newarray .int, 2) := by decide +kernel
theorem dX9_init_369 : decode cX9_init 369 = .ok (.putfield 149, 3) := by decide +kernel
theorem dX9_init_372 : decode cX9_init 372 = .ok (.aload_n 0, 1) := by decide +kernel
theorem dX9_init_373 : decode cX9_init 373 = .ok (.bipush 40, 2) := by decide +kernel
theorem dX9_init_375 : decode cX9_init 375 = .ok (.newarray .int, 2) := by decide +kernel
theorem dX9_init_377 : decode cX9_init 377 = .ok (.putfield 152, 3) := by decide +kernel
theorem dX9_init_380 : decode cX9_init 380 = .ok (.aload_n 0, 1) := by decide +kernel
theorem dX9_init_381 : decode cX9_init 381 = .ok (.iconst 3, 1) := by decide +kernel
theorem dX9_init_382 : decode cX9_init 382 = .ok (.newarray .boolean, 2) := by decide +kernel
theorem dX9_init_384 : decode cX9_init 384 = .ok (.putfield 155, 3) := by decide +kernel
theorem dX9_init_387 : decode cX9_init 387 = .ok (.aload_n 0, 1) := by decide +kernel
theorem dX9_init_388 : decode cX9_init 388 = .ok (.bipush 90, 2) := by decide +kernel
theorem dX9_init_390 : decode cX9_init 390 = .ok (.newarray .int, 2) := by decide +kernel
theorem dX9_init_392 : decode cX9_init 392 = .ok (.putfield 158, 3) := by decide +kernel
theorem dX9_init_395 : decode cX9_init 395 = .ok (.aload_n 0, 1) := by decide +kernel
theorem dX9_init_396 : decode cX9_init 396 = .ok (.bipush 36, 2) := by decide +kernel
theorem dX9_init_398 : decode cX9_init 398 = .ok (.newarray .int, 2) := by decide +kernel
theorem dX9_init_400 : decode cX9_init 400 = .ok (.putfield 161, 3) := by decide +kernel
theorem dX9_init_403 : decode cX9_init 403 = .ok (.aload_n 0, 1) := by decide +kernel
theorem dX9_init_404 : decode cX9_init 404 = .ok (.bipush 24, 2) := by decide +kernel
theorem dX9_init_406 : decode cX9_init 406 = .ok (.newarray .int, 2) := by decide +kernel
theorem dX9_init_408 : decode cX9_init 408 = .ok (.putfield 164, 3) := by decide +kernel
theorem dX9_init_411 : decode cX9_init 411 = .ok (.aload_n 0, 1) := by decide +kernel
theorem dX9_init_412 : decode cX9_init 412 = .ok (.sipush 1800, 3) := by decide +kernel
theorem dX9_init_415 : decode cX9_init 415 = .ok (.newarray .int, 2) := by decide +kernel
theorem dX9_init_417 : decode cX9_init 417 = .ok (.putfield 167, 3) := by decide +kernel
theorem dX9_init_420 : decode cX9_init 420 = .ok (.aload_n 0, 1) := by decide +kernel
theorem dX9_init_421 : decode cX9_init 421 = .ok (.sipush 3618, 3) := by decide +kernel
theorem dX9_init_424 : decode cX9_init 424 = .ok (.newarray .int, 2) := by decide +kernel
theorem dX9_init_426 : decode cX9_init 426 = .ok (.putfield 170, 3) := by decide +kernel
theorem dX9_init_429 : decode cX9_init 429 = .ok (.aload_n 0, 1) := by decide +kernel
theorem dX9_init_430 : decode cX9_init 430 = .ok (.bipush 9, 2) := by decide +kernel
theorem dX9_init_432 : decode cX9_init 432 = .ok (.newarray .int, 2) := by decide +kernel
theorem dX9_init_434 : decode cX9_init 434 = .ok (.putfield 173, 3) := by decide +kernel
theorem dX9_init_437 : decode cX9_init 437 = .ok (.return_, 1) := by decide +kernel
theorem dX9_feed_0 : decode cX9_feed 0 = .ok (.aload_n 0, 1) := by decide +kernel
theorem dX9_feed_1 : decode cX9_feed 1 = .ok (.getfield 176, 3) := by decide +kernel
theorem dX9_feed_4 : decode cX9_feed 4 = .ok (.bipush 20, 2) := by decide +kernel
theorem dX9_feed_6 : decode cX9_feed 6 = .ok (.iadd, 1) := by decide +kernel
theorem dX9_feed_7 : decode cX9_feed 7 = .ok (.sipush 1700, 3) := by decide +kernel
theorem dX9_feed_10 : decode cX9_feed 10 = .ok (.if_icmp .le 5, 3) := by decide +kernel
theorem dX9_feed_13 : decode cX9_feed 13 = .ok (.iconst (-1), 1) := by decide +kernel
theorem dX9_feed_14 : decode cX9_feed 14 = .ok (.ireturn, 1) := by decide +kernel
theorem dX9_feed_15 : decode cX9_feed 15 = .ok (.aload_n 0, 1) := by decide +kernel
theorem dX9_feed_16 : decode cX9_feed 16 = .ok (.iload_n 1, 1) := by decide +kernel
theorem dX9_feed_17 : decode cX9_feed 17 = .ok (.invokevirtual 179, 3) := by decide +kernel
theorem dX9_feed_20 : decode cX9_feed 20 = .ok (.aload_n 0, 1) := by decide +kernel
theorem dX9_feed_21 : decode cX9_feed 21 = .ok (.iload_n 2, 1) := by decide +kernel
theorem dX9_feed_22 : decode cX9_feed 22 = .ok (.invokevirtual 179, 3) := by decide +kernel
theorem dX9_feed_25 : decode cX9_feed 25 = .ok (.aload_n 0, 1) := by decide +kernel
theorem dX9_feed_26 : decode cX9_feed 26 = .ok (.iload_n 3, 1) := by decide +kernel
theorem dX9_feed_27 : decode cX9_feed 27 = .ok (.invokevirtual 179, 3) := by decide +kernel
theorem dX9_feed_30 : decode cX9_feed 30 = .ok (.aload_n 0, 1) := by decide +kernel
theorem dX9_feed_31 : decode cX9_feed 31 = .ok (.iload 4, 2) := by decide +kernel
theorem dX9_feed_33 : decode cX9_feed 33 = .ok (.invokevirtual 179, 3) := by decide +kernel
theorem dX9_feed_36 : decode cX9_feed 36 = .ok (.aload_n 0, 1) := by decide +kernel
theorem dX9_feed_37 : decode cX9_feed 37 = .ok (.iload 5, 2) := by decide +kernel
theorem dX9_feed_39 : decode cX9_feed 39 = .ok (.invokevirtual 179, 3) := by decide +kernel
theorem dX9_feed_42 : decode cX9_feed 42 = .ok (.aload_n 0, 1) := by decide +kernel
theorem dX9_feed_43 : decode cX9_feed 43 = .ok (.getfield 176, 3) := by decide +kernel
theorem dX9_feed_46 : decode cX9_feed 46 = .ok (.ireturn, 1) := by decide +kernel
theorem dX9_four_0 : decode cX9_four 0 = .ok (.bipush 24, 2) := by decide +kernel
theorem dX9_four_2 : decode cX9_four 2 = .ok (.istore_n 2, 1) := by decide +kernel
theorem dX9_four_3 : decode cX9_four 3 = .ok (.iload_n 2, 1) := by decide +kernel
theorem dX9_four_4 : decode cX9_four 4 = .ok (.ifCond .lt 35, 3) := by decide +kernel
theorem dX9_four_7 : decode cX9_four 7 = .ok (.aload_n 0, 1) := by decide +kernel
theorem dX9_four_8 : decode cX9_four 8 = .ok (.getfield 7, 3) := by decide +kernel
theorem dX9_four_11 : decode cX9_four 11 = .ok (.aload_n 0, 1) := by decide +kernel
theorem dX9_four_12 : decode cX9_four 12 = .ok (.getfield 176, 3) := by decide +kernel
theorem dX9_four_15 : decode cX9_four 15 = .ok (.iload_n 1, 1) := by decide +kernel
theorem dX9_four_16 : decode cX9_four 16 = .ok (.iload_n 2, 1) := by decide +kernel
theorem dX9_four_17 : decode cX9_four 17 = .ok (.ishr, 1) := by decide +kernel
theorem dX9_four_18 : decode cX9_four 18 = .ok (.sipush 255, 3) := by decide +kernel
theorem dX9_four_21 : decode cX9_four 21 = .ok (.iand, 1) := by decide +kernel
theorem dX9_four_22 : decode cX9_four 22 = .ok (.iastore, 1) := by decide +kernel
theorem dX9_four_23 : decode cX9_four 23 = .ok (.aload_n 0, 1) := by decide +kernel
theorem dX9_four_24 : decode cX9_four 24 = .ok (.dup, 1) := by decide +kernel
theorem dX9_four_25 : decode cX9_four 25 = .ok (.getfield 176, 3) := by decide +kernel
theorem dX9_four_28 : decode cX9_four 28 = .ok (.iconst 1, 1) := by decide +kernel
theorem dX9_four_29 : decode cX9_four 29 = .ok (.iadd, 1) := by decide +kernel
theorem dX9_four_30 : decode cX9_four 30 = .ok (.putfield 176, 3) := by decide +kernel
theorem dX9_four_33 : decode cX9_four 33 = .ok (.iinc 2 (-8), 3) := by decide +kernel
theorem dX9_four_36 : decode cX9_four 36 = .ok (.goto (-33), 3) := by decide +kernel
theorem dX9_four_39 : decode cX9_four 39 = .ok (.return_, 1) := by decide +kernel
theorem dX9_end_0 : decode cX9_end 0 = .ok (.iload_n 1, 1) := by decide +kernel
theorem dX9_end_1 : decode cX9_end 1 = .ok (.ifCond .lt 11, 3) := by decide +kernel
theorem dX9_end_4 : decode cX9_end 4 = .ok (.iload_n 1, 1) := by decide +kernel
theorem dX9_end_5 : decode cX9_end 5 = .ok (.aload_n 0, 1) := by decide +kernel
theorem dX9_end_6 : decode cX9_end 6 = .ok (.getfield 176, 3) := by decide +kernel
theorem dX9_end_9 : decode cX9_end 9 = .ok (.if_icmp .le 5, 3) := by decide +kernel
theorem dX9_end_12 : decode cX9_end 12 = .ok (.iconst (-1), 1) := by decide +kernel
theorem dX9_end_13 : decode cX9_end 13 = .ok (.ireturn, 1) := by decide +kernel
theorem dX9_end_14 : decode cX9_end 14 = .ok (.aload_n 0, 1) := by decide +kernel
theorem dX9_end_15 : decode cX9_end 15 = .ok (.iload_n 1, 1) := by decide +kernel
theorem dX9_end_16 : decode cX9_end 16 = .ok (.putfield 176, 3) := by decide +kernel
theorem dX9_end_19 : decode cX9_end 19 = .ok (.iload_n 1, 1) := by decide +kernel
theorem dX9_end_20 : decode cX9_end 20 = .ok (.ireturn, 1) := by decide +kernel
theorem dX9_here_0 : decode cX9_here 0 = .ok (.aload_n 0, 1) := by decide +kernel
theorem dX9_here_1 : decode cX9_here 1 = .ok (.getfield 183, 3) := by decide +kernel
theorem dX9_here_4 : decode cX9_here 4 = .ok (.iload_n 1, 1) := by decide +kernel
theorem dX9_here_5 : decode cX9_here 5 = .ok (.iadd, 1) := by decide +kernel
theorem dX9_here_6 : decode cX9_here 6 = .ok (.aload_n 0, 1) := by decide +kernel
theorem dX9_here_7 : decode cX9_here 7 = .ok (.getfield 186, 3) := by decide +kernel
theorem dX9_here_10 : decode cX9_here 10 = .ok (.if_icmp .ge 17, 3) := by decide +kernel
theorem dX9_here_13 : decode cX9_here 13 = .ok (.aload_n 0, 1) := by decide +kernel
theorem dX9_here_14 : decode cX9_here 14 = .ok (.getfield 7, 3) := by decide +kernel
theorem dX9_here_17 : decode cX9_here 17 = .ok (.aload_n 0, 1) := by decide +kernel
theorem dX9_here_18 : decode cX9_here 18 = .ok (.getfield 183, 3) := by decide +kernel
theorem dX9_here_21 : decode cX9_here 21 = .ok (.iload_n 1, 1) := by decide +kernel
theorem dX9_here_22 : decode cX9_here 22 = .ok (.iadd, 1) := by decide +kernel
theorem dX9_here_23 : decode cX9_here 23 = .ok (.iaload, 1) := by decide +kernel
theorem dX9_here_24 : decode cX9_here 24 = .ok (.goto 4, 3) := by decide +kernel
theorem dX9_here_27 : decode cX9_here 27 = .ok (.iconst (-1), 1) := by decide +kernel
theorem dX9_here_28 : decode cX9_here 28 = .ok (.ireturn, 1) := by decide +kernel
theorem dX9_isLetter_0 : decode cX9_isLetter 0 = .ok (.iload_n 0, 1) := by decide +kernel
theorem dX9_isLetter_1 : decode cX9_isLetter 1 = .ok (.bipush 97, 2) := by decide +kernel
theorem dX9_isLetter_3 : decode cX9_isLetter 3 = .ok (.if_icmp .lt 13, 3) := by decide +kernel
theorem dX9_isLetter_6 : decode cX9_isLetter 6 = .ok (.iload_n 0, 1) := by decide +kernel
theorem dX9_isLetter_7 : decode cX9_isLetter 7 = .ok (.bipush 122, 2) := by decide +kernel
theorem dX9_isLetter_9 : decode cX9_isLetter 9 = .ok (.if_icmp .gt 7, 3) := by decide +kernel
theorem dX9_isLetter_12 : decode cX9_isLetter 12 = .ok (.iconst 1, 1) := by decide +kernel
theorem dX9_isLetter_13 : decode cX9_isLetter 13 = .ok (.goto 4, 3) := by decide +kernel
theorem dX9_isLetter_16 : decode cX9_isLetter 16 = .ok (.iconst 0, 1) := by decide +kernel
theorem dX9_isLetter_17 : decode cX9_isLetter 17 = .ok (.ireturn, 1) := by decide +kernel
theorem dX9_isDigit_0 : decode cX9_isDigit 0 = .ok (.iload_n 0, 1) := by decide +kernel
theorem dX9_isDigit_1 : decode cX9_isDigit 1 = .ok (.bipush 48, 2) := by decide +kernel
theorem dX9_isDigit_3 : decode cX9_isDigit 3 = .ok (.if_icmp .lt 13, 3) := by decide +kernel
theorem dX9_isDigit_6 : decode cX9_isDigit 6 = .ok (.iload_n 0, 1) := by decide +kernel
theorem dX9_isDigit_7 : decode cX9_isDigit 7 = .ok (.bipush 57, 2) := by decide +kernel
theorem dX9_isDigit_9 : decode cX9_isDigit 9 = .ok (.if_icmp .gt 7, 3) := by decide +kernel
theorem dX9_isDigit_12 : decode cX9_isDigit 12 = .ok (.iconst 1, 1) := by decide +kernel
theorem dX9_isDigit_13 : decode cX9_isDigit 13 = .ok (.goto 4, 3) := by decide +kernel
theorem dX9_isDigit_16 : decode cX9_isDigit 16 = .ok (.iconst 0, 1) := by decide +kernel
theorem dX9_isDigit_17 : decode cX9_isDigit 17 = .ok (.ireturn, 1) := by decide +kernel
theorem dX9_isSign_0 : decode cX9_isSign 0 = .ok (.iload_n 0, 1) := by decide +kernel
theorem dX9_isSign_1 : decode cX9_isSign 1 = .ok (.bipush 59, 2) := by decide +kernel
theorem dX9_isSign_3 : decode cX9_isSign 3 = .ok (.if_icmp .eq 51, 3) := by decide +kernel
theorem dX9_isSign_6 : decode cX9_isSign 6 = .ok (.iload_n 0, 1) := by decide +kernel
theorem dX9_isSign_7 : decode cX9_isSign 7 = .ok (.bipush 40, 2) := by decide +kernel
theorem dX9_isSign_9 : decode cX9_isSign 9 = .ok (.if_icmp .eq 45, 3) := by decide +kernel
theorem dX9_isSign_12 : decode cX9_isSign 12 = .ok (.iload_n 0, 1) := by decide +kernel
theorem dX9_isSign_13 : decode cX9_isSign 13 = .ok (.bipush 41, 2) := by decide +kernel
theorem dX9_isSign_15 : decode cX9_isSign 15 = .ok (.if_icmp .eq 39, 3) := by decide +kernel
theorem dX9_isSign_18 : decode cX9_isSign 18 = .ok (.iload_n 0, 1) := by decide +kernel
theorem dX9_isSign_19 : decode cX9_isSign 19 = .ok (.bipush 60, 2) := by decide +kernel
theorem dX9_isSign_21 : decode cX9_isSign 21 = .ok (.if_icmp .eq 33, 3) := by decide +kernel
theorem dX9_isSign_24 : decode cX9_isSign 24 = .ok (.iload_n 0, 1) := by decide +kernel
theorem dX9_isSign_25 : decode cX9_isSign 25 = .ok (.bipush 62, 2) := by decide +kernel
theorem dX9_isSign_27 : decode cX9_isSign 27 = .ok (.if_icmp .eq 27, 3) := by decide +kernel
theorem dX9_isSign_30 : decode cX9_isSign 30 = .ok (.iload_n 0, 1) := by decide +kernel
theorem dX9_isSign_31 : decode cX9_isSign 31 = .ok (.bipush 61, 2) := by decide +kernel
theorem dX9_isSign_33 : decode cX9_isSign 33 = .ok (.if_icmp .eq 21, 3) := by decide +kernel
theorem dX9_isSign_36 : decode cX9_isSign 36 = .ok (.iload_n 0, 1) := by decide +kernel
theorem dX9_isSign_37 : decode cX9_isSign 37 = .ok (.bipush 43, 2) := by decide +kernel
theorem dX9_isSign_39 : decode cX9_isSign 39 = .ok (.if_icmp .eq 15, 3) := by decide +kernel
theorem dX9_isSign_42 : decode cX9_isSign 42 = .ok (.iload_n 0, 1) := by decide +kernel
theorem dX9_isSign_43 : decode cX9_isSign 43 = .ok (.bipush 45, 2) := by decide +kernel
theorem dX9_isSign_45 : decode cX9_isSign 45 = .ok (.if_icmp .eq 9, 3) := by decide +kernel
theorem dX9_isSign_48 : decode cX9_isSign 48 = .ok (.iload_n 0, 1) := by decide +kernel
theorem dX9_isSign_49 : decode cX9_isSign 49 = .ok (.bipush 42, 2) := by decide +kernel
theorem dX9_isSign_51 : decode cX9_isSign 51 = .ok (.if_icmp .ne 7, 3) := by decide +kernel
theorem dX9_isSign_54 : decode cX9_isSign 54 = .ok (.iconst 1, 1) := by decide +kernel
theorem dX9_isSign_55 : decode cX9_isSign 55 = .ok (.goto 4, 3) := by decide +kernel
theorem dX9_isSign_58 : decode cX9_isSign 58 = .ok (.iconst 0, 1) := by decide +kernel
theorem dX9_isSign_59 : decode cX9_isSign 59 = .ok (.ireturn, 1) := by decide +kernel
theorem dX9_token_0 : decode cX9_token 0 = .ok (.aload_n 0, 1) := by decide +kernel
theorem dX9_token_1 : decode cX9_token 1 = .ok (.iconst 0, 1) := by decide +kernel
theorem dX9_token_2 : decode cX9_token 2 = .ok (.invokevirtual 189, 3) := by decide +kernel
theorem dX9_token_5 : decode cX9_token 5 = .ok (.bipush 32, 2) := by decide +kernel
theorem dX9_token_7 : decode cX9_token 7 = .ok (.if_icmp .eq 13, 3) := by decide +kernel
theorem dX9_token_10 : decode cX9_token 10 = .ok (.aload_n 0, 1) := by decide +kernel
theorem dX9_token_11 : decode cX9_token 11 = .ok (.iconst 0, 1) := by decide +kernel
theorem dX9_token_12 : decode cX9_token 12 = .ok (.invokevirtual 189, 3) := by decide +kernel
theorem dX9_token_15 : decode cX9_token 15 = .ok (.bipush 10, 2) := by decide +kernel
theorem dX9_token_17 : decode cX9_token 17 = .ok (.if_icmp .ne 16, 3) := by decide +kernel
theorem dX9_token_20 : decode cX9_token 20 = .ok (.aload_n 0, 1) := by decide +kernel
theorem dX9_token_21 : decode cX9_token 21 = .ok (.dup, 1) := by decide +kernel
theorem dX9_token_22 : decode cX9_token 22 = .ok (.getfield 183, 3) := by decide +kernel
theorem dX9_token_25 : decode cX9_token 25 = .ok (.iconst 1, 1) := by decide +kernel
theorem dX9_token_26 : decode cX9_token 26 = .ok (.iadd, 1) := by decide +kernel
theorem dX9_token_27 : decode cX9_token 27 = .ok (.putfield 183, 3) := by decide +kernel
theorem dX9_token_30 : decode cX9_token 30 = .ok (.goto (-30), 3) := by decide +kernel
theorem dX9_token_33 : decode cX9_token 33 = .ok (.aload_n 0, 1) := by decide +kernel
theorem dX9_token_34 : decode cX9_token 34 = .ok (.aload_n 0, 1) := by decide +kernel
theorem dX9_token_35 : decode cX9_token 35 = .ok (.getfield 183, 3) := by decide +kernel
theorem dX9_token_38 : decode cX9_token 38 = .ok (.putfield 193, 3) := by decide +kernel
theorem dX9_token_41 : decode cX9_token 41 = .ok (.aload_n 0, 1) := by decide +kernel
theorem dX9_token_42 : decode cX9_token 42 = .ok (.iconst 0, 1) := by decide +kernel
theorem dX9_token_43 : decode cX9_token 43 = .ok (.invokevirtual 189, 3) := by decide +kernel
theorem dX9_token_46 : decode cX9_token 46 = .ok (.istore_n 1, 1) := by decide +kernel
theorem dX9_token_47 : decode cX9_token 47 = .ok (.iconst 0, 1) := by decide +kernel
theorem dX9_token_48 : decode cX9_token 48 = .ok (.istore_n 2, 1) := by decide +kernel
theorem dX9_token_49 : decode cX9_token 49 = .ok (.aload_n 0, 1) := by decide +kernel
theorem dX9_token_50 : decode cX9_token 50 = .ok (.lconst 0, 1) := by decide +kernel
theorem dX9_token_51 : decode cX9_token 51 = .ok (.putfield 196, 3) := by decide +kernel
theorem dX9_token_54 : decode cX9_token 54 = .ok (.aload_n 0, 1) := by decide +kernel
theorem dX9_token_55 : decode cX9_token 55 = .ok (.iconst 0, 1) := by decide +kernel
theorem dX9_token_56 : decode cX9_token 56 = .ok (.putfield 200, 3) := by decide +kernel
theorem dX9_token_59 : decode cX9_token 59 = .ok (.iload_n 1, 1) := by decide +kernel
theorem dX9_token_60 : decode cX9_token 60 = .ok (.ifCond .ge 11, 3) := by decide +kernel
theorem dX9_token_63 : decode cX9_token 63 = .ok (.aload_n 0, 1) := by decide +kernel
theorem dX9_token_64 : decode cX9_token 64 = .ok (.iconst 0, 1) := by decide +kernel
theorem dX9_token_65 : decode cX9_token 65 = .ok (.putfield 203, 3) := by decide +kernel
theorem dX9_token_68 : decode cX9_token 68 = .ok (.goto 164, 3) := by decide +kernel
theorem dX9_token_71 : decode cX9_token 71 = .ok (.iload_n 1, 1) := by decide +kernel
theorem dX9_token_72 : decode cX9_token 72 = .ok (.invokestatic 206, 3) := by decide +kernel
theorem dX9_token_75 : decode cX9_token 75 = .ok (.ifCond .eq 62, 3) := by decide +kernel
theorem dX9_token_78 : decode cX9_token 78 = .ok (.aload_n 0, 1) := by decide +kernel
theorem dX9_token_79 : decode cX9_token 79 = .ok (.iload_n 2, 1) := by decide +kernel
theorem dX9_token_80 : decode cX9_token 80 = .ok (.invokevirtual 189, 3) := by decide +kernel
theorem dX9_token_83 : decode cX9_token 83 = .ok (.invokestatic 206, 3) := by decide +kernel
theorem dX9_token_86 : decode cX9_token 86 = .ok (.ifCond .eq 33, 3) := by decide +kernel
theorem dX9_token_89 : decode cX9_token 89 = .ok (.iload_n 2, 1) := by decide +kernel
theorem dX9_token_90 : decode cX9_token 90 = .ok (.bipush 8, 2) := by decide +kernel
theorem dX9_token_92 : decode cX9_token 92 = .ok (.if_icmp .ge 21, 3) := by decide +kernel
theorem dX9_token_95 : decode cX9_token 95 = .ok (.aload_n 0, 1) := by decide +kernel
theorem dX9_token_96 : decode cX9_token 96 = .ok (.aload_n 0, 1) := by decide +kernel
theorem dX9_token_97 : decode cX9_token 97 = .ok (.getfield 196, 3) := by decide +kernel
theorem dX9_token_100 : decode cX9_token 100 = .ok (.bipush 8, 2) := by decide +kernel
theorem dX9_token_102 : decode cX9_token 102 = .ok (.lshl, 1) := by decide +kernel
theorem dX9_token_103 : decode cX9_token 103 = .ok (.aload_n 0, 1) := by decide +kernel
theorem dX9_token_104 : decode cX9_token 104 = .ok (.iload_n 2, 1) := by decide +kernel
theorem dX9_token_105 : decode cX9_token 105 = .ok (.invokevirtual 189, 3) := by decide +kernel
theorem dX9_token_108 : decode cX9_token 108 = .ok (.i2l, 1) := by decide +kernel
theorem dX9_token_109 : decode cX9_token 109 = .ok (.lor, 1) := by decide +kernel
theorem dX9_token_110 : decode cX9_token 110 = .ok (.putfield 196, 3) := by decide +kernel
theorem dX9_token_113 : decode cX9_token 113 = .ok (.iinc 2 1, 3) := by decide +kernel
theorem dX9_token_116 : decode cX9_token 116 = .ok (.goto (-38), 3) := by decide +kernel
theorem dX9_token_119 : decode cX9_token 119 = .ok (.aload_n 0, 1) := by decide +kernel
theorem dX9_token_120 : decode cX9_token 120 = .ok (.iload_n 2, 1) := by decide +kernel
theorem dX9_token_121 : decode cX9_token 121 = .ok (.bipush 8, 2) := by decide +kernel
theorem dX9_token_123 : decode cX9_token 123 = .ok (.if_icmp .le 7, 3) := by decide +kernel
theorem dX9_token_126 : decode cX9_token 126 = .ok (.iconst 3, 1) := by decide +kernel
theorem dX9_token_127 : decode cX9_token 127 = .ok (.goto 4, 3) := by decide +kernel
theorem dX9_token_130 : decode cX9_token 130 = .ok (.iconst 1, 1) := by decide +kernel
theorem dX9_token_131 : decode cX9_token 131 = .ok (.putfield 203, 3) := by decide +kernel
theorem dX9_token_134 : decode cX9_token 134 = .ok (.goto 98, 3) := by decide +kernel
theorem dX9_token_137 : decode cX9_token 137 = .ok (.iload_n 1, 1) := by decide +kernel
theorem dX9_token_138 : decode cX9_token 138 = .ok (.invokestatic 210, 3) := by decide +kernel
theorem dX9_token_141 : decode cX9_token 141 = .ok (.ifCond .eq 73, 3) := by decide +kernel
theorem dX9_token_144 : decode cX9_token 144 = .ok (.aload_n 0, 1) := by decide +kernel
theorem dX9_token_145 : decode cX9_token 145 = .ok (.iload_n 2, 1) := by decide +kernel
theorem dX9_token_146 : decode cX9_token 146 = .ok (.invokevirtual 189, 3) := by decide +kernel
theorem dX9_token_149 : decode cX9_token 149 = .ok (.invokestatic 210, 3) := by decide +kernel
theorem dX9_token_152 : decode cX9_token 152 = .ok (.ifCond .eq 34, 3) := by decide +kernel
theorem dX9_token_155 : decode cX9_token 155 = .ok (.iload_n 2, 1) := by decide +kernel
theorem dX9_token_156 : decode cX9_token 156 = .ok (.iconst 4, 1) := by decide +kernel
theorem dX9_token_157 : decode cX9_token 157 = .ok (.if_icmp .ge 23, 3) := by decide +kernel
theorem dX9_token_160 : decode cX9_token 160 = .ok (.aload_n 0, 1) := by decide +kernel
theorem dX9_token_161 : decode cX9_token 161 = .ok (.bipush 10, 2) := by decide +kernel
theorem dX9_token_163 : decode cX9_token 163 = .ok (.aload_n 0, 1) := by decide +kernel
theorem dX9_token_164 : decode cX9_token 164 = .ok (.getfield 200, 3) := by decide +kernel
theorem dX9_token_167 : decode cX9_token 167 = .ok (.imul, 1) := by decide +kernel
theorem dX9_token_168 : decode cX9_token 168 = .ok (.aload_n 0, 1) := by decide +kernel
theorem dX9_token_169 : decode cX9_token 169 = .ok (.iload_n 2, 1) := by decide +kernel
theorem dX9_token_170 : decode cX9_token 170 = .ok (.invokevirtual 189, 3) := by decide +kernel
theorem dX9_token_173 : decode cX9_token 173 = .ok (.iadd, 1) := by decide +kernel
theorem dX9_token_174 : decode cX9_token 174 = .ok (.bipush 48, 2) := by decide +kernel
theorem dX9_token_176 : decode cX9_token 176 = .ok (.isub, 1) := by decide +kernel
theorem dX9_token_177 : decode cX9_token 177 = .ok (.putfield 200, 3) := by decide +kernel
theorem dX9_token_180 : decode cX9_token 180 = .ok (.iinc 2 1, 3) := by decide +kernel
theorem dX9_token_183 : decode cX9_token 183 = .ok (.goto (-39), 3) := by decide +kernel
theorem dX9_token_186 : decode cX9_token 186 = .ok (.aload_n 0, 1) := by decide +kernel
theorem dX9_token_187 : decode cX9_token 187 = .ok (.iload_n 2, 1) := by decide +kernel
theorem dX9_token_188 : decode cX9_token 188 = .ok (.iconst 4, 1) := by decide +kernel
theorem dX9_token_189 : decode cX9_token 189 = .ok (.if_icmp .gt 14, 3) := by decide +kernel
theorem dX9_token_192 : decode cX9_token 192 = .ok (.aload_n 0, 1) := by decide +kernel
theorem dX9_token_193 : decode cX9_token 193 = .ok (.iload_n 2, 1) := by decide +kernel
theorem dX9_token_194 : decode cX9_token 194 = .ok (.invokevirtual 189, 3) := by decide +kernel
theorem dX9_token_197 : decode cX9_token 197 = .ok (.invokestatic 206, 3) := by decide +kernel
theorem dX9_token_200 : decode cX9_token 200 = .ok (.ifCond .eq 7, 3) := by decide +kernel
theorem dX9_token_203 : decode cX9_token 203 = .ok (.iconst 3, 1) := by decide +kernel
theorem dX9_token_204 : decode cX9_token 204 = .ok (.goto 4, 3) := by decide +kernel
theorem dX9_token_207 : decode cX9_token 207 = .ok (.iconst 2, 1) := by decide +kernel
theorem dX9_token_208 : decode cX9_token 208 = .ok (.putfield 203, 3) := by decide +kernel
theorem dX9_token_211 : decode cX9_token 211 = .ok (.goto 21, 3) := by decide +kernel
theorem dX9_token_214 : decode cX9_token 214 = .ok (.iconst 1, 1) := by decide +kernel
theorem dX9_token_215 : decode cX9_token 215 = .ok (.istore_n 2, 1) := by decide +kernel
theorem dX9_token_216 : decode cX9_token 216 = .ok (.aload_n 0, 1) := by decide +kernel
theorem dX9_token_217 : decode cX9_token 217 = .ok (.iload_n 1, 1) := by decide +kernel
theorem dX9_token_218 : decode cX9_token 218 = .ok (.invokestatic 213, 3) := by decide +kernel
theorem dX9_token_221 : decode cX9_token 221 = .ok (.ifCond .eq 7, 3) := by decide +kernel
theorem dX9_token_224 : decode cX9_token 224 = .ok (.iload_n 1, 1) := by decide +kernel
theorem dX9_token_225 : decode cX9_token 225 = .ok (.goto 4, 3) := by decide +kernel
theorem dX9_token_228 : decode cX9_token 228 = .ok (.iconst 3, 1) := by decide +kernel
theorem dX9_token_229 : decode cX9_token 229 = .ok (.putfield 203, 3) := by decide +kernel
theorem dX9_token_232 : decode cX9_token 232 = .ok (.aload_n 0, 1) := by decide +kernel
theorem dX9_token_233 : decode cX9_token 233 = .ok (.getfield 203, 3) := by decide +kernel
theorem dX9_token_236 : decode cX9_token 236 = .ok (.iconst 3, 1) := by decide +kernel
theorem dX9_token_237 : decode cX9_token 237 = .ok (.if_icmp .eq 13, 3) := by decide +kernel
theorem dX9_token_240 : decode cX9_token 240 = .ok (.aload_n 0, 1) := by decide +kernel
theorem dX9_token_241 : decode cX9_token 241 = .ok (.dup, 1) := by decide +kernel
theorem dX9_token_242 : decode cX9_token 242 = .ok (.getfield 183, 3) := by decide +kernel
theorem dX9_token_245 : decode cX9_token 245 = .ok (.iload_n 2, 1) := by decide +kernel
theorem dX9_token_246 : decode cX9_token 246 = .ok (.iadd, 1) := by decide +kernel
theorem dX9_token_247 : decode cX9_token 247 = .ok (.putfield 183, 3) := by decide +kernel
theorem dX9_token_250 : decode cX9_token 250 = .ok (.return_, 1) := by decide +kernel
theorem dX9_wrongAt_0 : decode cX9_wrongAt 0 = .ok (.aload_n 0, 1) := by decide +kernel
theorem dX9_wrongAt_1 : decode cX9_wrongAt 1 = .ok (.getfield 216, 3) := by decide +kernel
theorem dX9_wrongAt_4 : decode cX9_wrongAt 4 = .ok (.ifCond .le 4, 3) := by decide +kernel
theorem dX9_wrongAt_7 : decode cX9_wrongAt 7 = .ok (.return_, 1) := by decide +kernel
theorem dX9_wrongAt_8 : decode cX9_wrongAt 8 = .ok (.aload_n 0, 1) := by decide +kernel
theorem dX9_wrongAt_9 : decode cX9_wrongAt 9 = .ok (.aload_n 0, 1) := by decide +kernel
theorem dX9_wrongAt_10 : decode cX9_wrongAt 10 = .ok (.getfield 203, 3) := by decide +kernel
theorem dX9_wrongAt_13 : decode cX9_wrongAt 13 = .ok (.iconst 3, 1) := by decide +kernel
theorem dX9_wrongAt_14 : decode cX9_wrongAt 14 = .ok (.if_icmp .ne 15, 3) := by decide +kernel
theorem dX9_wrongAt_17 : decode cX9_wrongAt 17 = .ok (.iload_n 2, 1) := by decide +kernel
theorem dX9_wrongAt_18 : decode cX9_wrongAt 18 = .ok (.aload_n 0, 1) := by decide +kernel
theorem dX9_wrongAt_19 : decode cX9_wrongAt 19 = .ok (.getfield 193, 3) := by decide +kernel
theorem dX9_wrongAt_22 : decode cX9_wrongAt 22 = .ok (.if_icmp .ne 7, 3) := by decide +kernel
theorem dX9_wrongAt_25 : decode cX9_wrongAt 25 = .ok (.iconst 1, 1) := by decide +kernel
theorem dX9_wrongAt_26 : decode cX9_wrongAt 26 = .ok (.goto 4, 3) := by decide +kernel
theorem dX9_wrongAt_29 : decode cX9_wrongAt 29 = .ok (.iload_n 1, 1) := by decide +kernel
theorem dX9_wrongAt_30 : decode cX9_wrongAt 30 = .ok (.putfield 216, 3) := by decide +kernel
theorem dX9_wrongAt_33 : decode cX9_wrongAt 33 = .ok (.aload_n 0, 1) := by decide +kernel
theorem dX9_wrongAt_34 : decode cX9_wrongAt 34 = .ok (.iload_n 2, 1) := by decide +kernel
theorem dX9_wrongAt_35 : decode cX9_wrongAt 35 = .ok (.putfield 13, 3) := by decide +kernel
theorem dX9_wrongAt_38 : decode cX9_wrongAt 38 = .ok (.return_, 1) := by decide +kernel
theorem dX9_wrong_0 : decode cX9_wrong 0 = .ok (.aload_n 0, 1) := by decide +kernel
theorem dX9_wrong_1 : decode cX9_wrong 1 = .ok (.iload_n 1, 1) := by decide +kernel
theorem dX9_wrong_2 : decode cX9_wrong 2 = .ok (.aload_n 0, 1) := by decide +kernel
theorem dX9_wrong_3 : decode cX9_wrong 3 = .ok (.getfield 193, 3) := by decide +kernel
theorem dX9_wrong_6 : decode cX9_wrong 6 = .ok (.invokevirtual 219, 3) := by decide +kernel
theorem dX9_wrong_9 : decode cX9_wrong 9 = .ok (.return_, 1) := by decide +kernel
theorem dX9_isWord_0 : decode cX9_isWord 0 = .ok (.aload_n 0, 1) := by decide +kernel
theorem dX9_isWord_1 : decode cX9_isWord 1 = .ok (.getfield 203, 3) := by decide +kernel
theorem dX9_isWord_4 : decode cX9_isWord 4 = .ok (.iconst 1, 1) := by decide +kernel
theorem dX9_isWord_5 : decode cX9_isWord 5 = .ok (.if_icmp .ne 16, 3) := by decide +kernel
theorem dX9_isWord_8 : decode cX9_isWord 8 = .ok (.aload_n 0, 1) := by decide +kernel
theorem dX9_isWord_9 : decode cX9_isWord 9 = .ok (.getfield 196, 3) := by decide +kernel
theorem dX9_isWord_12 : decode cX9_isWord 12 = .ok (.lload_n 1, 1) := by decide +kernel
theorem dX9_isWord_13 : decode cX9_isWord 13 = .ok (.lcmp, 1) := by decide +kernel
theorem dX9_isWord_14 : decode cX9_isWord 14 = .ok (.ifCond .ne 7, 3) := by decide +kernel
theorem dX9_isWord_17 : decode cX9_isWord 17 = .ok (.iconst 1, 1) := by decide +kernel
theorem dX9_isWord_18 : decode cX9_isWord 18 = .ok (.goto 4, 3) := by decide +kernel
theorem dX9_isWord_21 : decode cX9_isWord 21 = .ok (.iconst 0, 1) := by decide +kernel
theorem dX9_isWord_22 : decode cX9_isWord 22 = .ok (.ireturn, 1) := by decide +kernel
theorem dX9_isName_0 : decode cX9_isName 0 = .ok (.aload_n 0, 1) := by decide +kernel
theorem dX9_isName_1 : decode cX9_isName 1 = .ok (.getfield 203, 3) := by decide +kernel
theorem dX9_isName_4 : decode cX9_isName 4 = .ok (.iconst 1, 1) := by decide +kernel
theorem dX9_isName_5 : decode cX9_isName 5 = .ok (.if_icmp .eq 5, 3) := by decide +kernel
theorem dX9_isName_8 : decode cX9_isName 8 = .ok (.iconst 0, 1) := by decide +kernel
theorem dX9_isName_9 : decode cX9_isName 9 = .ok (.ireturn, 1) := by decide +kernel
theorem dX9_isName_10 : decode cX9_isName 10 = .ok (.aload_n 0, 1) := by decide +kernel
theorem dX9_isName_11 : decode cX9_isName 11 = .ok (.getfield 196, 3) := by decide +kernel
theorem dX9_isName_14 : decode cX9_isName 14 = .ok (.ldc2_w 223, 3) := by decide +kernel
theorem dX9_isName_17 : decode cX9_isName 17 = .ok (.lcmp, 1) := by decide +kernel
theorem dX9_isName_18 : decode cX9_isName 18 = .ok (.ifCond .eq 113, 3) := by decide +kernel
theorem dX9_isName_21 : decode cX9_isName 21 = .ok (.aload_n 0, 1) := by decide +kernel
theorem dX9_isName_22 : decode cX9_isName 22 = .ok (.getfield 196, 3) := by decide +kernel
theorem dX9_isName_25 : decode cX9_isName 25 = .ok (.ldc2_w 225, 3) := by decide +kernel
theorem dX9_isName_28 : decode cX9_isName 28 = .ok (.lcmp, 1) := by decide +kernel
theorem dX9_isName_29 : decode cX9_isName 29 = .ok (.ifCond .eq 102, 3) := by decide +kernel
theorem dX9_isName_32 : decode cX9_isName 32 = .ok (.aload_n 0, 1) := by decide +kernel
theorem dX9_isName_33 : decode cX9_isName 33 = .ok (.getfield 196, 3) := by decide +kernel
theorem dX9_isName_36 : decode cX9_isName 36 = .ok (.ldc2_w 227, 3) := by decide +kernel
theorem dX9_isName_39 : decode cX9_isName 39 = .ok (.lcmp, 1) := by decide +kernel
theorem dX9_isName_40 : decode cX9_isName 40 = .ok (.ifCond .eq 91, 3) := by decide +kernel
theorem dX9_isName_43 : decode cX9_isName 43 = .ok (.aload_n 0, 1) := by decide +kernel
theorem dX9_isName_44 : decode cX9_isName 44 = .ok (.getfield 196, 3) := by decide +kernel
theorem dX9_isName_47 : decode cX9_isName 47 = .ok (.ldc2_w 229, 3) := by decide +kernel
theorem dX9_isName_50 : decode cX9_isName 50 = .ok (.lcmp, 1) := by decide +kernel
theorem dX9_isName_51 : decode cX9_isName 51 = .ok (.ifCond .eq 80, 3) := by decide +kernel
theorem dX9_isName_54 : decode cX9_isName 54 = .ok (.aload_n 0, 1) := by decide +kernel
theorem dX9_isName_55 : decode cX9_isName 55 = .ok (.getfield 196, 3) := by decide +kernel
theorem dX9_isName_58 : decode cX9_isName 58 = .ok (.ldc2_w 231, 3) := by decide +kernel
theorem dX9_isName_61 : decode cX9_isName 61 = .ok (.lcmp, 1) := by decide +kernel
theorem dX9_isName_62 : decode cX9_isName 62 = .ok (.ifCond .eq 69, 3) := by decide +kernel
theorem dX9_isName_65 : decode cX9_isName 65 = .ok (.aload_n 0, 1) := by decide +kernel
theorem dX9_isName_66 : decode cX9_isName 66 = .ok (.getfield 196, 3) := by decide +kernel
theorem dX9_isName_69 : decode cX9_isName 69 = .ok (.ldc2_w 233, 3) := by decide +kernel
theorem dX9_isName_72 : decode cX9_isName 72 = .ok (.lcmp, 1) := by decide +kernel
theorem dX9_isName_73 : decode cX9_isName 73 = .ok (.ifCond .eq 58, 3) := by decide +kernel
theorem dX9_isName_76 : decode cX9_isName 76 = .ok (.aload_n 0, 1) := by decide +kernel
theorem dX9_isName_77 : decode cX9_isName 77 = .ok (.getfield 196, 3) := by decide +kernel
theorem dX9_isName_80 : decode cX9_isName 80 = .ok (.ldc2_w 235, 3) := by decide +kernel
theorem dX9_isName_83 : decode cX9_isName 83 = .ok (.lcmp, 1) := by decide +kernel
theorem dX9_isName_84 : decode cX9_isName 84 = .ok (.ifCond .eq 47, 3) := by decide +kernel
theorem dX9_isName_87 : decode cX9_isName 87 = .ok (.aload_n 0, 1) := by decide +kernel
theorem dX9_isName_88 : decode cX9_isName 88 = .ok (.getfield 196, 3) := by decide +kernel
theorem dX9_isName_91 : decode cX9_isName 91 = .ok (.ldc2_w 237, 3) := by decide +kernel
theorem dX9_isName_94 : decode cX9_isName 94 = .ok (.lcmp, 1) := by decide +kernel
theorem dX9_isName_95 : decode cX9_isName 95 = .ok (.ifCond .eq 36, 3) := by decide +kernel
theorem dX9_isName_98 : decode cX9_isName 98 = .ok (.aload_n 0, 1) := by decide +kernel
theorem dX9_isName_99 : decode cX9_isName 99 = .ok (.getfield 196, 3) := by decide +kernel
theorem dX9_isName_102 : decode cX9_isName 102 = .ok (.ldc2_w 239, 3) := by decide +kernel
theorem dX9_isName_105 : decode cX9_isName 105 = .ok (.lcmp, 1) := by decide +kernel
theorem dX9_isName_106 : decode cX9_isName 106 = .ok (.ifCond .eq 25, 3) := by decide +kernel
theorem dX9_isName_109 : decode cX9_isName 109 = .ok (.aload_n 0, 1) := by decide +kernel
theorem dX9_isName_110 : decode cX9_isName 110 = .ok (.getfield 196, 3) := by decide +kernel
theorem dX9_isName_113 : decode cX9_isName 113 = .ok (.ldc2_w 241, 3) := by decide +kernel
theorem dX9_isName_116 : decode cX9_isName 116 = .ok (.lcmp, 1) := by decide +kernel
theorem dX9_isName_117 : decode cX9_isName 117 = .ok (.ifCond .eq 14, 3) := by decide +kernel
theorem dX9_isName_120 : decode cX9_isName 120 = .ok (.aload_n 0, 1) := by decide +kernel
theorem dX9_isName_121 : decode cX9_isName 121 = .ok (.getfield 196, 3) := by decide +kernel
theorem dX9_isName_124 : decode cX9_isName 124 = .ok (.ldc2_w 243, 3) := by decide +kernel
theorem dX9_isName_127 : decode cX9_isName 127 = .ok (.lcmp, 1) := by decide +kernel
theorem dX9_isName_128 : decode cX9_isName 128 = .ok (.ifCond .ne 7, 3) := by decide +kernel
theorem dX9_isName_131 : decode cX9_isName 131 = .ok (.iconst 1, 1) := by decide +kernel
theorem dX9_isName_132 : decode cX9_isName 132 = .ok (.goto 4, 3) := by decide +kernel
theorem dX9_isName_135 : decode cX9_isName 135 = .ok (.iconst 0, 1) := by decide +kernel
theorem dX9_isName_136 : decode cX9_isName 136 = .ok (.istore_n 1, 1) := by decide +kernel
theorem dX9_isName_137 : decode cX9_isName 137 = .ok (.aload_n 0, 1) := by decide +kernel
theorem dX9_isName_138 : decode cX9_isName 138 = .ok (.getfield 196, 3) := by decide +kernel
theorem dX9_isName_141 : decode cX9_isName 141 = .ok (.ldc2_w 245, 3) := by decide +kernel
theorem dX9_isName_144 : decode cX9_isName 144 = .ok (.lcmp, 1) := by decide +kernel
theorem dX9_isName_145 : decode cX9_isName 145 = .ok (.ifCond .eq 102, 3) := by decide +kernel
theorem dX9_isName_148 : decode cX9_isName 148 = .ok (.aload_n 0, 1) := by decide +kernel
theorem dX9_isName_149 : decode cX9_isName 149 = .ok (.getfield 196, 3) := by decide +kernel
theorem dX9_isName_152 : decode cX9_isName 152 = .ok (.ldc2_w 247, 3) := by decide +kernel
theorem dX9_isName_155 : decode cX9_isName 155 = .ok (.lcmp, 1) := by decide +kernel
theorem dX9_isName_156 : decode cX9_isName 156 = .ok (.ifCond .eq 91, 3) := by decide +kernel
theorem dX9_isName_159 : decode cX9_isName 159 = .ok (.aload_n 0, 1) := by decide +kernel
theorem dX9_isName_160 : decode cX9_isName 160 = .ok (.getfield 196, 3) := by decide +kernel
theorem dX9_isName_163 : decode cX9_isName 163 = .ok (.ldc2_w 249, 3) := by decide +kernel
theorem dX9_isName_166 : decode cX9_isName 166 = .ok (.lcmp, 1) := by decide +kernel
theorem dX9_isName_167 : decode cX9_isName 167 = .ok (.ifCond .eq 80, 3) := by decide +kernel
theorem dX9_isName_170 : decode cX9_isName 170 = .ok (.aload_n 0, 1) := by decide +kernel
theorem dX9_isName_171 : decode cX9_isName 171 = .ok (.getfield 196, 3) := by decide +kernel
theorem dX9_isName_174 : decode cX9_isName 174 = .ok (.ldc2_w 251, 3) := by decide +kernel
theorem dX9_isName_177 : decode cX9_isName 177 = .ok (.lcmp, 1) := by decide +kernel
theorem dX9_isName_178 : decode cX9_isName 178 = .ok (.ifCond .eq 69, 3) := by decide +kernel
theorem dX9_isName_181 : decode cX9_isName 181 = .ok (.aload_n 0, 1) := by decide +kernel
theorem dX9_isName_182 : decode cX9_isName 182 = .ok (.getfield 196, 3) := by decide +kernel
theorem dX9_isName_185 : decode cX9_isName 185 = .ok (.ldc2_w 253, 3) := by decide +kernel
theorem dX9_isName_188 : decode cX9_isName 188 = .ok (.lcmp, 1) := by decide +kernel
theorem dX9_isName_189 : decode cX9_isName 189 = .ok (.ifCond .eq 58, 3) := by decide +kernel
theorem dX9_isName_192 : decode cX9_isName 192 = .ok (.aload_n 0, 1) := by decide +kernel
theorem dX9_isName_193 : decode cX9_isName 193 = .ok (.getfield 196, 3) := by decide +kernel
theorem dX9_isName_196 : decode cX9_isName 196 = .ok (.ldc2_w 255, 3) := by decide +kernel
theorem dX9_isName_199 : decode cX9_isName 199 = .ok (.lcmp, 1) := by decide +kernel
theorem dX9_isName_200 : decode cX9_isName 200 = .ok (.ifCond .eq 47, 3) := by decide +kernel
theorem dX9_isName_203 : decode cX9_isName 203 = .ok (.aload_n 0, 1) := by decide +kernel
theorem dX9_isName_204 : decode cX9_isName 204 = .ok (.getfield 196, 3) := by decide +kernel
theorem dX9_isName_207 : decode cX9_isName 207 = .ok (.ldc2_w 257, 3) := by decide +kernel
theorem dX9_isName_210 : decode cX9_isName 210 = .ok (.lcmp, 1) := by decide +kernel
theorem dX9_isName_211 : decode cX9_isName 211 = .ok (.ifCond .eq 36, 3) := by decide +kernel
theorem dX9_isName_214 : decode cX9_isName 214 = .ok (.aload_n 0, 1) := by decide +kernel
theorem dX9_isName_215 : decode cX9_isName 215 = .ok (.getfield 196, 3) := by decide +kernel
theorem dX9_isName_218 : decode cX9_isName 218 = .ok (.ldc2_w 259, 3) := by decide +kernel
theorem dX9_isName_221 : decode cX9_isName 221 = .ok (.lcmp, 1) := by decide +kernel
theorem dX9_isName_222 : decode cX9_isName 222 = .ok (.ifCond .eq 25, 3) := by decide +kernel
theorem dX9_isName_225 : decode cX9_isName 225 = .ok (.aload_n 0, 1) := by decide +kernel
theorem dX9_isName_226 : decode cX9_isName 226 = .ok (.getfield 196, 3) := by decide +kernel
theorem dX9_isName_229 : decode cX9_isName 229 = .ok (.ldc2_w 261, 3) := by decide +kernel
theorem dX9_isName_232 : decode cX9_isName 232 = .ok (.lcmp, 1) := by decide +kernel
theorem dX9_isName_233 : decode cX9_isName 233 = .ok (.ifCond .eq 14, 3) := by decide +kernel
theorem dX9_isName_236 : decode cX9_isName 236 = .ok (.aload_n 0, 1) := by decide +kernel
theorem dX9_isName_237 : decode cX9_isName 237 = .ok (.getfield 196, 3) := by decide +kernel
theorem dX9_isName_240 : decode cX9_isName 240 = .ok (.ldc2_w 263, 3) := by decide +kernel
theorem dX9_isName_243 : decode cX9_isName 243 = .ok (.lcmp, 1) := by decide +kernel
theorem dX9_isName_244 : decode cX9_isName 244 = .ok (.ifCond .ne 7, 3) := by decide +kernel
theorem dX9_isName_247 : decode cX9_isName 247 = .ok (.iconst 1, 1) := by decide +kernel
theorem dX9_isName_248 : decode cX9_isName 248 = .ok (.goto 4, 3) := by decide +kernel
theorem dX9_isName_251 : decode cX9_isName 251 = .ok (.iconst 0, 1) := by decide +kernel
theorem dX9_isName_252 : decode cX9_isName 252 = .ok (.istore_n 2, 1) := by decide +kernel
theorem dX9_isName_253 : decode cX9_isName 253 = .ok (.iload_n 1, 1) := by decide +kernel
theorem dX9_isName_254 : decode cX9_isName 254 = .ok (.ifCond .ne 11, 3) := by decide +kernel
theorem dX9_isName_257 : decode cX9_isName 257 = .ok (.iload_n 2, 1) := by decide +kernel
theorem dX9_isName_258 : decode cX9_isName 258 = .ok (.ifCond .ne 7, 3) := by decide +kernel
theorem dX9_isName_261 : decode cX9_isName 261 = .ok (.iconst 1, 1) := by decide +kernel
theorem dX9_isName_262 : decode cX9_isName 262 = .ok (.goto 4, 3) := by decide +kernel
theorem dX9_isName_265 : decode cX9_isName 265 = .ok (.iconst 0, 1) := by decide +kernel
theorem dX9_isName_266 : decode cX9_isName 266 = .ok (.ireturn, 1) := by decide +kernel
theorem dX9_want_0 : decode cX9_want 0 = .ok (.aload_n 0, 1) := by decide +kernel
theorem dX9_want_1 : decode cX9_want 1 = .ok (.getfield 216, 3) := by decide +kernel
theorem dX9_want_4 : decode cX9_want 4 = .ok (.ifCond .le 4, 3) := by decide +kernel
theorem dX9_want_7 : decode cX9_want 7 = .ok (.return_, 1) := by decide +kernel
theorem dX9_want_8 : decode cX9_want 8 = .ok (.aload_n 0, 1) := by decide +kernel
theorem dX9_want_9 : decode cX9_want 9 = .ok (.lload_n 1, 1) := by decide +kernel
theorem dX9_want_10 : decode cX9_want 10 = .ok (.invokevirtual 265, 3) := by decide +kernel
theorem dX9_want_13 : decode cX9_want 13 = .ok (.ifCond .ne 11, 3) := by decide +kernel
theorem dX9_want_16 : decode cX9_want 16 = .ok (.aload_n 0, 1) := by decide +kernel
theorem dX9_want_17 : decode cX9_want 17 = .ok (.iconst 2, 1) := by decide +kernel
theorem dX9_want_18 : decode cX9_want 18 = .ok (.invokevirtual 269, 3) := by decide +kernel
theorem dX9_want_21 : decode cX9_want 21 = .ok (.goto 7, 3) := by decide +kernel
theorem dX9_want_24 : decode cX9_want 24 = .ok (.aload_n 0, 1) := by decide +kernel
theorem dX9_want_25 : decode cX9_want 25 = .ok (.invokevirtual 272, 3) := by decide +kernel
theorem dX9_want_28 : decode cX9_want 28 = .ok (.return_, 1) := by decide +kernel
theorem dX9_toldNumber_0 : decode cX9_toldNumber 0 = .ok (.aload_n 0, 1) := by decide +kernel
theorem dX9_toldNumber_1 : decode cX9_toldNumber 1 = .ok (.getfield 216, 3) := by decide +kernel
theorem dX9_toldNumber_4 : decode cX9_toldNumber 4 = .ok (.ifCond .le 5, 3) := by decide +kernel
theorem dX9_toldNumber_7 : decode cX9_toldNumber 7 = .ok (.iconst 0, 1) := by decide +kernel
theorem dX9_toldNumber_8 : decode cX9_toldNumber 8 = .ok (.ireturn, 1) := by decide +kernel
theorem dX9_toldNumber_9 : decode cX9_toldNumber 9 = .ok (.aload_n 0, 1) := by decide +kernel
theorem dX9_toldNumber_10 : decode cX9_toldNumber 10 = .ok (.getfield 203, 3) := by decide +kernel
theorem dX9_toldNumber_13 : decode cX9_toldNumber 13 = .ok (.iconst 2, 1) := by decide +kernel
theorem dX9_toldNumber_14 : decode cX9_toldNumber 14 = .ok (.if_icmp .eq 11, 3) := by decide +kernel
theorem dX9_toldNumber_17 : decode cX9_toldNumber 17 = .ok (.aload_n 0, 1) := by decide +kernel
theorem dX9_toldNumber_18 : decode cX9_toldNumber 18 = .ok (.iconst 2, 1) := by decide +kernel
theorem dX9_toldNumber_19 : decode cX9_toldNumber 19 = .ok (.invokevirtual 269, 3) := by decide +kernel
theorem dX9_toldNumber_22 : decode cX9_toldNumber 22 = .ok (.goto 24, 3) := by decide +kernel
theorem dX9_toldNumber_25 : decode cX9_toldNumber 25 = .ok (.aload_n 0, 1) := by decide +kernel
theorem dX9_toldNumber_26 : decode cX9_toldNumber 26 = .ok (.getfield 200, 3) := by decide +kernel
theorem dX9_toldNumber_29 : decode cX9_toldNumber 29 = .ok (.iload_n 1, 1) := by decide +kernel
theorem dX9_toldNumber_30 : decode cX9_toldNumber 30 = .ok (.if_icmp .lt 11, 3) := by decide +kernel
theorem dX9_toldNumber_33 : decode cX9_toldNumber 33 = .ok (.aload_n 0, 1) := by decide +kernel
theorem dX9_toldNumber_34 : decode cX9_toldNumber 34 = .ok (.getfield 200, 3) := by decide +kernel
theorem dX9_toldNumber_37 : decode cX9_toldNumber 37 = .ok (.iload_n 2, 1) := by decide +kernel
theorem dX9_toldNumber_38 : decode cX9_toldNumber 38 = .ok (.if_icmp .le 8, 3) := by decide +kernel
theorem dX9_toldNumber_41 : decode cX9_toldNumber 41 = .ok (.aload_n 0, 1) := by decide +kernel
theorem dX9_toldNumber_42 : decode cX9_toldNumber 42 = .ok (.iconst 4, 1) := by decide +kernel
theorem dX9_toldNumber_43 : decode cX9_toldNumber 43 = .ok (.invokevirtual 269, 3) := by decide +kernel
theorem dX9_toldNumber_46 : decode cX9_toldNumber 46 = .ok (.aload_n 0, 1) := by decide +kernel
theorem dX9_toldNumber_47 : decode cX9_toldNumber 47 = .ok (.getfield 200, 3) := by decide +kernel
theorem dX9_toldNumber_50 : decode cX9_toldNumber 50 = .ok (.istore_n 3, 1) := by decide +kernel
theorem dX9_toldNumber_51 : decode cX9_toldNumber 51 = .ok (.aload_n 0, 1) := by decide +kernel
theorem dX9_toldNumber_52 : decode cX9_toldNumber 52 = .ok (.getfield 216, 3) := by decide +kernel
theorem dX9_toldNumber_55 : decode cX9_toldNumber 55 = .ok (.ifCond .ne 7, 3) := by decide +kernel
theorem dX9_toldNumber_58 : decode cX9_toldNumber 58 = .ok (.aload_n 0, 1) := by decide +kernel
theorem dX9_toldNumber_59 : decode cX9_toldNumber 59 = .ok (.invokevirtual 272, 3) := by decide +kernel
theorem dX9_toldNumber_62 : decode cX9_toldNumber 62 = .ok (.iload_n 3, 1) := by decide +kernel
theorem dX9_toldNumber_63 : decode cX9_toldNumber 63 = .ok (.ireturn, 1) := by decide +kernel
theorem dX9_told_0 : decode cX9_told 0 = .ok (.aload_n 0, 1) := by decide +kernel
theorem dX9_told_1 : decode cX9_told 1 = .ok (.lload_n 1, 1) := by decide +kernel
theorem dX9_told_2 : decode cX9_told 2 = .ok (.invokevirtual 275, 3) := by decide +kernel
theorem dX9_told_5 : decode cX9_told 5 = .ok (.aload_n 0, 1) := by decide +kernel
theorem dX9_told_6 : decode cX9_told 6 = .ok (.iload_n 3, 1) := by decide +kernel
theorem dX9_told_7 : decode cX9_told 7 = .ok (.iload 4, 2) := by decide +kernel
theorem dX9_told_9 : decode cX9_told 9 = .ok (.invokevirtual 279, 3) := by decide +kernel
theorem dX9_told_12 : decode cX9_told 12 = .ok (.ireturn, 1) := by decide +kernel
theorem dX9_signed_0 : decode cX9_signed 0 = .ok (.aload_n 0, 1) := by decide +kernel
theorem dX9_signed_1 : decode cX9_signed 1 = .ok (.getfield 216, 3) := by decide +kernel
theorem dX9_signed_4 : decode cX9_signed 4 = .ok (.ifCond .le 5, 3) := by decide +kernel
theorem dX9_signed_7 : decode cX9_signed 7 = .ok (.iconst 0, 1) := by decide +kernel
theorem dX9_signed_8 : decode cX9_signed 8 = .ok (.ireturn, 1) := by decide +kernel
theorem dX9_signed_9 : decode cX9_signed 9 = .ok (.aload_n 0, 1) := by decide +kernel
theorem dX9_signed_10 : decode cX9_signed 10 = .ok (.getfield 193, 3) := by decide +kernel
theorem dX9_signed_13 : decode cX9_signed 13 = .ok (.istore_n 3, 1) := by decide +kernel
theorem dX9_signed_14 : decode cX9_signed 14 = .ok (.aload_n 0, 1) := by decide +kernel
theorem dX9_signed_15 : decode cX9_signed 15 = .ok (.getfield 203, 3) := by decide +kernel
theorem dX9_signed_18 : decode cX9_signed 18 = .ok (.bipush 45, 2) := by decide +kernel
theorem dX9_signed_20 : decode cX9_signed 20 = .ok (.if_icmp .ne 7, 3) := by decide +kernel
theorem dX9_signed_23 : decode cX9_signed 23 = .ok (.iconst 1, 1) := by decide +kernel
theorem dX9_signed_24 : decode cX9_signed 24 = .ok (.goto 4, 3) := by decide +kernel
theorem dX9_signed_27 : decode cX9_signed 27 = .ok (.iconst 0, 1) := by decide +kernel
theorem dX9_signed_28 : decode cX9_signed 28 = .ok (.istore 4, 2) := by decide +kernel
theorem dX9_signed_30 : decode cX9_signed 30 = .ok (.iload 4, 2) := by decide +kernel
theorem dX9_signed_32 : decode cX9_signed 32 = .ok (.ifCond .eq 7, 3) := by decide +kernel
theorem dX9_signed_35 : decode cX9_signed 35 = .ok (.aload_n 0, 1) := by decide +kernel
theorem dX9_signed_36 : decode cX9_signed 36 = .ok (.invokevirtual 272, 3) := by decide +kernel
theorem dX9_signed_39 : decode cX9_signed 39 = .ok (.aload_n 0, 1) := by decide +kernel
theorem dX9_signed_40 : decode cX9_signed 40 = .ok (.getfield 203, 3) := by decide +kernel
theorem dX9_signed_43 : decode cX9_signed 43 = .ok (.iconst 2, 1) := by decide +kernel
theorem dX9_signed_44 : decode cX9_signed 44 = .ok (.if_icmp .eq 8, 3) := by decide +kernel
theorem dX9_signed_47 : decode cX9_signed 47 = .ok (.aload_n 0, 1) := by decide +kernel
theorem dX9_signed_48 : decode cX9_signed 48 = .ok (.iconst 2, 1) := by decide +kernel
theorem dX9_signed_49 : decode cX9_signed 49 = .ok (.invokevirtual 269, 3) := by decide +kernel
theorem dX9_signed_52 : decode cX9_signed 52 = .ok (.iload 4, 2) := by decide +kernel
theorem dX9_signed_54 : decode cX9_signed 54 = .ok (.ifCond .eq 11, 3) := by decide +kernel
theorem dX9_signed_57 : decode cX9_signed 57 = .ok (.aload_n 0, 1) := by decide +kernel
theorem dX9_signed_58 : decode cX9_signed 58 = .ok (.getfield 200, 3) := by decide +kernel
theorem dX9_signed_61 : decode cX9_signed 61 = .ok (.ineg, 1) := by decide +kernel
theorem dX9_signed_62 : decode cX9_signed 62 = .ok (.goto 7, 3) := by decide +kernel
theorem dX9_signed_65 : decode cX9_signed 65 = .ok (.aload_n 0, 1) := by decide +kernel
theorem dX9_signed_66 : decode cX9_signed 66 = .ok (.getfield 200, 3) := by decide +kernel
theorem dX9_signed_69 : decode cX9_signed 69 = .ok (.istore 5, 2) := by decide +kernel
theorem dX9_signed_71 : decode cX9_signed 71 = .ok (.aload_n 0, 1) := by decide +kernel
theorem dX9_signed_72 : decode cX9_signed 72 = .ok (.getfield 216, 3) := by decide +kernel
theorem dX9_signed_75 : decode cX9_signed 75 = .ok (.ifCond .ne 21, 3) := by decide +kernel
theorem dX9_signed_78 : decode cX9_signed 78 = .ok (.iload 5, 2) := by decide +kernel
theorem dX9_signed_80 : decode cX9_signed 80 = .ok (.iload_n 1, 1) := by decide +kernel
theorem dX9_signed_81 : decode cX9_signed 81 = .ok (.if_icmp .lt 9, 3) := by decide +kernel
theorem dX9_signed_84 : decode cX9_signed 84 = .ok (.iload 5, 2) := by decide +kernel
theorem dX9_signed_86 : decode cX9_signed 86 = .ok (.iload_n 2, 1) := by decide +kernel
theorem dX9_signed_87 : decode cX9_signed 87 = .ok (.if_icmp .le 9, 3) := by decide +kernel
theorem dX9_signed_90 : decode cX9_signed 90 = .ok (.aload_n 0, 1) := by decide +kernel
theorem dX9_signed_91 : decode cX9_signed 91 = .ok (.iconst 4, 1) := by decide +kernel
theorem dX9_signed_92 : decode cX9_signed 92 = .ok (.iload_n 3, 1) := by decide +kernel
theorem dX9_signed_93 : decode cX9_signed 93 = .ok (.invokevirtual 219, 3) := by decide +kernel
theorem dX9_signed_96 : decode cX9_signed 96 = .ok (.aload_n 0, 1) := by decide +kernel
theorem dX9_signed_97 : decode cX9_signed 97 = .ok (.getfield 216, 3) := by decide +kernel
theorem dX9_signed_100 : decode cX9_signed 100 = .ok (.ifCond .ne 7, 3) := by decide +kernel
theorem dX9_signed_103 : decode cX9_signed 103 = .ok (.aload_n 0, 1) := by decide +kernel
theorem dX9_signed_104 : decode cX9_signed 104 = .ok (.invokevirtual 272, 3) := by decide +kernel
theorem dX9_signed_107 : decode cX9_signed 107 = .ok (.iload 5, 2) := by decide +kernel
theorem dX9_signed_109 : decode cX9_signed 109 = .ok (.ireturn, 1) := by decide +kernel
theorem dX9_note_0 : decode cX9_note 0 = .ok (.aload_n 0, 1) := by decide +kernel
theorem dX9_note_1 : decode cX9_note 1 = .ok (.getfield 17, 3) := by decide +kernel
theorem dX9_note_4 : decode cX9_note 4 = .ok (.aload_n 0, 1) := by decide +kernel
theorem dX9_note_5 : decode cX9_note 5 = .ok (.getfield 283, 3) := by decide +kernel
theorem dX9_note_8 : decode cX9_note 8 = .ok (.iload_n 1, 1) := by decide +kernel
theorem dX9_note_9 : decode cX9_note 9 = .ok (.iastore, 1) := by decide +kernel
theorem dX9_note_10 : decode cX9_note 10 = .ok (.aload_n 0, 1) := by decide +kernel
theorem dX9_note_11 : decode cX9_note 11 = .ok (.getfield 20, 3) := by decide +kernel
theorem dX9_note_14 : decode cX9_note 14 = .ok (.aload_n 0, 1) := by decide +kernel
theorem dX9_note_15 : decode cX9_note 15 = .ok (.getfield 283, 3) := by decide +kernel
theorem dX9_note_18 : decode cX9_note 18 = .ok (.iload_n 2, 1) := by decide +kernel
theorem dX9_note_19 : decode cX9_note 19 = .ok (.iastore, 1) := by decide +kernel
theorem dX9_note_20 : decode cX9_note 20 = .ok (.aload_n 0, 1) := by decide +kernel
theorem dX9_note_21 : decode cX9_note 21 = .ok (.dup, 1) := by decide +kernel
theorem dX9_note_22 : decode cX9_note 22 = .ok (.getfield 283, 3) := by decide +kernel
theorem dX9_note_25 : decode cX9_note 25 = .ok (.iconst 1, 1) := by decide +kernel
theorem dX9_note_26 : decode cX9_note 26 = .ok (.iadd, 1) := by decide +kernel
theorem dX9_note_27 : decode cX9_note 27 = .ok (.putfield 283, 3) := by decide +kernel
theorem dX9_note_30 : decode cX9_note 30 = .ok (.return_, 1) := by decide +kernel
theorem dX9_upper_0 : decode cX9_upper 0 = .ok (.aload_n 0, 1) := by decide +kernel
theorem dX9_upper_1 : decode cX9_upper 1 = .ok (.getfield 286, 3) := by decide +kernel
theorem dX9_upper_4 : decode cX9_upper 4 = .ok (.ifCond .ne 8, 3) := by decide +kernel
theorem dX9_upper_7 : decode cX9_upper 7 = .ok (.bipush 40, 2) := by decide +kernel
theorem dX9_upper_9 : decode cX9_upper 9 = .ok (.goto 14, 3) := by decide +kernel
theorem dX9_upper_12 : decode cX9_upper 12 = .ok (.aload_n 0, 1) := by decide +kernel
theorem dX9_upper_13 : decode cX9_upper 13 = .ok (.getfield 29, 3) := by decide +kernel
theorem dX9_upper_16 : decode cX9_upper 16 = .ok (.aload_n 0, 1) := by decide +kernel
theorem dX9_upper_17 : decode cX9_upper 17 = .ok (.getfield 286, 3) := by decide +kernel
theorem dX9_upper_20 : decode cX9_upper 20 = .ok (.iconst 1, 1) := by decide +kernel
theorem dX9_upper_21 : decode cX9_upper 21 = .ok (.isub, 1) := by decide +kernel
theorem dX9_upper_22 : decode cX9_upper 22 = .ok (.iaload, 1) := by decide +kernel
theorem dX9_upper_23 : decode cX9_upper 23 = .ok (.ireturn, 1) := by decide +kernel
theorem dX9_hold_0 : decode cX9_hold 0 = .ok (.aload_n 0, 1) := by decide +kernel
theorem dX9_hold_1 : decode cX9_hold 1 = .ok (.getfield 29, 3) := by decide +kernel
theorem dX9_hold_4 : decode cX9_hold 4 = .ok (.aload_n 0, 1) := by decide +kernel
theorem dX9_hold_5 : decode cX9_hold 5 = .ok (.getfield 286, 3) := by decide +kernel
theorem dX9_hold_8 : decode cX9_hold 8 = .ok (.iload_n 1, 1) := by decide +kernel
theorem dX9_hold_9 : decode cX9_hold 9 = .ok (.iastore, 1) := by decide +kernel
theorem dX9_hold_10 : decode cX9_hold 10 = .ok (.aload_n 0, 1) := by decide +kernel
theorem dX9_hold_11 : decode cX9_hold 11 = .ok (.dup, 1) := by decide +kernel
theorem dX9_hold_12 : decode cX9_hold 12 = .ok (.getfield 286, 3) := by decide +kernel
theorem dX9_hold_15 : decode cX9_hold 15 = .ok (.iconst 1, 1) := by decide +kernel
theorem dX9_hold_16 : decode cX9_hold 16 = .ok (.iadd, 1) := by decide +kernel
theorem dX9_hold_17 : decode cX9_hold 17 = .ok (.putfield 286, 3) := by decide +kernel
theorem dX9_hold_20 : decode cX9_hold 20 = .ok (.iload_n 1, 1) := by decide +kernel
theorem dX9_hold_21 : decode cX9_hold 21 = .ok (.bipush 40, 2) := by decide +kernel
theorem dX9_hold_23 : decode cX9_hold 23 = .ok (.if_icmp .eq 9, 3) := by decide +kernel
theorem dX9_hold_26 : decode cX9_hold 26 = .ok (.iload_n 1, 1) := by decide +kernel
theorem dX9_hold_27 : decode cX9_hold 27 = .ok (.bipush 22, 2) := by decide +kernel
theorem dX9_hold_29 : decode cX9_hold 29 = .ok (.if_icmp .ne 13, 3) := by decide +kernel
theorem dX9_hold_32 : decode cX9_hold 32 = .ok (.aload_n 0, 1) := by decide +kernel
theorem dX9_hold_33 : decode cX9_hold 33 = .ok (.dup, 1) := by decide +kernel
theorem dX9_hold_34 : decode cX9_hold 34 = .ok (.getfield 289, 3) := by decide +kernel
theorem dX9_hold_37 : decode cX9_hold 37 = .ok (.iconst 1, 1) := by decide +kernel
theorem dX9_hold_38 : decode cX9_hold 38 = .ok (.iadd, 1) := by decide +kernel
theorem dX9_hold_39 : decode cX9_hold 39 = .ok (.putfield 289, 3) := by decide +kernel
theorem dX9_hold_42 : decode cX9_hold 42 = .ok (.return_, 1) := by decide +kernel
theorem dX9_pop_0 : decode cX9_pop 0 = .ok (.aload_n 0, 1) := by decide +kernel
theorem dX9_pop_1 : decode cX9_pop 1 = .ok (.dup, 1) := by decide +kernel
theorem dX9_pop_2 : decode cX9_pop 2 = .ok (.getfield 286, 3) := by decide +kernel
theorem dX9_pop_5 : decode cX9_pop 5 = .ok (.iconst 1, 1) := by decide +kernel
theorem dX9_pop_6 : decode cX9_pop 6 = .ok (.isub, 1) := by decide +kernel
theorem dX9_pop_7 : decode cX9_pop 7 = .ok (.putfield 286, 3) := by decide +kernel
theorem dX9_pop_10 : decode cX9_pop 10 = .ok (.aload_n 0, 1) := by decide +kernel
theorem dX9_pop_11 : decode cX9_pop 11 = .ok (.getfield 29, 3) := by decide +kernel
theorem dX9_pop_14 : decode cX9_pop 14 = .ok (.aload_n 0, 1) := by decide +kernel
theorem dX9_pop_15 : decode cX9_pop 15 = .ok (.getfield 286, 3) := by decide +kernel
theorem dX9_pop_18 : decode cX9_pop 18 = .ok (.iaload, 1) := by decide +kernel
theorem dX9_pop_19 : decode cX9_pop 19 = .ok (.bipush 22, 2) := by decide +kernel
theorem dX9_pop_21 : decode cX9_pop 21 = .ok (.if_icmp .ne 13, 3) := by decide +kernel
theorem dX9_pop_24 : decode cX9_pop 24 = .ok (.aload_n 0, 1) := by decide +kernel
theorem dX9_pop_25 : decode cX9_pop 25 = .ok (.dup, 1) := by decide +kernel
theorem dX9_pop_26 : decode cX9_pop 26 = .ok (.getfield 289, 3) := by decide +kernel
theorem dX9_pop_29 : decode cX9_pop 29 = .ok (.iconst 1, 1) := by decide +kernel
theorem dX9_pop_30 : decode cX9_pop 30 = .ok (.isub, 1) := by decide +kernel
theorem dX9_pop_31 : decode cX9_pop 31 = .ok (.putfield 289, 3) := by decide +kernel
theorem dX9_pop_34 : decode cX9_pop 34 = .ok (.aload_n 0, 1) := by decide +kernel
theorem dX9_pop_35 : decode cX9_pop 35 = .ok (.aload_n 0, 1) := by decide +kernel
theorem dX9_pop_36 : decode cX9_pop 36 = .ok (.getfield 29, 3) := by decide +kernel
theorem dX9_pop_39 : decode cX9_pop 39 = .ok (.aload_n 0, 1) := by decide +kernel
theorem dX9_pop_40 : decode cX9_pop 40 = .ok (.getfield 286, 3) := by decide +kernel
theorem dX9_pop_43 : decode cX9_pop 43 = .ok (.iaload, 1) := by decide +kernel
theorem dX9_pop_44 : decode cX9_pop 44 = .ok (.iconst 0, 1) := by decide +kernel
theorem dX9_pop_45 : decode cX9_pop 45 = .ok (.invokevirtual 292, 3) := by decide +kernel
theorem dX9_pop_48 : decode cX9_pop 48 = .ok (.return_, 1) := by decide +kernel
theorem dX9_rank_0 : decode cX9_rank 0 = .ok (.iload_n 0, 1) := by decide +kernel
theorem dX9_rank_1 : decode cX9_rank 1 = .ok (.bipush 27, 2) := by decide +kernel
theorem dX9_rank_3 : decode cX9_rank 3 = .ok (.if_icmp .ne 8, 3) := by decide +kernel
theorem dX9_rank_6 : decode cX9_rank 6 = .ok (.bipush 26, 2) := by decide +kernel
theorem dX9_rank_8 : decode cX9_rank 8 = .ok (.goto 21, 3) := by decide +kernel
theorem dX9_rank_11 : decode cX9_rank 11 = .ok (.iload_n 0, 1) := by decide +kernel
theorem dX9_rank_12 : decode cX9_rank 12 = .ok (.bipush 24, 2) := by decide +kernel
theorem dX9_rank_14 : decode cX9_rank 14 = .ok (.if_icmp .eq 9, 3) := by decide +kernel
theorem dX9_rank_17 : decode cX9_rank 17 = .ok (.iload_n 0, 1) := by decide +kernel
theorem dX9_rank_18 : decode cX9_rank 18 = .ok (.bipush 25, 2) := by decide +kernel
theorem dX9_rank_20 : decode cX9_rank 20 = .ok (.if_icmp .ne 8, 3) := by decide +kernel
theorem dX9_rank_23 : decode cX9_rank 23 = .ok (.bipush 23, 2) := by decide +kernel
theorem dX9_rank_25 : decode cX9_rank 25 = .ok (.goto 4, 3) := by decide +kernel
theorem dX9_rank_28 : decode cX9_rank 28 = .ok (.iload_n 0, 1) := by decide +kernel
theorem dX9_rank_29 : decode cX9_rank 29 = .ok (.ireturn, 1) := by decide +kernel
theorem dX9_settle_0 : decode cX9_settle 0 = .ok (.aload_n 0, 1) := by decide +kernel
theorem dX9_settle_1 : decode cX9_settle 1 = .ok (.invokevirtual 295, 3) := by decide +kernel
theorem dX9_settle_4 : decode cX9_settle 4 = .ok (.bipush 40, 2) := by decide +kernel
theorem dX9_settle_6 : decode cX9_settle 6 = .ok (.if_icmp .eq 21, 3) := by decide +kernel
theorem dX9_settle_9 : decode cX9_settle 9 = .ok (.aload_n 0, 1) := by decide +kernel
theorem dX9_settle_10 : decode cX9_settle 10 = .ok (.invokevirtual 295, 3) := by decide +kernel
theorem dX9_settle_13 : decode cX9_settle 13 = .ok (.invokestatic 299, 3) := by decide +kernel
theorem dX9_settle_16 : decode cX9_settle 16 = .ok (.iload_n 1, 1) := by decide +kernel
theorem dX9_settle_17 : decode cX9_settle 17 = .ok (.if_icmp .lt 10, 3) := by decide +kernel
theorem dX9_settle_20 : decode cX9_settle 20 = .ok (.aload_n 0, 1) := by decide +kernel
theorem dX9_settle_21 : decode cX9_settle 21 = .ok (.invokevirtual 302, 3) := by decide +kernel
theorem dX9_settle_24 : decode cX9_settle 24 = .ok (.goto (-24), 3) := by decide +kernel
theorem dX9_settle_27 : decode cX9_settle 27 = .ok (.return_, 1) := by decide +kernel
theorem dX9_isOpen_0 : decode cX9_isOpen 0 = .ok (.iconst 0, 1) := by decide +kernel
theorem dX9_isOpen_1 : decode cX9_isOpen 1 = .ok (.istore_n 1, 1) := by decide +kernel
theorem dX9_isOpen_2 : decode cX9_isOpen 2 = .ok (.iconst 0, 1) := by decide +kernel
theorem dX9_isOpen_3 : decode cX9_isOpen 3 = .ok (.istore_n 2, 1) := by decide +kernel
theorem dX9_isOpen_4 : decode cX9_isOpen 4 = .ok (.iload_n 2, 1) := by decide +kernel
theorem dX9_isOpen_5 : decode cX9_isOpen 5 = .ok (.aload_n 0, 1) := by decide +kernel
theorem dX9_isOpen_6 : decode cX9_isOpen 6 = .ok (.getfield 286, 3) := by decide +kernel
theorem dX9_isOpen_9 : decode cX9_isOpen 9 = .ok (.if_icmp .ge 30, 3) := by decide +kernel
theorem dX9_isOpen_12 : decode cX9_isOpen 12 = .ok (.iload_n 1, 1) := by decide +kernel
theorem dX9_isOpen_13 : decode cX9_isOpen 13 = .ok (.ifCond .ne 14, 3) := by decide +kernel
theorem dX9_isOpen_16 : decode cX9_isOpen 16 = .ok (.aload_n 0, 1) := by decide +kernel
theorem dX9_isOpen_17 : decode cX9_isOpen 17 = .ok (.getfield 29, 3) := by decide +kernel
theorem dX9_isOpen_20 : decode cX9_isOpen 20 = .ok (.iload_n 2, 1) := by decide +kernel
theorem dX9_isOpen_21 : decode cX9_isOpen 21 = .ok (.iaload, 1) := by decide +kernel
theorem dX9_isOpen_22 : decode cX9_isOpen 22 = .ok (.bipush 40, 2) := by decide +kernel
theorem dX9_isOpen_24 : decode cX9_isOpen 24 = .ok (.if_icmp .ne 7, 3) := by decide +kernel
theorem dX9_isOpen_27 : decode cX9_isOpen 27 = .ok (.iconst 1, 1) := by decide +kernel
theorem dX9_isOpen_28 : decode cX9_isOpen 28 = .ok (.goto 4, 3) := by decide +kernel
theorem dX9_isOpen_31 : decode cX9_isOpen 31 = .ok (.iconst 0, 1) := by decide +kernel
theorem dX9_isOpen_32 : decode cX9_isOpen 32 = .ok (.istore_n 1, 1) := by decide +kernel
theorem dX9_isOpen_33 : decode cX9_isOpen 33 = .ok (.iinc 2 1, 3) := by decide +kernel
theorem dX9_isOpen_36 : decode cX9_isOpen 36 = .ok (.goto (-32), 3) := by decide +kernel
theorem dX9_isOpen_39 : decode cX9_isOpen 39 = .ok (.iload_n 1, 1) := by decide +kernel
theorem dX9_isOpen_40 : decode cX9_isOpen 40 = .ok (.ireturn, 1) := by decide +kernel
theorem dX9_known_0 : decode cX9_known 0 = .ok (.aload_n 0, 1) := by decide +kernel
theorem dX9_known_1 : decode cX9_known 1 = .ok (.ldc2_w 249, 3) := by decide +kernel
theorem dX9_known_4 : decode cX9_known 4 = .ok (.invokevirtual 265, 3) := by decide +kernel
theorem dX9_known_7 : decode cX9_known 7 = .ok (.ifCond .eq 7, 3) := by decide +kernel
theorem dX9_known_10 : decode cX9_known 10 = .ok (.iconst 1, 1) := by decide +kernel
theorem dX9_known_11 : decode cX9_known 11 = .ok (.goto 60, 3) := by decide +kernel
theorem dX9_known_14 : decode cX9_known 14 = .ok (.aload_n 0, 1) := by decide +kernel
theorem dX9_known_15 : decode cX9_known 15 = .ok (.ldc2_w 251, 3) := by decide +kernel
theorem dX9_known_18 : decode cX9_known 18 = .ok (.invokevirtual 265, 3) := by decide +kernel
theorem dX9_known_21 : decode cX9_known 21 = .ok (.ifCond .eq 7, 3) := by decide +kernel
theorem dX9_known_24 : decode cX9_known 24 = .ok (.iconst 2, 1) := by decide +kernel
theorem dX9_known_25 : decode cX9_known 25 = .ok (.goto 46, 3) := by decide +kernel
theorem dX9_known_28 : decode cX9_known 28 = .ok (.aload_n 0, 1) := by decide +kernel
theorem dX9_known_29 : decode cX9_known 29 = .ok (.ldc2_w 253, 3) := by decide +kernel
theorem dX9_known_32 : decode cX9_known 32 = .ok (.invokevirtual 265, 3) := by decide +kernel
theorem dX9_known_35 : decode cX9_known 35 = .ok (.ifCond .eq 7, 3) := by decide +kernel
theorem dX9_known_38 : decode cX9_known 38 = .ok (.iconst 3, 1) := by decide +kernel
theorem dX9_known_39 : decode cX9_known 39 = .ok (.goto 32, 3) := by decide +kernel
theorem dX9_known_42 : decode cX9_known 42 = .ok (.aload_n 0, 1) := by decide +kernel
theorem dX9_known_43 : decode cX9_known 43 = .ok (.ldc2_w 255, 3) := by decide +kernel
theorem dX9_known_46 : decode cX9_known 46 = .ok (.invokevirtual 265, 3) := by decide +kernel
theorem dX9_known_49 : decode cX9_known 49 = .ok (.ifCond .eq 7, 3) := by decide +kernel
theorem dX9_known_52 : decode cX9_known 52 = .ok (.iconst 4, 1) := by decide +kernel
theorem dX9_known_53 : decode cX9_known 53 = .ok (.goto 18, 3) := by decide +kernel
theorem dX9_known_56 : decode cX9_known 56 = .ok (.aload_n 0, 1) := by decide +kernel
theorem dX9_known_57 : decode cX9_known 57 = .ok (.ldc2_w 257, 3) := by decide +kernel
theorem dX9_known_60 : decode cX9_known 60 = .ok (.invokevirtual 265, 3) := by decide +kernel
theorem dX9_known_63 : decode cX9_known 63 = .ok (.ifCond .eq 7, 3) := by decide +kernel
theorem dX9_known_66 : decode cX9_known 66 = .ok (.iconst 5, 1) := by decide +kernel
theorem dX9_known_67 : decode cX9_known 67 = .ok (.goto 4, 3) := by decide +kernel
theorem dX9_known_70 : decode cX9_known 70 = .ok (.iconst (-1), 1) := by decide +kernel
theorem dX9_known_71 : decode cX9_known 71 = .ok (.ireturn, 1) := by decide +kernel
theorem dX9_operand_0 : decode cX9_operand 0 = .ok (.iload_n 1, 1) := by decide +kernel
theorem dX9_operand_1 : decode cX9_operand 1 = .ok (.ifCond .ne 17, 3) := by decide +kernel
theorem dX9_operand_4 : decode cX9_operand 4 = .ok (.aload_n 0, 1) := by decide +kernel
theorem dX9_operand_5 : decode cX9_operand 5 = .ok (.ldc2_w 263, 3) := by decide +kernel
theorem dX9_operand_8 : decode cX9_operand 8 = .ok (.invokevirtual 265, 3) := by decide +kernel
theorem dX9_operand_11 : decode cX9_operand 11 = .ok (.ifCond .eq 7, 3) := by decide +kernel
theorem dX9_operand_14 : decode cX9_operand 14 = .ok (.iconst 1, 1) := by decide +kernel
theorem dX9_operand_15 : decode cX9_operand 15 = .ok (.goto 4, 3) := by decide +kernel
theorem dX9_operand_18 : decode cX9_operand 18 = .ok (.iconst 0, 1) := by decide +kernel
theorem dX9_operand_19 : decode cX9_operand 19 = .ok (.istore_n 2, 1) := by decide +kernel
theorem dX9_operand_20 : decode cX9_operand 20 = .ok (.aload_n 0, 1) := by decide +kernel
theorem dX9_operand_21 : decode cX9_operand 21 = .ok (.invokevirtual 305, 3) := by decide +kernel
theorem dX9_operand_24 : decode cX9_operand 24 = .ok (.istore_n 3, 1) := by decide +kernel
theorem dX9_operand_25 : decode cX9_operand 25 = .ok (.aload_n 0, 1) := by decide +kernel
theorem dX9_operand_26 : decode cX9_operand 26 = .ok (.getfield 203, 3) := by decide +kernel
theorem dX9_operand_29 : decode cX9_operand 29 = .ok (.iconst 2, 1) := by decide +kernel
theorem dX9_operand_30 : decode cX9_operand 30 = .ok (.if_icmp .eq 16, 3) := by decide +kernel
theorem dX9_operand_33 : decode cX9_operand 33 = .ok (.aload_n 0, 1) := by decide +kernel
theorem dX9_operand_34 : decode cX9_operand 34 = .ok (.getfield 203, 3) := by decide +kernel
theorem dX9_operand_37 : decode cX9_operand 37 = .ok (.bipush 40, 2) := by decide +kernel
theorem dX9_operand_39 : decode cX9_operand 39 = .ok (.if_icmp .eq 7, 3) := by decide +kernel
theorem dX9_operand_42 : decode cX9_operand 42 = .ok (.iload_n 3, 1) := by decide +kernel
theorem dX9_operand_43 : decode cX9_operand 43 = .ok (.ifCond .lt 7, 3) := by decide +kernel
theorem dX9_operand_46 : decode cX9_operand 46 = .ok (.iconst 1, 1) := by decide +kernel
theorem dX9_operand_47 : decode cX9_operand 47 = .ok (.goto 4, 3) := by decide +kernel
theorem dX9_operand_50 : decode cX9_operand 50 = .ok (.iconst 0, 1) := by decide +kernel
theorem dX9_operand_51 : decode cX9_operand 51 = .ok (.istore 4, 2) := by decide +kernel
theorem dX9_operand_53 : decode cX9_operand 53 = .ok (.iload_n 2, 1) := by decide +kernel
theorem dX9_operand_54 : decode cX9_operand 54 = .ok (.ifCond .ne 8, 3) := by decide +kernel
theorem dX9_operand_57 : decode cX9_operand 57 = .ok (.iload 4, 2) := by decide +kernel
theorem dX9_operand_59 : decode cX9_operand 59 = .ok (.ifCond .eq 39, 3) := by decide +kernel
theorem dX9_operand_62 : decode cX9_operand 62 = .ok (.iload 4, 2) := by decide +kernel
theorem dX9_operand_64 : decode cX9_operand 64 = .ok (.ifCond .eq 12, 3) := by decide +kernel
theorem dX9_operand_67 : decode cX9_operand 67 = .ok (.aload_n 0, 1) := by decide +kernel
theorem dX9_operand_68 : decode cX9_operand 68 = .ok (.getfield 308, 3) := by decide +kernel
theorem dX9_operand_71 : decode cX9_operand 71 = .ok (.bipush 40, 2) := by decide +kernel
theorem dX9_operand_73 : decode cX9_operand 73 = .ok (.if_icmp .eq 25, 3) := by decide +kernel
theorem dX9_operand_76 : decode cX9_operand 76 = .ok (.iload_n 2, 1) := by decide +kernel
theorem dX9_operand_77 : decode cX9_operand 77 = .ok (.ifCond .ne 12, 3) := by decide +kernel
theorem dX9_operand_80 : decode cX9_operand 80 = .ok (.aload_n 0, 1) := by decide +kernel
theorem dX9_operand_81 : decode cX9_operand 81 = .ok (.getfield 203, 3) := by decide +kernel
theorem dX9_operand_84 : decode cX9_operand 84 = .ok (.bipush 40, 2) := by decide +kernel
theorem dX9_operand_86 : decode cX9_operand 86 = .ok (.if_icmp .ne 17, 3) := by decide +kernel
theorem dX9_operand_89 : decode cX9_operand 89 = .ok (.aload_n 0, 1) := by decide +kernel
theorem dX9_operand_90 : decode cX9_operand 90 = .ok (.getfield 289, 3) := by decide +kernel
theorem dX9_operand_93 : decode cX9_operand 93 = .ok (.bipush 7, 2) := by decide +kernel
theorem dX9_operand_95 : decode cX9_operand 95 = .ok (.if_icmp .lt 8, 3) := by decide +kernel
theorem dX9_operand_98 : decode cX9_operand 98 = .ok (.aload_n 0, 1) := by decide +kernel
theorem dX9_operand_99 : decode cX9_operand 99 = .ok (.iconst 2, 1) := by decide +kernel
theorem dX9_operand_100 : decode cX9_operand 100 = .ok (.invokevirtual 269, 3) := by decide +kernel
theorem dX9_operand_103 : decode cX9_operand 103 = .ok (.aload_n 0, 1) := by decide +kernel
theorem dX9_operand_104 : decode cX9_operand 104 = .ok (.getfield 216, 3) := by decide +kernel
theorem dX9_operand_107 : decode cX9_operand 107 = .ok (.ifCond .le 5, 3) := by decide +kernel
theorem dX9_operand_110 : decode cX9_operand 110 = .ok (.iload_n 1, 1) := by decide +kernel
theorem dX9_operand_111 : decode cX9_operand 111 = .ok (.ireturn, 1) := by decide +kernel
theorem dX9_operand_112 : decode cX9_operand 112 = .ok (.iload_n 2, 1) := by decide +kernel
theorem dX9_operand_113 : decode cX9_operand 113 = .ok (.ifCond .eq 15, 3) := by decide +kernel
theorem dX9_operand_116 : decode cX9_operand 116 = .ok (.aload_n 0, 1) := by decide +kernel
theorem dX9_operand_117 : decode cX9_operand 117 = .ok (.bipush 22, 2) := by decide +kernel
theorem dX9_operand_119 : decode cX9_operand 119 = .ok (.invokevirtual 311, 3) := by decide +kernel
theorem dX9_operand_122 : decode cX9_operand 122 = .ok (.aload_n 0, 1) := by decide +kernel
theorem dX9_operand_123 : decode cX9_operand 123 = .ok (.invokevirtual 272, 3) := by decide +kernel
theorem dX9_operand_126 : decode cX9_operand 126 = .ok (.iconst 0, 1) := by decide +kernel
theorem dX9_operand_127 : decode cX9_operand 127 = .ok (.ireturn, 1) := by decide +kernel
theorem dX9_operand_128 : decode cX9_operand 128 = .ok (.aload_n 0, 1) := by decide +kernel
theorem dX9_operand_129 : decode cX9_operand 129 = .ok (.dup, 1) := by decide +kernel
theorem dX9_operand_130 : decode cX9_operand 130 = .ok (.getfield 308, 3) := by decide +kernel
theorem dX9_operand_133 : decode cX9_operand 133 = .ok (.iconst 1, 1) := by decide +kernel
theorem dX9_operand_134 : decode cX9_operand 134 = .ok (.iadd, 1) := by decide +kernel
theorem dX9_operand_135 : decode cX9_operand 135 = .ok (.putfield 308, 3) := by decide +kernel
theorem dX9_operand_138 : decode cX9_operand 138 = .ok (.aload_n 0, 1) := by decide +kernel
theorem dX9_operand_139 : decode cX9_operand 139 = .ok (.getfield 203, 3) := by decide +kernel
theorem dX9_operand_142 : decode cX9_operand 142 = .ok (.bipush 40, 2) := by decide +kernel
theorem dX9_operand_144 : decode cX9_operand 144 = .ok (.if_icmp .ne 15, 3) := by decide +kernel
theorem dX9_operand_147 : decode cX9_operand 147 = .ok (.aload_n 0, 1) := by decide +kernel
theorem dX9_operand_148 : decode cX9_operand 148 = .ok (.bipush 40, 2) := by decide +kernel
theorem dX9_operand_150 : decode cX9_operand 150 = .ok (.invokevirtual 311, 3) := by decide +kernel
theorem dX9_operand_153 : decode cX9_operand 153 = .ok (.aload_n 0, 1) := by decide +kernel
theorem dX9_operand_154 : decode cX9_operand 154 = .ok (.invokevirtual 272, 3) := by decide +kernel
theorem dX9_operand_157 : decode cX9_operand 157 = .ok (.iconst 0, 1) := by decide +kernel
theorem dX9_operand_158 : decode cX9_operand 158 = .ok (.ireturn, 1) := by decide +kernel
theorem dX9_operand_159 : decode cX9_operand 159 = .ok (.aload_n 0, 1) := by decide +kernel
theorem dX9_operand_160 : decode cX9_operand 160 = .ok (.iload_n 3, 1) := by decide +kernel
theorem dX9_operand_161 : decode cX9_operand 161 = .ok (.ifCond .ge 7, 3) := by decide +kernel
theorem dX9_operand_164 : decode cX9_operand 164 = .ok (.iconst 0, 1) := by decide +kernel
theorem dX9_operand_165 : decode cX9_operand 165 = .ok (.goto 4, 3) := by decide +kernel
theorem dX9_operand_168 : decode cX9_operand 168 = .ok (.iload_n 3, 1) := by decide +kernel
theorem dX9_operand_169 : decode cX9_operand 169 = .ok (.aload_n 0, 1) := by decide +kernel
theorem dX9_operand_170 : decode cX9_operand 170 = .ok (.getfield 200, 3) := by decide +kernel
theorem dX9_operand_173 : decode cX9_operand 173 = .ok (.invokevirtual 292, 3) := by decide +kernel
theorem dX9_operand_176 : decode cX9_operand 176 = .ok (.aload_n 0, 1) := by decide +kernel
theorem dX9_operand_177 : decode cX9_operand 177 = .ok (.invokevirtual 272, 3) := by decide +kernel
theorem dX9_operand_180 : decode cX9_operand 180 = .ok (.iconst 2, 1) := by decide +kernel
theorem dX9_operand_181 : decode cX9_operand 181 = .ok (.ireturn, 1) := by decide +kernel
theorem dX9_signOf_0 : decode cX9_signOf 0 = .ok (.aload_n 0, 1) := by decide +kernel
theorem dX9_signOf_1 : decode cX9_signOf 1 = .ok (.getfield 203, 3) := by decide +kernel
theorem dX9_signOf_4 : decode cX9_signOf 4 = .ok (.bipush 43, 2) := by decide +kernel
theorem dX9_signOf_6 : decode cX9_signOf 6 = .ok (.if_icmp .ne 8, 3) := by decide +kernel
theorem dX9_signOf_9 : decode cX9_signOf 9 = .ok (.bipush 26, 2) := by decide +kernel
theorem dX9_signOf_11 : decode cX9_signOf 11 = .ok (.goto 104, 3) := by decide +kernel
theorem dX9_signOf_14 : decode cX9_signOf 14 = .ok (.aload_n 0, 1) := by decide +kernel
theorem dX9_signOf_15 : decode cX9_signOf 15 = .ok (.getfield 203, 3) := by decide +kernel
theorem dX9_signOf_18 : decode cX9_signOf 18 = .ok (.bipush 45, 2) := by decide +kernel
theorem dX9_signOf_20 : decode cX9_signOf 20 = .ok (.if_icmp .ne 8, 3) := by decide +kernel
theorem dX9_signOf_23 : decode cX9_signOf 23 = .ok (.bipush 27, 2) := by decide +kernel
theorem dX9_signOf_25 : decode cX9_signOf 25 = .ok (.goto 90, 3) := by decide +kernel
theorem dX9_signOf_28 : decode cX9_signOf 28 = .ok (.aload_n 0, 1) := by decide +kernel
theorem dX9_signOf_29 : decode cX9_signOf 29 = .ok (.getfield 203, 3) := by decide +kernel
theorem dX9_signOf_32 : decode cX9_signOf 32 = .ok (.bipush 42, 2) := by decide +kernel
theorem dX9_signOf_34 : decode cX9_signOf 34 = .ok (.if_icmp .ne 8, 3) := by decide +kernel
theorem dX9_signOf_37 : decode cX9_signOf 37 = .ok (.bipush 28, 2) := by decide +kernel
theorem dX9_signOf_39 : decode cX9_signOf 39 = .ok (.goto 76, 3) := by decide +kernel
theorem dX9_signOf_42 : decode cX9_signOf 42 = .ok (.aload_n 0, 1) := by decide +kernel
theorem dX9_signOf_43 : decode cX9_signOf 43 = .ok (.getfield 203, 3) := by decide +kernel
theorem dX9_signOf_46 : decode cX9_signOf 46 = .ok (.bipush 61, 2) := by decide +kernel
theorem dX9_signOf_48 : decode cX9_signOf 48 = .ok (.if_icmp .ne 8, 3) := by decide +kernel
theorem dX9_signOf_51 : decode cX9_signOf 51 = .ok (.bipush 23, 2) := by decide +kernel
theorem dX9_signOf_53 : decode cX9_signOf 53 = .ok (.goto 62, 3) := by decide +kernel
theorem dX9_signOf_56 : decode cX9_signOf 56 = .ok (.aload_n 0, 1) := by decide +kernel
theorem dX9_signOf_57 : decode cX9_signOf 57 = .ok (.getfield 203, 3) := by decide +kernel
theorem dX9_signOf_60 : decode cX9_signOf 60 = .ok (.bipush 60, 2) := by decide +kernel
theorem dX9_signOf_62 : decode cX9_signOf 62 = .ok (.if_icmp .ne 8, 3) := by decide +kernel
theorem dX9_signOf_65 : decode cX9_signOf 65 = .ok (.bipush 24, 2) := by decide +kernel
theorem dX9_signOf_67 : decode cX9_signOf 67 = .ok (.goto 48, 3) := by decide +kernel
theorem dX9_signOf_70 : decode cX9_signOf 70 = .ok (.aload_n 0, 1) := by decide +kernel
theorem dX9_signOf_71 : decode cX9_signOf 71 = .ok (.getfield 203, 3) := by decide +kernel
theorem dX9_signOf_74 : decode cX9_signOf 74 = .ok (.bipush 62, 2) := by decide +kernel
theorem dX9_signOf_76 : decode cX9_signOf 76 = .ok (.if_icmp .ne 8, 3) := by decide +kernel
theorem dX9_signOf_79 : decode cX9_signOf 79 = .ok (.bipush 25, 2) := by decide +kernel
theorem dX9_signOf_81 : decode cX9_signOf 81 = .ok (.goto 34, 3) := by decide +kernel
theorem dX9_signOf_84 : decode cX9_signOf 84 = .ok (.aload_n 0, 1) := by decide +kernel
theorem dX9_signOf_85 : decode cX9_signOf 85 = .ok (.ldc2_w 259, 3) := by decide +kernel
theorem dX9_signOf_88 : decode cX9_signOf 88 = .ok (.invokevirtual 265, 3) := by decide +kernel
theorem dX9_signOf_91 : decode cX9_signOf 91 = .ok (.ifCond .eq 8, 3) := by decide +kernel
theorem dX9_signOf_94 : decode cX9_signOf 94 = .ok (.bipush 21, 2) := by decide +kernel
theorem dX9_signOf_96 : decode cX9_signOf 96 = .ok (.goto 19, 3) := by decide +kernel
theorem dX9_signOf_99 : decode cX9_signOf 99 = .ok (.aload_n 0, 1) := by decide +kernel
theorem dX9_signOf_100 : decode cX9_signOf 100 = .ok (.ldc2_w 261, 3) := by decide +kernel
theorem dX9_signOf_103 : decode cX9_signOf 103 = .ok (.invokevirtual 265, 3) := by decide +kernel
theorem dX9_signOf_106 : decode cX9_signOf 106 = .ok (.ifCond .eq 8, 3) := by decide +kernel
theorem dX9_signOf_109 : decode cX9_signOf 109 = .ok (.bipush 20, 2) := by decide +kernel
theorem dX9_signOf_111 : decode cX9_signOf 111 = .ok (.goto 4, 3) := by decide +kernel
theorem dX9_signOf_114 : decode cX9_signOf 114 = .ok (.iconst (-1), 1) := by decide +kernel
theorem dX9_signOf_115 : decode cX9_signOf 115 = .ok (.ireturn, 1) := by decide +kernel
theorem dX9_sign_0 : decode cX9_sign 0 = .ok (.aload_n 0, 1) := by decide +kernel
theorem dX9_sign_1 : decode cX9_sign 1 = .ok (.invokevirtual 314, 3) := by decide +kernel
theorem dX9_sign_4 : decode cX9_sign 4 = .ok (.istore_n 1, 1) := by decide +kernel
theorem dX9_sign_5 : decode cX9_sign 5 = .ok (.aload_n 0, 1) := by decide +kernel
theorem dX9_sign_6 : decode cX9_sign 6 = .ok (.getfield 203, 3) := by decide +kernel
theorem dX9_sign_9 : decode cX9_sign 9 = .ok (.bipush 41, 2) := by decide +kernel
theorem dX9_sign_11 : decode cX9_sign 11 = .ok (.if_icmp .ne 41, 3) := by decide +kernel
theorem dX9_sign_14 : decode cX9_sign 14 = .ok (.aload_n 0, 1) := by decide +kernel
theorem dX9_sign_15 : decode cX9_sign 15 = .ok (.invokevirtual 317, 3) := by decide +kernel
theorem dX9_sign_18 : decode cX9_sign 18 = .ok (.ifCond .eq 34, 3) := by decide +kernel
theorem dX9_sign_21 : decode cX9_sign 21 = .ok (.aload_n 0, 1) := by decide +kernel
theorem dX9_sign_22 : decode cX9_sign 22 = .ok (.iconst 0, 1) := by decide +kernel
theorem dX9_sign_23 : decode cX9_sign 23 = .ok (.invokevirtual 321, 3) := by decide +kernel
theorem dX9_sign_26 : decode cX9_sign 26 = .ok (.aload_n 0, 1) := by decide +kernel
theorem dX9_sign_27 : decode cX9_sign 27 = .ok (.dup, 1) := by decide +kernel
theorem dX9_sign_28 : decode cX9_sign 28 = .ok (.getfield 286, 3) := by decide +kernel
theorem dX9_sign_31 : decode cX9_sign 31 = .ok (.iconst 1, 1) := by decide +kernel
theorem dX9_sign_32 : decode cX9_sign 32 = .ok (.isub, 1) := by decide +kernel
theorem dX9_sign_33 : decode cX9_sign 33 = .ok (.putfield 286, 3) := by decide +kernel
theorem dX9_sign_36 : decode cX9_sign 36 = .ok (.aload_n 0, 1) := by decide +kernel
theorem dX9_sign_37 : decode cX9_sign 37 = .ok (.dup, 1) := by decide +kernel
theorem dX9_sign_38 : decode cX9_sign 38 = .ok (.getfield 289, 3) := by decide +kernel
theorem dX9_sign_41 : decode cX9_sign 41 = .ok (.iconst 1, 1) := by decide +kernel
theorem dX9_sign_42 : decode cX9_sign 42 = .ok (.isub, 1) := by decide +kernel
theorem dX9_sign_43 : decode cX9_sign 43 = .ok (.putfield 289, 3) := by decide +kernel
theorem dX9_sign_46 : decode cX9_sign 46 = .ok (.aload_n 0, 1) := by decide +kernel
theorem dX9_sign_47 : decode cX9_sign 47 = .ok (.invokevirtual 272, 3) := by decide +kernel
theorem dX9_sign_50 : decode cX9_sign 50 = .ok (.iconst 2, 1) := by decide +kernel
theorem dX9_sign_51 : decode cX9_sign 51 = .ok (.ireturn, 1) := by decide +kernel
theorem dX9_sign_52 : decode cX9_sign 52 = .ok (.iload_n 1, 1) := by decide +kernel
theorem dX9_sign_53 : decode cX9_sign 53 = .ok (.ifCond .ge 10, 3) := by decide +kernel
theorem dX9_sign_56 : decode cX9_sign 56 = .ok (.aload_n 0, 1) := by decide +kernel
theorem dX9_sign_57 : decode cX9_sign 57 = .ok (.iconst 2, 1) := by decide +kernel
theorem dX9_sign_58 : decode cX9_sign 58 = .ok (.invokevirtual 269, 3) := by decide +kernel
theorem dX9_sign_61 : decode cX9_sign 61 = .ok (.iconst 2, 1) := by decide +kernel
theorem dX9_sign_62 : decode cX9_sign 62 = .ok (.ireturn, 1) := by decide +kernel
theorem dX9_sign_63 : decode cX9_sign 63 = .ok (.iload_n 1, 1) := by decide +kernel
theorem dX9_sign_64 : decode cX9_sign 64 = .ok (.invokestatic 299, 3) := by decide +kernel
theorem dX9_sign_67 : decode cX9_sign 67 = .ok (.bipush 23, 2) := by decide +kernel
theorem dX9_sign_69 : decode cX9_sign 69 = .ok (.if_icmp .ne 29, 3) := by decide +kernel
theorem dX9_sign_72 : decode cX9_sign 72 = .ok (.aload_n 0, 1) := by decide +kernel
theorem dX9_sign_73 : decode cX9_sign 73 = .ok (.bipush 26, 2) := by decide +kernel
theorem dX9_sign_75 : decode cX9_sign 75 = .ok (.invokevirtual 321, 3) := by decide +kernel
theorem dX9_sign_78 : decode cX9_sign 78 = .ok (.aload_n 0, 1) := by decide +kernel
theorem dX9_sign_79 : decode cX9_sign 79 = .ok (.invokevirtual 295, 3) := by decide +kernel
theorem dX9_sign_82 : decode cX9_sign 82 = .ok (.invokestatic 299, 3) := by decide +kernel
theorem dX9_sign_85 : decode cX9_sign 85 = .ok (.bipush 23, 2) := by decide +kernel
theorem dX9_sign_87 : decode cX9_sign 87 = .ok (.if_icmp .ne 19, 3) := by decide +kernel
theorem dX9_sign_90 : decode cX9_sign 90 = .ok (.aload_n 0, 1) := by decide +kernel
theorem dX9_sign_91 : decode cX9_sign 91 = .ok (.iconst 2, 1) := by decide +kernel
theorem dX9_sign_92 : decode cX9_sign 92 = .ok (.invokevirtual 269, 3) := by decide +kernel
theorem dX9_sign_95 : decode cX9_sign 95 = .ok (.goto 11, 3) := by decide +kernel
theorem dX9_sign_98 : decode cX9_sign 98 = .ok (.aload_n 0, 1) := by decide +kernel
theorem dX9_sign_99 : decode cX9_sign 99 = .ok (.iload_n 1, 1) := by decide +kernel
theorem dX9_sign_100 : decode cX9_sign 100 = .ok (.invokestatic 299, 3) := by decide +kernel
theorem dX9_sign_103 : decode cX9_sign 103 = .ok (.invokevirtual 321, 3) := by decide +kernel
theorem dX9_sign_106 : decode cX9_sign 106 = .ok (.aload_n 0, 1) := by decide +kernel
theorem dX9_sign_107 : decode cX9_sign 107 = .ok (.getfield 216, 3) := by decide +kernel
theorem dX9_sign_110 : decode cX9_sign 110 = .ok (.ifCond .le 5, 3) := by decide +kernel
theorem dX9_sign_113 : decode cX9_sign 113 = .ok (.iconst 2, 1) := by decide +kernel
theorem dX9_sign_114 : decode cX9_sign 114 = .ok (.ireturn, 1) := by decide +kernel
theorem dX9_sign_115 : decode cX9_sign 115 = .ok (.aload_n 0, 1) := by decide +kernel
theorem dX9_sign_116 : decode cX9_sign 116 = .ok (.iload_n 1, 1) := by decide +kernel
theorem dX9_sign_117 : decode cX9_sign 117 = .ok (.invokevirtual 311, 3) := by decide +kernel
theorem dX9_sign_120 : decode cX9_sign 120 = .ok (.aload_n 0, 1) := by decide +kernel
theorem dX9_sign_121 : decode cX9_sign 121 = .ok (.invokevirtual 272, 3) := by decide +kernel
theorem dX9_sign_124 : decode cX9_sign 124 = .ok (.iload_n 1, 1) := by decide +kernel
theorem dX9_sign_125 : decode cX9_sign 125 = .ok (.bipush 21, 2) := by decide +kernel
theorem dX9_sign_127 : decode cX9_sign 127 = .ok (.if_icmp .eq 9, 3) := by decide +kernel
theorem dX9_sign_130 : decode cX9_sign 130 = .ok (.iload_n 1, 1) := by decide +kernel
theorem dX9_sign_131 : decode cX9_sign 131 = .ok (.bipush 20, 2) := by decide +kernel
theorem dX9_sign_133 : decode cX9_sign 133 = .ok (.if_icmp .ne 7, 3) := by decide +kernel
theorem dX9_sign_136 : decode cX9_sign 136 = .ok (.iconst 0, 1) := by decide +kernel
theorem dX9_sign_137 : decode cX9_sign 137 = .ok (.goto 4, 3) := by decide +kernel
theorem dX9_sign_140 : decode cX9_sign 140 = .ok (.iconst 1, 1) := by decide +kernel
theorem dX9_sign_141 : decode cX9_sign 141 = .ok (.ireturn, 1) := by decide +kernel
theorem dX9_readPass_0 : decode cX9_readPass 0 = .ok (.aload_n 0, 1) := by decide +kernel
theorem dX9_readPass_1 : decode cX9_readPass 1 = .ok (.invokevirtual 272, 3) := by decide +kernel
theorem dX9_readPass_4 : decode cX9_readPass 4 = .ok (.aload_n 0, 1) := by decide +kernel
theorem dX9_readPass_5 : decode cX9_readPass 5 = .ok (.iconst 1, 1) := by decide +kernel
theorem dX9_readPass_6 : decode cX9_readPass 6 = .ok (.putfield 324, 3) := by decide +kernel
theorem dX9_readPass_9 : decode cX9_readPass 9 = .ok (.aload_n 0, 1) := by decide +kernel
theorem dX9_readPass_10 : decode cX9_readPass 10 = .ok (.iconst 0, 1) := by decide +kernel
theorem dX9_readPass_11 : decode cX9_readPass 11 = .ok (.putfield 286, 3) := by decide +kernel
theorem dX9_readPass_14 : decode cX9_readPass 14 = .ok (.aload_n 0, 1) := by decide +kernel
theorem dX9_readPass_15 : decode cX9_readPass 15 = .ok (.iconst 0, 1) := by decide +kernel
theorem dX9_readPass_16 : decode cX9_readPass 16 = .ok (.putfield 289, 3) := by decide +kernel
theorem dX9_readPass_19 : decode cX9_readPass 19 = .ok (.iconst 0, 1) := by decide +kernel
theorem dX9_readPass_20 : decode cX9_readPass 20 = .ok (.istore_n 1, 1) := by decide +kernel
theorem dX9_readPass_21 : decode cX9_readPass 21 = .ok (.aload_n 0, 1) := by decide +kernel
theorem dX9_readPass_22 : decode cX9_readPass 22 = .ok (.getfield 216, 3) := by decide +kernel
theorem dX9_readPass_25 : decode cX9_readPass 25 = .ok (.ifCond .ne 45, 3) := by decide +kernel
theorem dX9_readPass_28 : decode cX9_readPass 28 = .ok (.iload_n 1, 1) := by decide +kernel
theorem dX9_readPass_29 : decode cX9_readPass 29 = .ok (.iconst 2, 1) := by decide +kernel
theorem dX9_readPass_30 : decode cX9_readPass 30 = .ok (.if_icmp .ne 19, 3) := by decide +kernel
theorem dX9_readPass_33 : decode cX9_readPass 33 = .ok (.aload_n 0, 1) := by decide +kernel
theorem dX9_readPass_34 : decode cX9_readPass 34 = .ok (.invokevirtual 317, 3) := by decide +kernel
theorem dX9_readPass_37 : decode cX9_readPass 37 = .ok (.ifCond .ne 12, 3) := by decide +kernel
theorem dX9_readPass_40 : decode cX9_readPass 40 = .ok (.aload_n 0, 1) := by decide +kernel
theorem dX9_readPass_41 : decode cX9_readPass 41 = .ok (.getfield 203, 3) := by decide +kernel
theorem dX9_readPass_44 : decode cX9_readPass 44 = .ok (.bipush 59, 2) := by decide +kernel
theorem dX9_readPass_46 : decode cX9_readPass 46 = .ok (.if_icmp .eq 24, 3) := by decide +kernel
theorem dX9_readPass_49 : decode cX9_readPass 49 = .ok (.iload_n 1, 1) := by decide +kernel
theorem dX9_readPass_50 : decode cX9_readPass 50 = .ok (.iconst 2, 1) := by decide +kernel
theorem dX9_readPass_51 : decode cX9_readPass 51 = .ok (.if_icmp .ne 10, 3) := by decide +kernel
theorem dX9_readPass_54 : decode cX9_readPass 54 = .ok (.aload_n 0, 1) := by decide +kernel
theorem dX9_readPass_55 : decode cX9_readPass 55 = .ok (.invokevirtual 328, 3) := by decide +kernel
theorem dX9_readPass_58 : decode cX9_readPass 58 = .ok (.goto 8, 3) := by decide +kernel
theorem dX9_readPass_61 : decode cX9_readPass 61 = .ok (.aload_n 0, 1) := by decide +kernel
theorem dX9_readPass_62 : decode cX9_readPass 62 = .ok (.iload_n 1, 1) := by decide +kernel
theorem dX9_readPass_63 : decode cX9_readPass 63 = .ok (.invokevirtual 331, 3) := by decide +kernel
theorem dX9_readPass_66 : decode cX9_readPass 66 = .ok (.istore_n 1, 1) := by decide +kernel
theorem dX9_readPass_67 : decode cX9_readPass 67 = .ok (.goto (-46), 3) := by decide +kernel
theorem dX9_readPass_70 : decode cX9_readPass 70 = .ok (.aload_n 0, 1) := by decide +kernel
theorem dX9_readPass_71 : decode cX9_readPass 71 = .ok (.getfield 216, 3) := by decide +kernel
theorem dX9_readPass_74 : decode cX9_readPass 74 = .ok (.ifCond .ne 8, 3) := by decide +kernel
theorem dX9_readPass_77 : decode cX9_readPass 77 = .ok (.aload_n 0, 1) := by decide +kernel
theorem dX9_readPass_78 : decode cX9_readPass 78 = .ok (.iconst 0, 1) := by decide +kernel
theorem dX9_readPass_79 : decode cX9_readPass 79 = .ok (.invokevirtual 321, 3) := by decide +kernel
theorem dX9_readPass_82 : decode cX9_readPass 82 = .ok (.return_, 1) := by decide +kernel
theorem dX9_find_0 : decode cX9_find 0 = .ok (.iconst (-1), 1) := by decide +kernel
theorem dX9_find_1 : decode cX9_find 1 = .ok (.istore_n 2, 1) := by decide +kernel
theorem dX9_find_2 : decode cX9_find 2 = .ok (.iconst 0, 1) := by decide +kernel
theorem dX9_find_3 : decode cX9_find 3 = .ok (.istore_n 3, 1) := by decide +kernel
theorem dX9_find_4 : decode cX9_find 4 = .ok (.iload_n 3, 1) := by decide +kernel
theorem dX9_find_5 : decode cX9_find 5 = .ok (.aload_n 0, 1) := by decide +kernel
theorem dX9_find_6 : decode cX9_find 6 = .ok (.getfield 42, 3) := by decide +kernel
theorem dX9_find_9 : decode cX9_find 9 = .ok (.iload_n 1, 1) := by decide +kernel
theorem dX9_find_10 : decode cX9_find 10 = .ok (.iaload, 1) := by decide +kernel
theorem dX9_find_11 : decode cX9_find 11 = .ok (.if_icmp .ge 34, 3) := by decide +kernel
theorem dX9_find_14 : decode cX9_find 14 = .ok (.aload_n 0, 1) := by decide +kernel
theorem dX9_find_15 : decode cX9_find 15 = .ok (.getfield 38, 3) := by decide +kernel
theorem dX9_find_18 : decode cX9_find 18 = .ok (.bipush 10, 2) := by decide +kernel
theorem dX9_find_20 : decode cX9_find 20 = .ok (.iload_n 1, 1) := by decide +kernel
theorem dX9_find_21 : decode cX9_find 21 = .ok (.imul, 1) := by decide +kernel
theorem dX9_find_22 : decode cX9_find 22 = .ok (.iload_n 3, 1) := by decide +kernel
theorem dX9_find_23 : decode cX9_find 23 = .ok (.iadd, 1) := by decide +kernel
theorem dX9_find_24 : decode cX9_find 24 = .ok (.laload, 1) := by decide +kernel
theorem dX9_find_25 : decode cX9_find 25 = .ok (.aload_n 0, 1) := by decide +kernel
theorem dX9_find_26 : decode cX9_find 26 = .ok (.getfield 196, 3) := by decide +kernel
theorem dX9_find_29 : decode cX9_find 29 = .ok (.lcmp, 1) := by decide +kernel
theorem dX9_find_30 : decode cX9_find 30 = .ok (.ifCond .ne 7, 3) := by decide +kernel
theorem dX9_find_33 : decode cX9_find 33 = .ok (.iload_n 3, 1) := by decide +kernel
theorem dX9_find_34 : decode cX9_find 34 = .ok (.goto 4, 3) := by decide +kernel
theorem dX9_find_37 : decode cX9_find 37 = .ok (.iload_n 2, 1) := by decide +kernel
theorem dX9_find_38 : decode cX9_find 38 = .ok (.istore_n 2, 1) := by decide +kernel
theorem dX9_find_39 : decode cX9_find 39 = .ok (.iinc 3 1, 3) := by decide +kernel
theorem dX9_find_42 : decode cX9_find 42 = .ok (.goto (-38), 3) := by decide +kernel
theorem dX9_find_45 : decode cX9_find 45 = .ok (.iload_n 2, 1) := by decide +kernel
theorem dX9_find_46 : decode cX9_find 46 = .ok (.ireturn, 1) := by decide +kernel
theorem dX9_readName_0 : decode cX9_readName 0 = .ok (.aload_n 0, 1) := by decide +kernel
theorem dX9_readName_1 : decode cX9_readName 1 = .ok (.invokevirtual 272, 3) := by decide +kernel
theorem dX9_readName_4 : decode cX9_readName 4 = .ok (.aload_n 0, 1) := by decide +kernel
theorem dX9_readName_5 : decode cX9_readName 5 = .ok (.invokevirtual 334, 3) := by decide +kernel
theorem dX9_readName_8 : decode cX9_readName 8 = .ok (.ifCond .ne 11, 3) := by decide +kernel
theorem dX9_readName_11 : decode cX9_readName 11 = .ok (.aload_n 0, 1) := by decide +kernel
theorem dX9_readName_12 : decode cX9_readName 12 = .ok (.iconst 2, 1) := by decide +kernel
theorem dX9_readName_13 : decode cX9_readName 13 = .ok (.invokevirtual 269, 3) := by decide +kernel
theorem dX9_readName_16 : decode cX9_readName 16 = .ok (.goto 16, 3) := by decide +kernel
theorem dX9_readName_19 : decode cX9_readName 19 = .ok (.aload_n 0, 1) := by decide +kernel
theorem dX9_readName_20 : decode cX9_readName 20 = .ok (.iload_n 1, 1) := by decide +kernel
theorem dX9_readName_21 : decode cX9_readName 21 = .ok (.invokevirtual 337, 3) := by decide +kernel
theorem dX9_readName_24 : decode cX9_readName 24 = .ok (.ifCond .lt 8, 3) := by decide +kernel
theorem dX9_readName_27 : decode cX9_readName 27 = .ok (.aload_n 0, 1) := by decide +kernel
theorem dX9_readName_28 : decode cX9_readName 28 = .ok (.iconst 3, 1) := by decide +kernel
theorem dX9_readName_29 : decode cX9_readName 29 = .ok (.invokevirtual 269, 3) := by decide +kernel
theorem dX9_readName_32 : decode cX9_readName 32 = .ok (.aload_n 0, 1) := by decide +kernel
theorem dX9_readName_33 : decode cX9_readName 33 = .ok (.getfield 216, 3) := by decide +kernel
theorem dX9_readName_36 : decode cX9_readName 36 = .ok (.ifCond .le 4, 3) := by decide +kernel
theorem dX9_readName_39 : decode cX9_readName 39 = .ok (.return_, 1) := by decide +kernel
theorem dX9_readName_40 : decode cX9_readName 40 = .ok (.aload_n 0, 1) := by decide +kernel
theorem dX9_readName_41 : decode cX9_readName 41 = .ok (.getfield 38, 3) := by decide +kernel
theorem dX9_readName_44 : decode cX9_readName 44 = .ok (.bipush 10, 2) := by decide +kernel
theorem dX9_readName_46 : decode cX9_readName 46 = .ok (.iload_n 1, 1) := by decide +kernel
theorem dX9_readName_47 : decode cX9_readName 47 = .ok (.imul, 1) := by decide +kernel
theorem dX9_readName_48 : decode cX9_readName 48 = .ok (.aload_n 0, 1) := by decide +kernel
theorem dX9_readName_49 : decode cX9_readName 49 = .ok (.getfield 42, 3) := by decide +kernel
theorem dX9_readName_52 : decode cX9_readName 52 = .ok (.iload_n 1, 1) := by decide +kernel
theorem dX9_readName_53 : decode cX9_readName 53 = .ok (.iaload, 1) := by decide +kernel
theorem dX9_readName_54 : decode cX9_readName 54 = .ok (.iadd, 1) := by decide +kernel
theorem dX9_readName_55 : decode cX9_readName 55 = .ok (.aload_n 0, 1) := by decide +kernel
theorem dX9_readName_56 : decode cX9_readName 56 = .ok (.getfield 196, 3) := by decide +kernel
theorem dX9_readName_59 : decode cX9_readName 59 = .ok (.lastore, 1) := by decide +kernel
theorem dX9_readName_60 : decode cX9_readName 60 = .ok (.aload_n 0, 1) := by decide +kernel
theorem dX9_readName_61 : decode cX9_readName 61 = .ok (.invokevirtual 272, 3) := by decide +kernel
theorem dX9_readName_64 : decode cX9_readName 64 = .ok (.return_, 1) := by decide +kernel
theorem dX9_old_0 : decode cX9_old 0 = .ok (.aload_n 0, 1) := by decide +kernel
theorem dX9_old_1 : decode cX9_old 1 = .ok (.getfield 216, 3) := by decide +kernel
theorem dX9_old_4 : decode cX9_old 4 = .ok (.ifCond .le 5, 3) := by decide +kernel
theorem dX9_old_7 : decode cX9_old 7 = .ok (.iconst 0, 1) := by decide +kernel
theorem dX9_old_8 : decode cX9_old 8 = .ok (.ireturn, 1) := by decide +kernel
theorem dX9_old_9 : decode cX9_old 9 = .ok (.aload_n 0, 1) := by decide +kernel
theorem dX9_old_10 : decode cX9_old 10 = .ok (.iload_n 1, 1) := by decide +kernel
theorem dX9_old_11 : decode cX9_old 11 = .ok (.invokevirtual 337, 3) := by decide +kernel
theorem dX9_old_14 : decode cX9_old 14 = .ok (.istore_n 3, 1) := by decide +kernel
theorem dX9_old_15 : decode cX9_old 15 = .ok (.aload_n 0, 1) := by decide +kernel
theorem dX9_old_16 : decode cX9_old 16 = .ok (.invokevirtual 334, 3) := by decide +kernel
theorem dX9_old_19 : decode cX9_old 19 = .ok (.ifCond .ne 11, 3) := by decide +kernel
theorem dX9_old_22 : decode cX9_old 22 = .ok (.aload_n 0, 1) := by decide +kernel
theorem dX9_old_23 : decode cX9_old 23 = .ok (.iconst 2, 1) := by decide +kernel
theorem dX9_old_24 : decode cX9_old 24 = .ok (.invokevirtual 269, 3) := by decide +kernel
theorem dX9_old_27 : decode cX9_old 27 = .ok (.goto 25, 3) := by decide +kernel
theorem dX9_old_30 : decode cX9_old 30 = .ok (.iload_n 3, 1) := by decide +kernel
theorem dX9_old_31 : decode cX9_old 31 = .ok (.ifCond .ge 11, 3) := by decide +kernel
theorem dX9_old_34 : decode cX9_old 34 = .ok (.aload_n 0, 1) := by decide +kernel
theorem dX9_old_35 : decode cX9_old 35 = .ok (.iconst 5, 1) := by decide +kernel
theorem dX9_old_36 : decode cX9_old 36 = .ok (.invokevirtual 269, 3) := by decide +kernel
theorem dX9_old_39 : decode cX9_old 39 = .ok (.goto 13, 3) := by decide +kernel
theorem dX9_old_42 : decode cX9_old 42 = .ok (.iload_n 3, 1) := by decide +kernel
theorem dX9_old_43 : decode cX9_old 43 = .ok (.iload_n 2, 1) := by decide +kernel
theorem dX9_old_44 : decode cX9_old 44 = .ok (.if_icmp .ne 8, 3) := by decide +kernel
theorem dX9_old_47 : decode cX9_old 47 = .ok (.aload_n 0, 1) := by decide +kernel
theorem dX9_old_48 : decode cX9_old 48 = .ok (.iconst 3, 1) := by decide +kernel
theorem dX9_old_49 : decode cX9_old 49 = .ok (.invokevirtual 269, 3) := by decide +kernel
theorem dX9_old_52 : decode cX9_old 52 = .ok (.aload_n 0, 1) := by decide +kernel
theorem dX9_old_53 : decode cX9_old 53 = .ok (.getfield 216, 3) := by decide +kernel
theorem dX9_old_56 : decode cX9_old 56 = .ok (.ifCond .ne 7, 3) := by decide +kernel
theorem dX9_old_59 : decode cX9_old 59 = .ok (.aload_n 0, 1) := by decide +kernel
