theorem dX11_init_0 : decode cX11_init 0 = .ok (.aload_n 0, 1) := by decide +kernel
theorem dX11_init_1 : decode cX11_init 1 = .ok (.invokespecial 1, 3) := by decide +kernel
theorem dX11_init_4 : decode cX11_init 4 = .ok (.aload_n 0, 1) := by decide +kernel
theorem dX11_init_5 : decode cX11_init 5 = .ok (.bipush 6, 2) := by decide +kernel
theorem dX11_init_7 : decode cX11_init 7 = .ok (.newarray .int, 2) := by decide +kernel
theorem dX11_init_9 : decode cX11_init 9 = .ok (.putfield 7, 3) := by decide +kernel
theorem dX11_init_12 : decode cX11_init 12 = .ok (.aload_n 0, 1) := by decide +kernel
theorem dX11_init_13 : decode cX11_init 13 = .ok (.bipush 12, 2) := by decide +kernel
theorem dX11_init_15 : decode cX11_init 15 = .ok (.newarray .int, 2) := by decide +kernel
theorem dX11_init_17 : decode cX11_init 17 = .ok (.putfield 13, 3) := by decide +kernel
theorem dX11_init_20 : decode cX11_init 20 = .ok (.aload_n 0, 1) := by decide +kernel
theorem dX11_init_21 : decode cX11_init 21 = .ok (.bipush 12, 2) := by decide +kernel
theorem dX11_init_23 : decode cX11_init 23 = .ok (.newarray .long, 2) := by decide +kernel
theorem dX11_init_25 : decode cX11_init 25 = .ok (.putfield 16, 3) := by decide +kernel
theorem dX11_init_28 : decode cX11_init 28 = .ok (.aload_n 0, 1) := by decide +kernel
theorem dX11_init_29 : decode cX11_init 29 = .ok (.bipush 12, 2) := by decide +kernel
theorem dX11_init_31 : decode cX11_init 31 = .ok (.newarray .int, 2) := by decide +kernel
theorem dX11_init_33 : decode cX11_init 33 = .ok (.putfield 20, 3) := by decide +kernel
theorem dX11_init_36 : decode cX11_init 36 = .ok (.aload_n 0, 1) := by decide +kernel
theorem dX11_init_37 : decode cX11_init 37 = .ok (.bipush 12, 2) := by decide +kernel
theorem dX11_init_39 : decode cX11_init 39 = .ok (.newarray .int, 2) := by decide +kernel
theorem dX11_init_41 : decode cX11_init 41 = .ok (.putfield 23, 3) := by decide +kernel
theorem dX11_init_44 : decode cX11_init 44 = .ok (.aload_n 0, 1) := by decide +kernel
theorem dX11_init_45 : decode cX11_init 45 = .ok (.sipush 144, 3) := by decide +kernel
theorem dX11_init_48 : decode cX11_init 48 = .ok (.newarray .long, 2) := by decide +kernel
theorem dX11_init_50 : decode cX11_init 50 = .ok (.putfield 26, 3) := by decide +kernel
theorem dX11_init_53 : decode cX11_init 53 = .ok (.aload_n 0, 1) := by decide +kernel
theorem dX11_init_54 : decode cX11_init 54 = .ok (.bipush 12, 2) := by decide +kernel
theorem dX11_init_56 : decode cX11_init 56 = .ok (.newarray .int, 2) := by decide +kernel
theorem dX11_init_58 : decode cX11_init 58 = .ok (.putfield 29, 3) := by decide +kernel
theorem dX11_init_61 : decode cX11_init 61 = .ok (.aload_n 0, 1) := by decide +kernel
theorem dX11_init_62 : decode cX11_init 62 = .ok (.sipush 144, 3) := by decide +kernel
theorem dX11_init_65 : decode cX11_init 65 = .ok (.newarray .long, 2) := by decide +kernel
theorem dX11_init_67 : decode cX11_init 67 = .ok (.putfield 32, 3) := by decide +kernel
theorem dX11_init_70 : decode cX11_init 70 = .ok (.aload_n 0, 1) := by decide +kernel
theorem dX11_init_71 : decode cX11_init 71 = .ok (.bipush 12, 2) := by decide +kernel
theorem dX11_init_73 : decode cX11_init 73 = .ok (.newarray .int, 2) := by decide +kernel
theorem dX11_init_75 : decode cX11_init 75 = .ok (.putfield 35, 3) := by decide +kernel
theorem dX11_init_78 : decode cX11_init 78 = .ok (.aload_n 0, 1) := by decide +kernel
theorem dX11_init_79 : decode cX11_init 79 = .ok (.bipush 12, 2) := by decide +kernel
theorem dX11_init_81 : decode cX11_init 81 = .ok (.newarray .int, 2) := by decide +kernel
theorem dX11_init_83 : decode cX11_init 83 = .ok (.putfield 38, 3) := by decide +kernel
theorem dX11_init_86 : decode cX11_init 86 = .ok (.aload_n 0, 1) := by decide +kernel
theorem dX11_init_87 : decode cX11_init 87 = .ok (.bipush 20, 2) := by decide +kernel
theorem dX11_init_89 : decode cX11_init 89 = .ok (.newarray .int, 2) := by decide +kernel
theorem dX11_init_91 : decode cX11_init 91 = .ok (.putfield 41, 3) := by decide +kernel
theorem dX11_init_94 : decode cX11_init 94 = .ok (.aload_n 0, 1) := by decide +kernel
theorem dX11_init_95 : decode cX11_init 95 = .ok (.bipush 20, 2) := by decide +kernel
theorem dX11_init_97 : decode cX11_init 97 = .ok (.newarray .int, 2) := by decide +kernel
theorem dX11_init_99 : decode cX11_init 99 = .ok (.putfield 44, 3) := by decide +kernel
theorem dX11_init_102 : decode cX11_init 102 = .ok (.aload_n 0, 1) := by decide +kernel
theorem dX11_init_103 : decode cX11_init 103 = .ok (.bipush 80, 2) := by decide +kernel
theorem dX11_init_105 : decode cX11_init 105 = .ok (.newarray .int, 2) := by decide +kernel
theorem dX11_init_107 : decode cX11_init 107 = .ok (.putfield 47, 3) := by decide +kernel
theorem dX11_init_110 : decode cX11_init 110 = .ok (.aload_n 0, 1) := by decide +kernel
theorem dX11_init_111 : decode cX11_init 111 = .ok (.bipush 80, 2) := by decide +kernel
theorem dX11_init_113 : decode cX11_init 113 = .ok (.newarray .int, 2) := by decide +kernel
theorem dX11_init_115 : decode cX11_init 115 = .ok (.putfield 50, 3) := by decide +kernel
theorem dX11_init_118 : decode cX11_init 118 = .ok (.aload_n 0, 1) := by decide +kernel
theorem dX11_init_119 : decode cX11_init 119 = .ok (.bipush 20, 2) := by decide +kernel
theorem dX11_init_121 : decode cX11_init 121 = .ok (.newarray .int, 2) := by decide +kernel
theorem dX11_init_123 : decode cX11_init 123 = .ok (.putfield 53, 3) := by decide +kernel
theorem dX11_init_126 : decode cX11_init 126 = .ok (.aload_n 0, 1) := by decide +kernel
theorem dX11_init_127 : decode cX11_init 127 = .ok (.sipush 1200, 3) := by decide +kernel
theorem dX11_init_130 : decode cX11_init 130 = .ok (.newarray .long, 2) := by decide +kernel
theorem dX11_init_132 : decode cX11_init 132 = .ok (.putfield 56, 3) := by decide +kernel
theorem dX11_init_135 : decode cX11_init 135 = .ok (.aload_n 0, 1) := by decide +kernel
theorem dX11_init_136 : decode cX11_init 136 = .ok (.bipush 12, 2) := by decide +kernel
theorem dX11_init_138 : decode cX11_init 138 = .ok (.newarray .int, 2) := by decide +kernel
theorem dX11_init_140 : decode cX11_init 140 = .ok (.putfield 59, 3) := by decide +kernel
theorem dX11_init_143 : decode cX11_init 143 = .ok (.aload_n 0, 1) := by decide +kernel
theorem dX11_init_144 : decode cX11_init 144 = .ok (.bipush 12, 2) := by decide +kernel
theorem dX11_init_146 : decode cX11_init 146 = .ok (.newarray .long, 2) := by decide +kernel
theorem dX11_init_148 : decode cX11_init 148 = .ok (.putfield 62, 3) := by decide +kernel
theorem dX11_init_151 : decode cX11_init 151 = .ok (.aload_n 0, 1) := by decide +kernel
theorem dX11_init_152 : decode cX11_init 152 = .ok (.bipush 20, 2) := by decide +kernel
theorem dX11_init_154 : decode cX11_init 154 = .ok (.newarray .int, 2) := by decide +kernel
theorem dX11_init_156 : decode cX11_init 156 = .ok (.putfield 65, 3) := by decide +kernel
theorem dX11_init_159 : decode cX11_init 159 = .ok (.aload_n 0, 1) := by decide +kernel
theorem dX11_init_160 : decode cX11_init 160 = .ok (.sipush 9000, 3) := by decide +kernel
theorem dX11_init_163 : decode cX11_init 163 = .ok (.newarray .long, 2) := by decide +kernel
theorem dX11_init_165 : decode cX11_init 165 = .ok (.putfield 68, 3) := by decide +kernel
theorem dX11_init_168 : decode cX11_init 168 = .ok (.aload_n 0, 1) := by decide +kernel
theorem dX11_init_169 : decode cX11_init 169 = .ok (.bipush 20, 2) := by decide +kernel
theorem dX11_init_171 : decode cX11_init 171 = .ok (.newarray .int, 2) := by decide +kernel
theorem dX11_init_173 : decode cX11_init 173 = .ok (.putfield 71, 3) := by decide +kernel
theorem dX11_init_176 : decode cX11_init 176 = .ok (.aload_n 0, 1) := by decide +kernel
theorem dX11_init_177 : decode cX11_init 177 = .ok (.sipush 4000, 3) := by decide +kernel
theorem dX11_init_180 : decode cX11_init 180 = .ok (.newarray .long, 2) := by decide +kernel
theorem dX11_init_182 : decode cX11_init 182 = .ok (.putfield 74, 3) := by decide +kernel
theorem dX11_init_185 : decode cX11_init 185 = .ok (.aload_n 0, 1) := by decide +kernel
theorem dX11_init_186 : decode cX11_init 186 = .ok (.iconst 3, 1) := by decide +kernel
theorem dX11_init_187 : decode cX11_init 187 = .ok (.newarray .int, 2) := by decide +kernel
theorem dX11_init_189 : decode cX11_init 189 = .ok (.putfield 77, 3) := by decide +kernel
theorem dX11_init_192 : decode cX11_init 192 = .ok (.aload_n 0, 1) := by decide +kernel
theorem dX11_init_193 : decode cX11_init 193 = .ok (.iconst 4, 1) := by decide +kernel
theorem dX11_init_194 : decode cX11_init 194 = .ok (.newarray .int, 2) := by decide +kernel
theorem dX11_init_196 : decode cX11_init 196 = .ok (.putfield 80, 3) := by decide +kernel
theorem dX11_init_199 : decode cX11_init 199 = .ok (.aload_n 0, 1) := by decide +kernel
theorem dX11_init_200 : decode cX11_init 200 = .ok (.bipush 12, 2) := by decide +kernel
theorem dX11_init_202 : decode cX11_init 202 = .ok (.newarray .long, 2) := by decide +kernel
theorem dX11_init_204 : decode cX11_init 204 = .ok (.putfield 83, 3) := by decide +kernel
theorem dX11_init_207 : decode cX11_init 207 = .ok (.aload_n 0, 1) := by decide +kernel
theorem dX11_init_208 : decode cX11_init 208 = .ok (.bipush 12, 2) := by decide +kernel
theorem dX11_init_210 : decode cX11_init 210 = .ok (.newarray .int, 2) := by decide +kernel
theorem dX11_init_212 : decode cX11_init 212 = .ok (.putfield 86, 3) := by decide +kernel
theorem dX11_init_215 : decode cX11_init 215 = .ok (.aload_n 0, 1) := by decide +kernel
theorem dX11_init_216 : decode cX11_init 216 = .ok (.bipush 12, 2) := by decide +kernel
theorem dX11_init_218 : decode cX11_init 218 = .ok (.newarray .long, 2) := by decide +kernel
theorem dX11_init_220 : decode cX11_init 220 = .ok (.putfield 89, 3) := by decide +kernel
theorem dX11_init_223 : decode cX11_init 223 = .ok (.aload_n 0, 1) := by decide +kernel
theorem dX11_init_224 : decode cX11_init 224 = .ok (.bipush 12, 2) := by decide +kernel
theorem dX11_init_226 : decode cX11_init 226 = .ok (.newarray .long, 2) := by decide +kernel
theorem dX11_init_228 : decode cX11_init 228 = .ok (.putfield 92, 3) := by decide +kernel
theorem dX11_init_231 : decode cX11_init 231 = .ok (.aload_n 0, 1) := by decide +kernel
theorem dX11_init_232 : decode cX11_init 232 = .ok (.bipush 12, 2) := by decide +kernel
theorem dX11_init_234 : decode cX11_init 234 = .ok (.newarray .int, 2) := by decide +kernel
theorem dX11_init_236 : decode cX11_init 236 = .ok (.putfield 95, 3) := by decide +kernel
theorem dX11_init_239 : decode cX11_init 239 = .ok (.aload_n 0, 1) := by decide +kernel
theorem dX11_init_240 : decode cX11_init 240 = .ok (.bipush 20, 2) := by decide +kernel
theorem dX11_init_242 : decode cX11_init 242 = .ok (.newarray .int, 2) := by decide +kernel
theorem dX11_init_244 : decode cX11_init 244 = .ok (.putfield 98, 3) := by decide +kernel
theorem dX11_init_247 : decode cX11_init 247 = .ok (.aload_n 0, 1) := by decide +kernel
theorem dX11_init_248 : decode cX11_init 248 = .ok (.bipush 12, 2) := by decide +kernel
theorem dX11_init_250 : decode cX11_init 250 = .ok (.newarray .int, 2) := by decide +kernel
theorem dX11_init_252 : decode cX11_init 252 = .ok (.putfield 101, 3) := by decide +kernel
theorem dX11_init_255 : decode cX11_init 255 = .ok (.aload_n 0, 1) := by decide +kernel
theorem dX11_init_256 : decode cX11_init 256 = .ok (.bipush 12, 2) := by decide +kernel
theorem dX11_init_258 : decode cX11_init 258 = .ok (.newarray .int, 2) := by decide +kernel
theorem dX11_init_260 : decode cX11_init 260 = .ok (.putfield 104, 3) := by decide +kernel
theorem dX11_init_263 : decode cX11_init 263 = .ok (.aload_n 0, 1) := by decide +kernel
theorem dX11_init_264 : decode cX11_init 264 = .ok (.bipush 20, 2) := by decide +kernel
theorem dX11_init_266 : decode cX11_init 266 = .ok (.newarray .int, 2) := by decide +kernel
theorem dX11_init_268 : decode cX11_init 268 = .ok (.putfield 107, 3) := by decide +kernel
theorem dX11_init_271 : decode cX11_init 271 = .ok (.aload_n 0, 1) := by decide +kernel
theorem dX11_init_272 : decode cX11_init 272 = .ok (.sipush 2000, 3) := by decide +kernel
theorem dX11_init_275 : decode cX11_init 275 = .ok (.newarray .int, 2) := by decide +kernel
theorem dX11_init_277 : decode cX11_init 277 = .ok (.putfield 110, 3) := by decide +kernel
theorem dX11_init_280 : decode cX11_init 280 = .ok (.aload_n 0, 1) := by decide +kernel
theorem dX11_init_281 : decode cX11_init 281 = .ok (.bipush (-9), 2) := by decide +kernel
theorem dX11_init_283 : decode cX11_init 283 = .ok (.putfield 113, 3) := by decide +kernel
theorem dX11_init_286 : decode cX11_init 286 = .ok (.aload_n 0, 1) := by decide +kernel
theorem dX11_init_287 : decode cX11_init 287 = .ok (.bipush 20, 2) := by decide +kernel
theorem dX11_init_289 : decode cX11_init 289 = .ok (.newarray .int, 2) := by decide +kernel
theorem dX11_init_291 : decode cX11_init 291 = .ok (.putfield 117, 3) := by decide +kernel
theorem dX11_init_294 : decode cX11_init 294 = .ok (.aload_n 0, 1) := by decide +kernel
theorem dX11_init_295 : decode cX11_init 295 = .ok (.sipush 2000, 3) := by decide +kernel
theorem dX11_init_298 : decode cX11_init 298 = .ok (.newarray .int, 2) := by decide +kernel
theorem dX11_init_300 : decode cX11_init 300 = .ok (.putfield 120, 3) := by decide +kernel
theorem dX11_init_303 : decode cX11_init 303 = .ok (.aload_n 0, 1) := by decide +kernel
theorem dX11_init_304 : decode cX11_init 304 = .ok (.bipush 20, 2) := by decide +kernel
theorem dX11_init_306 : decode cX11_init 306 = .ok (.newarray .int, 2) := by decide +kernel
theorem dX11_init_308 : decode cX11_init 308 = .ok (.putfield 123, 3) := by decide +kernel
theorem dX11_init_311 : decode cX11_init 311 = .ok (.aload_n 0, 1) := by decide +kernel
theorem dX11_init_312 : decode cX11_init 312 = .ok (.bipush 12, 2) := by decide +kernel
theorem dX11_init_314 : decode cX11_init 314 = .ok (.newarray .int, 2) := by decide +kernel
theorem dX11_init_316 : decode cX11_init 316 = .ok (.putfield 126, 3) := by decide +kernel
theorem dX11_init_319 : decode cX11_init 319 = .ok (.aload_n 0, 1) := by decide +kernel
theorem dX11_init_320 : decode cX11_init 320 = .ok (.bipush 41, 2) := by decide +kernel
theorem dX11_init_322 : decode cX11_init 322 = .ok (.newarray .int, 2) := by decide +kernel
theorem dX11_init_324 : decode cX11_init 324 = .ok (.putfield 129, 3) := by decide +kernel
theorem dX11_init_327 : decode cX11_init 327 = .ok (.aload_n 0, 1) := by decide +kernel
theorem dX11_init_328 : decode cX11_init 328 = .ok (.bipush 41, 2) := by decide +kernel
theorem dX11_init_330 : decode cX11_init 330 = .ok (.newarray .int, 2) := by decide +kernel
theorem dX11_init_332 : decode cX11_init 332 = .ok (.putfield 132, 3) := by decide +kernel
theorem dX11_init_335 : decode cX11_init 335 = .ok (.aload_n 0, 1) := by decide +kernel
theorem dX11_init_336 : decode cX11_init 336 = .ok (.sipush 820, 3) := by decide +kernel
theorem dX11_init_339 : decode cX11_init 339 = .ok (.newarray .int, 2) := by decide +kernel
theorem dX11_init_341 : decode cX11_init 341 = .ok (.putfield 135, 3) := by decide +kernel
theorem dX11_init_344 : decode cX11_init 344 = .ok (.aload_n 0, 1) := by decide +kernel
theorem dX11_init_345 : decode cX11_init 345 = .ok (.bipush 40, 2) := by decide +kernel
theorem dX11_init_347 : decode cX11_init 347 = .ok (.newarray .int, 2) := by decide +kernel
theorem dX11_init_349 : decode cX11_init 349 = .ok (.putfield 138, 3) := by decide +kernel
theorem dX11_init_352 : decode cX11_init 352 = .ok (.aload_n 0, 1) := by decide +kernel
theorem dX11_init_353 : decode cX11_init 353 = .ok (.bipush 20, 2) := by decide +kernel
theorem dX11_init_355 : decode cX11_init 355 = .ok (.newarray .int, 2) := by decide +kernel
theorem dX11_init_357 : decode cX11_init 357 = .ok (.putfield 141, 3) := by decide +kernel
theorem dX11_init_360 : decode cX11_init 360 = .ok (.aload_n 0, 1) := by decide +kernel
theorem dX11_init_361 : decode cX11_init 361 = .ok (.bipush 12, 2) := by decide +kernel
theorem dX11_init_363 : decode cX11_init 363 = .ok (.newarray .int, 2) := by decide +kernel
theorem dX11_init_365 : decode cX11_init 365 = .ok (.putfield 144, 3) := by decide +kernel
theorem dX11_init_368 : decode cX11_init 368 = .ok (.aload_n 0, 1) := by decide +kernel
theorem dX11_init_369 : decode cX11_init 369 = .ok (.bipush 12, 2) := by decide +kernel
theorem dX11_init_371 : decode cX11_init 371 = .ok (.newarray .boolean, 2) := by decide +kernel
theorem dX11_init_373 : decode cX11_init 373 = .ok (.putfield 147, 3) := by decide +kernel
theorem dX11_init_376 : decode cX11_init 376 = .ok (.aload_n 0, 1) := by decide +kernel
theorem dX11_init_377 : decode cX11_init 377 = .ok (.sipush 144, 3) := by decide +kernel
theorem dX11_init_380 : decode cX11_init 380 = .ok (.newarray .int, 2) := by decide +kernel
theorem dX11_init_382 : decode cX11_init 382 = .ok (.putfield 151, 3) := by decide +kernel
theorem dX11_init_385 : decode cX11_init 385 = .ok (.aload_n 0, 1) := by decide +kernel
theorem dX11_init_386 : decode cX11_init 386 = .ok (.sipush 144, 3) := by decide +kernel
theorem dX11_init_389 : decode cX11_init 389 = .ok (.newarray .int, 2) := by decide +kernel
theorem dX11_init_391 : decode cX11_init 391 = .ok (.putfield 154, 3) := by decide +kernel
theorem dX11_init_394 : decode cX11_init 394 = .ok (.aload_n 0, 1) := by decide +kernel
theorem dX11_init_395 : decode cX11_init 395 = .ok (.sipush 144, 3) := by decide +kernel
theorem dX11_init_398 : decode cX11_init 398 = .ok (.newarray .int, 2) := by decide +kernel
theorem dX11_init_400 : decode cX11_init 400 = .ok (.putfield 157, 3) := by decide +kernel
theorem dX11_init_403 : decode cX11_init 403 = .ok (.aload_n 0, 1) := by decide +kernel
theorem dX11_init_404 : decode cX11_init 404 = .ok (.sipush 200, 3) := by decide +kernel
theorem dX11_init_407 : decode cX11_init 407 = .ok (.newarray .int, 2) := by decide +kernel
theorem dX11_init_409 : decode cX11_init 409 = .ok (.putfield 160, 3) := by decide +kernel
theorem dX11_init_412 : decode cX11_init 412 = .ok (.aload_n 0, 1) := by decide +kernel
theorem dX11_init_413 : decode cX11_init 413 = .ok (.bipush (-9), 2) := by decide +kernel
theorem dX11_init_415 : decode cX11_init 415 = .ok (.putfield 163, 3) := by decide +kernel
theorem dX11_init_418 : decode cX11_init 418 = .ok (.aload_n 0, 1) := by decide +kernel
theorem dX11_init_419 : decode cX11_init 419 = .ok (.sipush 200, 3) := by decide +kernel
theorem dX11_init_422 : decode cX11_init 422 = .ok (.newarray .int, 2) := by decide +kernel
theorem dX11_init_424 : decode cX11_init 424 = .ok (.putfield 166, 3) := by decide +kernel
theorem dX11_init_427 : decode cX11_init 427 = .ok (.aload_n 0, 1) := by decide +kernel
theorem dX11_init_428 : decode cX11_init 428 = .ok (.bipush 40, 2) := by decide +kernel
theorem dX11_init_430 : decode cX11_init 430 = .ok (.newarray .int, 2) := by decide +kernel
theorem dX11_init_432 : decode cX11_init 432 = .ok (.putfield 169, 3) := by decide +kernel
theorem dX11_init_435 : decode cX11_init 435 = .ok (.aload_n 0, 1) := by decide +kernel
theorem dX11_init_436 : decode cX11_init 436 = .ok (.bipush 40, 2) := by decide +kernel
theorem dX11_init_438 : decode cX11_init 438 = .ok (.newarray .int, 2) := by decide +kernel
theorem dX11_init_440 : decode cX11_init 440 = .ok (.putfield 172, 3) := by decide +kernel
theorem dX11_init_443 : decode cX11_init 443 = .ok (.aload_n 0, 1) := by decide +kernel
theorem dX11_init_444 : decode cX11_init 444 = .ok (.sipush 200, 3) := by decide +kernel
theorem dX11_init_447 : decode cX11_init 447 = .ok (.newarray .int, 2) := by decide +kernel
theorem dX11_init_449 : decode cX11_init 449 = .ok (.putfield 175, 3) := by decide +kernel
theorem dX11_init_452 : decode cX11_init 452 = .ok (.aload_n 0, 1) := by decide +kernel
theorem dX11_init_453 : decode cX11_init 453 = .ok (.bipush 13, 2) := by decide +kernel
theorem dX11_init_455 : decode cX11_init 455 = .ok (.newarray .int, 2) := by decide +kernel
theorem dX11_init_457 : decode cX11_init 457 = .ok (.putfield 178, 3) := by decide +kernel
theorem dX11_init_460 : decode cX11_init 460 = .ok (.aload_n 0, 1) := by decide +kernel
theorem dX11_init_461 : decode cX11_init 461 = .ok (.bipush 60, 2) := by decide +kernel
theorem dX11_init_463 : decode cX11_init 463 = .ok (.newarray .int, 2) := by decide +kernel
theorem dX11_init_465 : decode cX11_init 465 = .ok (.putfield 181, 3) := by decide +kernel
theorem dX11_init_468 : decode cX11_init 468 = .ok (.aload_n 0, 1) := by decide +kernel
theorem dX11_init_469 : decode cX11_init 469 = .ok (.sipush 1400, 3) := by decide +kernel
theorem dX11_init_472 : decode cX11_init 472 = .ok (.newarray .int, 2) := by decide +kernel
theorem dX11_init_474 : decode cX11_init 474 = .ok (.putfield 184, 3) := by decide +kernel
theorem dX11_init_477 : decode cX11_init 477 = .ok (.aload_n 0, 1) := by decide +kernel
theorem dX11_init_478 : decode cX11_init 478 = .ok (.sipush 1400, 3) := by decide +kernel
theorem dX11_init_481 : decode cX11_init 481 = .ok (.newarray .int, 2) := by decide +kernel
theorem dX11_init_483 : decode cX11_init 483 = .ok (.putfield 187, 3) := by decide +kernel
theorem dX11_init_486 : decode cX11_init 486 = .ok (.aload_n 0, 1) := by decide +kernel
theorem dX11_init_487 : decode cX11_init 487 = .ok (.sipush 1400, 3) := by decide +kernel
theorem dX11_init_490 : decode cX11_init 490 = .ok (.newarray .int, 2) := by decide +kernel
theorem dX11_init_492 : decode cX11_init 492 = .ok (.putfield 190, 3) := by decide +kernel
theorem dX11_init_495 : decode cX11_init 495 = .ok (.aload_n 0, 1) := by decide +kernel
theorem dX11_init_496 : decode cX11_init 496 = .ok (.bipush 60, 2) := by decide +kernel
theorem dX11_init_498 : decode cX11_init 498 = .ok (.newarray .long, 2) := by decide +kernel
theorem dX11_init_500 : decode cX11_init 500 = .ok (.putfield 193, 3) := by decide +kernel
theorem dX11_init_503 : decode cX11_init 503 = .ok (.aload_n 0, 1) := by decide +kernel
theorem dX11_init_504 : decode cX11_init 504 = .ok (.bipush 60, 2) := by decide +kernel
theorem dX11_init_506 : decode cX11_init 506 = .ok (.newarray .int, 2) := by decide +kernel
theorem dX11_init_508 : decode cX11_init 508 = .ok (.putfield 196, 3) := by decide +kernel
theorem dX11_init_511 : decode cX11_init 511 = .ok (.return_, 1) := by decide +kernel
theorem dX11_in_0 : decode cX11_in 0 = .ok (.iload_n 0, 1) := by decide +kernel
theorem dX11_in_1 : decode cX11_in 1 = .ok (.iload_n 1, 1) := by decide +kernel
theorem dX11_in_2 : decode cX11_in 2 = .ok (.if_icmp .lt 12, 3) := by decide +kernel
theorem dX11_in_5 : decode cX11_in 5 = .ok (.iload_n 0, 1) := by decide +kernel
theorem dX11_in_6 : decode cX11_in 6 = .ok (.iload_n 2, 1) := by decide +kernel
theorem dX11_in_7 : decode cX11_in 7 = .ok (.if_icmp .gt 7, 3) := by decide +kernel
theorem dX11_in_10 : decode cX11_in 10 = .ok (.iconst 1, 1) := by decide +kernel
theorem dX11_in_11 : decode cX11_in 11 = .ok (.goto 4, 3) := by decide +kernel
theorem dX11_in_14 : decode cX11_in 14 = .ok (.iconst 0, 1) := by decide +kernel
theorem dX11_in_15 : decode cX11_in 15 = .ok (.ireturn, 1) := by decide +kernel
theorem dX11_meets_0 : decode cX11_meets 0 = .ok (.aload_n 0, 1) := by decide +kernel
theorem dX11_meets_1 : decode cX11_meets 1 = .ok (.iload_n 1, 1) := by decide +kernel
theorem dX11_meets_2 : decode cX11_meets 2 = .ok (.putfield 199, 3) := by decide +kernel
theorem dX11_meets_5 : decode cX11_meets 5 = .ok (.aload_n 0, 1) := by decide +kernel
theorem dX11_meets_6 : decode cX11_meets 6 = .ok (.getfield 7, 3) := by decide +kernel
theorem dX11_meets_9 : decode cX11_meets 9 = .ok (.iload_n 1, 1) := by decide +kernel
theorem dX11_meets_10 : decode cX11_meets 10 = .ok (.dup2, 1) := by decide +kernel
theorem dX11_meets_11 : decode cX11_meets 11 = .ok (.iaload, 1) := by decide +kernel
theorem dX11_meets_12 : decode cX11_meets 12 = .ok (.iconst 1, 1) := by decide +kernel
theorem dX11_meets_13 : decode cX11_meets 13 = .ok (.iadd, 1) := by decide +kernel
theorem dX11_meets_14 : decode cX11_meets 14 = .ok (.iastore, 1) := by decide +kernel
theorem dX11_meets_15 : decode cX11_meets 15 = .ok (.bipush (-3), 2) := by decide +kernel
theorem dX11_meets_17 : decode cX11_meets 17 = .ok (.ireturn, 1) := by decide +kernel
theorem dX11_isPart_0 : decode cX11_isPart 0 = .ok (.iload_n 1, 1) := by decide +kernel
theorem dX11_isPart_1 : decode cX11_isPart 1 = .ok (.iconst 0, 1) := by decide +kernel
theorem dX11_isPart_2 : decode cX11_isPart 2 = .ok (.aload_n 0, 1) := by decide +kernel
theorem dX11_isPart_3 : decode cX11_isPart 3 = .ok (.getfield 202, 3) := by decide +kernel
theorem dX11_isPart_6 : decode cX11_isPart 6 = .ok (.iconst 1, 1) := by decide +kernel
theorem dX11_isPart_7 : decode cX11_isPart 7 = .ok (.isub, 1) := by decide +kernel
theorem dX11_isPart_8 : decode cX11_isPart 8 = .ok (.invokestatic 205, 3) := by decide +kernel
theorem dX11_isPart_11 : decode cX11_isPart 11 = .ok (.ireturn, 1) := by decide +kernel
theorem dX11_isLine_0 : decode cX11_isLine 0 = .ok (.iload_n 1, 1) := by decide +kernel
theorem dX11_isLine_1 : decode cX11_isLine 1 = .ok (.iconst 0, 1) := by decide +kernel
theorem dX11_isLine_2 : decode cX11_isLine 2 = .ok (.aload_n 0, 1) := by decide +kernel
theorem dX11_isLine_3 : decode cX11_isLine 3 = .ok (.getfield 209, 3) := by decide +kernel
theorem dX11_isLine_6 : decode cX11_isLine 6 = .ok (.iconst 1, 1) := by decide +kernel
theorem dX11_isLine_7 : decode cX11_isLine 7 = .ok (.isub, 1) := by decide +kernel
theorem dX11_isLine_8 : decode cX11_isLine 8 = .ok (.invokestatic 205, 3) := by decide +kernel
theorem dX11_isLine_11 : decode cX11_isLine 11 = .ok (.ireturn, 1) := by decide +kernel
theorem dX11_begins_0 : decode cX11_begins 0 = .ok (.iconst 0, 1) := by decide +kernel
theorem dX11_begins_1 : decode cX11_begins 1 = .ok (.istore_n 1, 1) := by decide +kernel
theorem dX11_begins_2 : decode cX11_begins 2 = .ok (.iload_n 1, 1) := by decide +kernel
theorem dX11_begins_3 : decode cX11_begins 3 = .ok (.aload_n 0, 1) := by decide +kernel
theorem dX11_begins_4 : decode cX11_begins 4 = .ok (.getfield 202, 3) := by decide +kernel
theorem dX11_begins_7 : decode cX11_begins 7 = .ok (.if_icmp .ge 71, 3) := by decide +kernel
theorem dX11_begins_10 : decode cX11_begins 10 = .ok (.aload_n 0, 1) := by decide +kernel
theorem dX11_begins_11 : decode cX11_begins 11 = .ok (.getfield 59, 3) := by decide +kernel
theorem dX11_begins_14 : decode cX11_begins 14 = .ok (.iload_n 1, 1) := by decide +kernel
theorem dX11_begins_15 : decode cX11_begins 15 = .ok (.iconst 0, 1) := by decide +kernel
theorem dX11_begins_16 : decode cX11_begins 16 = .ok (.iastore, 1) := by decide +kernel
theorem dX11_begins_17 : decode cX11_begins 17 = .ok (.aload_n 0, 1) := by decide +kernel
theorem dX11_begins_18 : decode cX11_begins 18 = .ok (.getfield 62, 3) := by decide +kernel
theorem dX11_begins_21 : decode cX11_begins 21 = .ok (.iload_n 1, 1) := by decide +kernel
theorem dX11_begins_22 : decode cX11_begins 22 = .ok (.lconst 0, 1) := by decide +kernel
theorem dX11_begins_23 : decode cX11_begins 23 = .ok (.lastore, 1) := by decide +kernel
theorem dX11_begins_24 : decode cX11_begins 24 = .ok (.aload_n 0, 1) := by decide +kernel
theorem dX11_begins_25 : decode cX11_begins 25 = .ok (.getfield 29, 3) := by decide +kernel
theorem dX11_begins_28 : decode cX11_begins 28 = .ok (.iload_n 1, 1) := by decide +kernel
theorem dX11_begins_29 : decode cX11_begins 29 = .ok (.aload_n 0, 1) := by decide +kernel
theorem dX11_begins_30 : decode cX11_begins 30 = .ok (.getfield 23, 3) := by decide +kernel
theorem dX11_begins_33 : decode cX11_begins 33 = .ok (.iload_n 1, 1) := by decide +kernel
theorem dX11_begins_34 : decode cX11_begins 34 = .ok (.iaload, 1) := by decide +kernel
theorem dX11_begins_35 : decode cX11_begins 35 = .ok (.iastore, 1) := by decide +kernel
theorem dX11_begins_36 : decode cX11_begins 36 = .ok (.iconst 0, 1) := by decide +kernel
theorem dX11_begins_37 : decode cX11_begins 37 = .ok (.istore_n 2, 1) := by decide +kernel
theorem dX11_begins_38 : decode cX11_begins 38 = .ok (.iload_n 2, 1) := by decide +kernel
theorem dX11_begins_39 : decode cX11_begins 39 = .ok (.bipush 12, 2) := by decide +kernel
theorem dX11_begins_41 : decode cX11_begins 41 = .ok (.if_icmp .ge 31, 3) := by decide +kernel
theorem dX11_begins_44 : decode cX11_begins 44 = .ok (.aload_n 0, 1) := by decide +kernel
theorem dX11_begins_45 : decode cX11_begins 45 = .ok (.getfield 32, 3) := by decide +kernel
theorem dX11_begins_48 : decode cX11_begins 48 = .ok (.bipush 12, 2) := by decide +kernel
theorem dX11_begins_50 : decode cX11_begins 50 = .ok (.iload_n 1, 1) := by decide +kernel
theorem dX11_begins_51 : decode cX11_begins 51 = .ok (.imul, 1) := by decide +kernel
theorem dX11_begins_52 : decode cX11_begins 52 = .ok (.iload_n 2, 1) := by decide +kernel
theorem dX11_begins_53 : decode cX11_begins 53 = .ok (.iadd, 1) := by decide +kernel
theorem dX11_begins_54 : decode cX11_begins 54 = .ok (.aload_n 0, 1) := by decide +kernel
theorem dX11_begins_55 : decode cX11_begins 55 = .ok (.getfield 26, 3) := by decide +kernel
theorem dX11_begins_58 : decode cX11_begins 58 = .ok (.bipush 12, 2) := by decide +kernel
theorem dX11_begins_60 : decode cX11_begins 60 = .ok (.iload_n 1, 1) := by decide +kernel
theorem dX11_begins_61 : decode cX11_begins 61 = .ok (.imul, 1) := by decide +kernel
theorem dX11_begins_62 : decode cX11_begins 62 = .ok (.iload_n 2, 1) := by decide +kernel
theorem dX11_begins_63 : decode cX11_begins 63 = .ok (.iadd, 1) := by decide +kernel
theorem dX11_begins_64 : decode cX11_begins 64 = .ok (.laload, 1) := by decide +kernel
theorem dX11_begins_65 : decode cX11_begins 65 = .ok (.lastore, 1) := by decide +kernel
theorem dX11_begins_66 : decode cX11_begins 66 = .ok (.iinc 2 1, 3) := by decide +kernel
theorem dX11_begins_69 : decode cX11_begins 69 = .ok (.goto (-31), 3) := by decide +kernel
theorem dX11_begins_72 : decode cX11_begins 72 = .ok (.iinc 1 1, 3) := by decide +kernel
theorem dX11_begins_75 : decode cX11_begins 75 = .ok (.goto (-73), 3) := by decide +kernel
theorem dX11_begins_78 : decode cX11_begins 78 = .ok (.iconst 0, 1) := by decide +kernel
theorem dX11_begins_79 : decode cX11_begins 79 = .ok (.istore_n 1, 1) := by decide +kernel
theorem dX11_begins_80 : decode cX11_begins 80 = .ok (.iload_n 1, 1) := by decide +kernel
theorem dX11_begins_81 : decode cX11_begins 81 = .ok (.aload_n 0, 1) := by decide +kernel
theorem dX11_begins_82 : decode cX11_begins 82 = .ok (.getfield 209, 3) := by decide +kernel
theorem dX11_begins_85 : decode cX11_begins 85 = .ok (.if_icmp .ge 69, 3) := by decide +kernel
theorem dX11_begins_88 : decode cX11_begins 88 = .ok (.aload_n 0, 1) := by decide +kernel
theorem dX11_begins_89 : decode cX11_begins 89 = .ok (.getfield 65, 3) := by decide +kernel
theorem dX11_begins_92 : decode cX11_begins 92 = .ok (.iload_n 1, 1) := by decide +kernel
theorem dX11_begins_93 : decode cX11_begins 93 = .ok (.aload_n 0, 1) := by decide +kernel
theorem dX11_begins_94 : decode cX11_begins 94 = .ok (.getfield 53, 3) := by decide +kernel
theorem dX11_begins_97 : decode cX11_begins 97 = .ok (.iload_n 1, 1) := by decide +kernel
theorem dX11_begins_98 : decode cX11_begins 98 = .ok (.iaload, 1) := by decide +kernel
theorem dX11_begins_99 : decode cX11_begins 99 = .ok (.iastore, 1) := by decide +kernel
theorem dX11_begins_100 : decode cX11_begins 100 = .ok (.aload_n 0, 1) := by decide +kernel
theorem dX11_begins_101 : decode cX11_begins 101 = .ok (.getfield 71, 3) := by decide +kernel
theorem dX11_begins_104 : decode cX11_begins 104 = .ok (.iload_n 1, 1) := by decide +kernel
theorem dX11_begins_105 : decode cX11_begins 105 = .ok (.iconst 0, 1) := by decide +kernel
theorem dX11_begins_106 : decode cX11_begins 106 = .ok (.iastore, 1) := by decide +kernel
theorem dX11_begins_107 : decode cX11_begins 107 = .ok (.iconst 0, 1) := by decide +kernel
theorem dX11_begins_108 : decode cX11_begins 108 = .ok (.istore_n 2, 1) := by decide +kernel
theorem dX11_begins_109 : decode cX11_begins 109 = .ok (.iload_n 2, 1) := by decide +kernel
theorem dX11_begins_110 : decode cX11_begins 110 = .ok (.aload_n 0, 1) := by decide +kernel
theorem dX11_begins_111 : decode cX11_begins 111 = .ok (.getfield 53, 3) := by decide +kernel
theorem dX11_begins_114 : decode cX11_begins 114 = .ok (.iload_n 1, 1) := by decide +kernel
theorem dX11_begins_115 : decode cX11_begins 115 = .ok (.iaload, 1) := by decide +kernel
theorem dX11_begins_116 : decode cX11_begins 116 = .ok (.if_icmp .ge 32, 3) := by decide +kernel
theorem dX11_begins_119 : decode cX11_begins 119 = .ok (.aload_n 0, 1) := by decide +kernel
theorem dX11_begins_120 : decode cX11_begins 120 = .ok (.getfield 68, 3) := by decide +kernel
theorem dX11_begins_123 : decode cX11_begins 123 = .ok (.sipush 450, 3) := by decide +kernel
theorem dX11_begins_126 : decode cX11_begins 126 = .ok (.iload_n 1, 1) := by decide +kernel
theorem dX11_begins_127 : decode cX11_begins 127 = .ok (.imul, 1) := by decide +kernel
theorem dX11_begins_128 : decode cX11_begins 128 = .ok (.iload_n 2, 1) := by decide +kernel
theorem dX11_begins_129 : decode cX11_begins 129 = .ok (.iadd, 1) := by decide +kernel
theorem dX11_begins_130 : decode cX11_begins 130 = .ok (.aload_n 0, 1) := by decide +kernel
theorem dX11_begins_131 : decode cX11_begins 131 = .ok (.getfield 56, 3) := by decide +kernel
theorem dX11_begins_134 : decode cX11_begins 134 = .ok (.bipush 60, 2) := by decide +kernel
theorem dX11_begins_136 : decode cX11_begins 136 = .ok (.iload_n 1, 1) := by decide +kernel
theorem dX11_begins_137 : decode cX11_begins 137 = .ok (.imul, 1) := by decide +kernel
theorem dX11_begins_138 : decode cX11_begins 138 = .ok (.iload_n 2, 1) := by decide +kernel
theorem dX11_begins_139 : decode cX11_begins 139 = .ok (.iadd, 1) := by decide +kernel
theorem dX11_begins_140 : decode cX11_begins 140 = .ok (.laload, 1) := by decide +kernel
theorem dX11_begins_141 : decode cX11_begins 141 = .ok (.lastore, 1) := by decide +kernel
theorem dX11_begins_142 : decode cX11_begins 142 = .ok (.iinc 2 1, 3) := by decide +kernel
theorem dX11_begins_145 : decode cX11_begins 145 = .ok (.goto (-36), 3) := by decide +kernel
theorem dX11_begins_148 : decode cX11_begins 148 = .ok (.iinc 1 1, 3) := by decide +kernel
theorem dX11_begins_151 : decode cX11_begins 151 = .ok (.goto (-71), 3) := by decide +kernel
theorem dX11_begins_154 : decode cX11_begins 154 = .ok (.aload_n 0, 1) := by decide +kernel
theorem dX11_begins_155 : decode cX11_begins 155 = .ok (.iconst 0, 1) := by decide +kernel
theorem dX11_begins_156 : decode cX11_begins 156 = .ok (.putfield 212, 3) := by decide +kernel
theorem dX11_begins_159 : decode cX11_begins 159 = .ok (.aload_n 0, 1) := by decide +kernel
theorem dX11_begins_160 : decode cX11_begins 160 = .ok (.invokevirtual 215, 3) := by decide +kernel
theorem dX11_begins_163 : decode cX11_begins 163 = .ok (.return_, 1) := by decide +kernel
theorem dX11_threadsBegin_0 : decode cX11_threadsBegin 0 = .ok (.iconst 0, 1) := by decide +kernel
theorem dX11_threadsBegin_1 : decode cX11_threadsBegin 1 = .ok (.istore_n 1, 1) := by decide +kernel
theorem dX11_threadsBegin_2 : decode cX11_threadsBegin 2 = .ok (.iload_n 1, 1) := by decide +kernel
theorem dX11_threadsBegin_3 : decode cX11_threadsBegin 3 = .ok (.iconst 4, 1) := by decide +kernel
theorem dX11_threadsBegin_4 : decode cX11_threadsBegin 4 = .ok (.if_icmp .ge 16, 3) := by decide +kernel
theorem dX11_threadsBegin_7 : decode cX11_threadsBegin 7 = .ok (.aload_n 0, 1) := by decide +kernel
theorem dX11_threadsBegin_8 : decode cX11_threadsBegin 8 = .ok (.getfield 80, 3) := by decide +kernel
theorem dX11_threadsBegin_11 : decode cX11_threadsBegin 11 = .ok (.iload_n 1, 1) := by decide +kernel
theorem dX11_threadsBegin_12 : decode cX11_threadsBegin 12 = .ok (.iconst 0, 1) := by decide +kernel
theorem dX11_threadsBegin_13 : decode cX11_threadsBegin 13 = .ok (.iastore, 1) := by decide +kernel
theorem dX11_threadsBegin_14 : decode cX11_threadsBegin 14 = .ok (.iinc 1 1, 3) := by decide +kernel
theorem dX11_threadsBegin_17 : decode cX11_threadsBegin 17 = .ok (.goto (-15), 3) := by decide +kernel
theorem dX11_threadsBegin_20 : decode cX11_threadsBegin 20 = .ok (.return_, 1) := by decide +kernel
theorem dX11_changes_0 : decode cX11_changes 0 = .ok (.aload_n 0, 1) := by decide +kernel
theorem dX11_changes_1 : decode cX11_changes 1 = .ok (.bipush (-9), 2) := by decide +kernel
theorem dX11_changes_3 : decode cX11_changes 3 = .ok (.putfield 113, 3) := by decide +kernel
theorem dX11_changes_6 : decode cX11_changes 6 = .ok (.aload_n 0, 1) := by decide +kernel
theorem dX11_changes_7 : decode cX11_changes 7 = .ok (.bipush (-9), 2) := by decide +kernel
theorem dX11_changes_9 : decode cX11_changes 9 = .ok (.putfield 163, 3) := by decide +kernel
theorem dX11_changes_12 : decode cX11_changes 12 = .ok (.aload_n 0, 1) := by decide +kernel
theorem dX11_changes_13 : decode cX11_changes 13 = .ok (.invokevirtual 218, 3) := by decide +kernel
theorem dX11_changes_16 : decode cX11_changes 16 = .ok (.return_, 1) := by decide +kernel
theorem dX11_part_0 : decode cX11_part 0 = .ok (.iload_n 1, 1) := by decide +kernel
theorem dX11_part_1 : decode cX11_part 1 = .ok (.iconst 0, 1) := by decide +kernel
theorem dX11_part_2 : decode cX11_part 2 = .ok (.iconst 5, 1) := by decide +kernel
theorem dX11_part_3 : decode cX11_part 3 = .ok (.invokestatic 205, 3) := by decide +kernel
theorem dX11_part_6 : decode cX11_part 6 = .ok (.ifCond .eq 30, 3) := by decide +kernel
theorem dX11_part_9 : decode cX11_part 9 = .ok (.iload_n 1, 1) := by decide +kernel
theorem dX11_part_10 : decode cX11_part 10 = .ok (.iconst 4, 1) := by decide +kernel
theorem dX11_part_11 : decode cX11_part 11 = .ok (.if_icmp .ne 13, 3) := by decide +kernel
theorem dX11_part_14 : decode cX11_part 14 = .ok (.iload 4, 2) := by decide +kernel
theorem dX11_part_16 : decode cX11_part 16 = .ok (.iconst 1, 1) := by decide +kernel
theorem dX11_part_17 : decode cX11_part 17 = .ok (.iconst 4, 1) := by decide +kernel
theorem dX11_part_18 : decode cX11_part 18 = .ok (.invokestatic 205, 3) := by decide +kernel
theorem dX11_part_21 : decode cX11_part 21 = .ok (.ifCond .eq 15, 3) := by decide +kernel
theorem dX11_part_24 : decode cX11_part 24 = .ok (.iload_n 1, 1) := by decide +kernel
theorem dX11_part_25 : decode cX11_part 25 = .ok (.iconst 5, 1) := by decide +kernel
theorem dX11_part_26 : decode cX11_part 26 = .ok (.if_icmp .ne 12, 3) := by decide +kernel
theorem dX11_part_29 : decode cX11_part 29 = .ok (.iload 4, 2) := by decide +kernel
theorem dX11_part_31 : decode cX11_part 31 = .ok (.bipush 12, 2) := by decide +kernel
theorem dX11_part_33 : decode cX11_part 33 = .ok (.if_icmp .le 5, 3) := by decide +kernel
theorem dX11_part_36 : decode cX11_part 36 = .ok (.iconst (-1), 1) := by decide +kernel
theorem dX11_part_37 : decode cX11_part 37 = .ok (.ireturn, 1) := by decide +kernel
theorem dX11_part_38 : decode cX11_part 38 = .ok (.aload_n 0, 1) := by decide +kernel
theorem dX11_part_39 : decode cX11_part 39 = .ok (.getfield 202, 3) := by decide +kernel
theorem dX11_part_42 : decode cX11_part 42 = .ok (.bipush 12, 2) := by decide +kernel
theorem dX11_part_44 : decode cX11_part 44 = .ok (.if_icmp .ne 6, 3) := by decide +kernel
theorem dX11_part_47 : decode cX11_part 47 = .ok (.bipush (-2), 2) := by decide +kernel
theorem dX11_part_49 : decode cX11_part 49 = .ok (.ireturn, 1) := by decide +kernel
theorem dX11_part_50 : decode cX11_part 50 = .ok (.iload_n 1, 1) := by decide +kernel
theorem dX11_part_51 : decode cX11_part 51 = .ok (.iconst 5, 1) := by decide +kernel
theorem dX11_part_52 : decode cX11_part 52 = .ok (.if_icmp .ne 14, 3) := by decide +kernel
theorem dX11_part_55 : decode cX11_part 55 = .ok (.iload 4, 2) := by decide +kernel
theorem dX11_part_57 : decode cX11_part 57 = .ok (.ifCond .ge 9, 3) := by decide +kernel
theorem dX11_part_60 : decode cX11_part 60 = .ok (.aload_n 0, 1) := by decide +kernel
theorem dX11_part_61 : decode cX11_part 61 = .ok (.iconst 5, 1) := by decide +kernel
theorem dX11_part_62 : decode cX11_part 62 = .ok (.invokevirtual 221, 3) := by decide +kernel
theorem dX11_part_65 : decode cX11_part 65 = .ok (.ireturn, 1) := by decide +kernel
theorem dX11_part_66 : decode cX11_part 66 = .ok (.aload_n 0, 1) := by decide +kernel
theorem dX11_part_67 : decode cX11_part 67 = .ok (.getfield 13, 3) := by decide +kernel
theorem dX11_part_70 : decode cX11_part 70 = .ok (.aload_n 0, 1) := by decide +kernel
theorem dX11_part_71 : decode cX11_part 71 = .ok (.getfield 202, 3) := by decide +kernel
theorem dX11_part_74 : decode cX11_part 74 = .ok (.iload_n 1, 1) := by decide +kernel
theorem dX11_part_75 : decode cX11_part 75 = .ok (.iastore, 1) := by decide +kernel
theorem dX11_part_76 : decode cX11_part 76 = .ok (.aload_n 0, 1) := by decide +kernel
theorem dX11_part_77 : decode cX11_part 77 = .ok (.getfield 16, 3) := by decide +kernel
theorem dX11_part_80 : decode cX11_part 80 = .ok (.aload_n 0, 1) := by decide +kernel
theorem dX11_part_81 : decode cX11_part 81 = .ok (.getfield 202, 3) := by decide +kernel
theorem dX11_part_84 : decode cX11_part 84 = .ok (.lload_n 2, 1) := by decide +kernel
theorem dX11_part_85 : decode cX11_part 85 = .ok (.lastore, 1) := by decide +kernel
theorem dX11_part_86 : decode cX11_part 86 = .ok (.aload_n 0, 1) := by decide +kernel
theorem dX11_part_87 : decode cX11_part 87 = .ok (.getfield 20, 3) := by decide +kernel
theorem dX11_part_90 : decode cX11_part 90 = .ok (.aload_n 0, 1) := by decide +kernel
theorem dX11_part_91 : decode cX11_part 91 = .ok (.getfield 202, 3) := by decide +kernel
theorem dX11_part_94 : decode cX11_part 94 = .ok (.iload_n 1, 1) := by decide +kernel
theorem dX11_part_95 : decode cX11_part 95 = .ok (.iconst 4, 1) := by decide +kernel
theorem dX11_part_96 : decode cX11_part 96 = .ok (.if_icmp .ne 8, 3) := by decide +kernel
theorem dX11_part_99 : decode cX11_part 99 = .ok (.iload 4, 2) := by decide +kernel
theorem dX11_part_101 : decode cX11_part 101 = .ok (.goto 4, 3) := by decide +kernel
theorem dX11_part_104 : decode cX11_part 104 = .ok (.iconst 1, 1) := by decide +kernel
theorem dX11_part_105 : decode cX11_part 105 = .ok (.iastore, 1) := by decide +kernel
theorem dX11_part_106 : decode cX11_part 106 = .ok (.aload_n 0, 1) := by decide +kernel
theorem dX11_part_107 : decode cX11_part 107 = .ok (.getfield 23, 3) := by decide +kernel
theorem dX11_part_110 : decode cX11_part 110 = .ok (.aload_n 0, 1) := by decide +kernel
theorem dX11_part_111 : decode cX11_part 111 = .ok (.getfield 202, 3) := by decide +kernel
theorem dX11_part_114 : decode cX11_part 114 = .ok (.iload_n 1, 1) := by decide +kernel
theorem dX11_part_115 : decode cX11_part 115 = .ok (.iconst 5, 1) := by decide +kernel
theorem dX11_part_116 : decode cX11_part 116 = .ok (.if_icmp .ne 8, 3) := by decide +kernel
theorem dX11_part_119 : decode cX11_part 119 = .ok (.iload 4, 2) := by decide +kernel
theorem dX11_part_121 : decode cX11_part 121 = .ok (.goto 5, 3) := by decide +kernel
theorem dX11_part_124 : decode cX11_part 124 = .ok (.bipush (-9), 2) := by decide +kernel
theorem dX11_part_126 : decode cX11_part 126 = .ok (.iastore, 1) := by decide +kernel
theorem dX11_part_127 : decode cX11_part 127 = .ok (.iconst 0, 1) := by decide +kernel
theorem dX11_part_128 : decode cX11_part 128 = .ok (.istore 5, 2) := by decide +kernel
theorem dX11_part_130 : decode cX11_part 130 = .ok (.iload 5, 2) := by decide +kernel
theorem dX11_part_132 : decode cX11_part 132 = .ok (.bipush 12, 2) := by decide +kernel
theorem dX11_part_134 : decode cX11_part 134 = .ok (.if_icmp .ge 25, 3) := by decide +kernel
theorem dX11_part_137 : decode cX11_part 137 = .ok (.aload_n 0, 1) := by decide +kernel
theorem dX11_part_138 : decode cX11_part 138 = .ok (.getfield 26, 3) := by decide +kernel
theorem dX11_part_141 : decode cX11_part 141 = .ok (.bipush 12, 2) := by decide +kernel
theorem dX11_part_143 : decode cX11_part 143 = .ok (.aload_n 0, 1) := by decide +kernel
theorem dX11_part_144 : decode cX11_part 144 = .ok (.getfield 202, 3) := by decide +kernel
theorem dX11_part_147 : decode cX11_part 147 = .ok (.imul, 1) := by decide +kernel
theorem dX11_part_148 : decode cX11_part 148 = .ok (.iload 5, 2) := by decide +kernel
theorem dX11_part_150 : decode cX11_part 150 = .ok (.iadd, 1) := by decide +kernel
theorem dX11_part_151 : decode cX11_part 151 = .ok (.lconst 0, 1) := by decide +kernel
theorem dX11_part_152 : decode cX11_part 152 = .ok (.lastore, 1) := by decide +kernel
theorem dX11_part_153 : decode cX11_part 153 = .ok (.iinc 5 1, 3) := by decide +kernel
theorem dX11_part_156 : decode cX11_part 156 = .ok (.goto (-26), 3) := by decide +kernel
theorem dX11_part_159 : decode cX11_part 159 = .ok (.aload_n 0, 1) := by decide +kernel
theorem dX11_part_160 : decode cX11_part 160 = .ok (.getfield 35, 3) := by decide +kernel
theorem dX11_part_163 : decode cX11_part 163 = .ok (.aload_n 0, 1) := by decide +kernel
theorem dX11_part_164 : decode cX11_part 164 = .ok (.getfield 202, 3) := by decide +kernel
theorem dX11_part_167 : decode cX11_part 167 = .ok (.iconst 1, 1) := by decide +kernel
theorem dX11_part_168 : decode cX11_part 168 = .ok (.iastore, 1) := by decide +kernel
theorem dX11_part_169 : decode cX11_part 169 = .ok (.aload_n 0, 1) := by decide +kernel
theorem dX11_part_170 : decode cX11_part 170 = .ok (.getfield 38, 3) := by decide +kernel
theorem dX11_part_173 : decode cX11_part 173 = .ok (.aload_n 0, 1) := by decide +kernel
theorem dX11_part_174 : decode cX11_part 174 = .ok (.getfield 202, 3) := by decide +kernel
theorem dX11_part_177 : decode cX11_part 177 = .ok (.iconst 0, 1) := by decide +kernel
theorem dX11_part_178 : decode cX11_part 178 = .ok (.iastore, 1) := by decide +kernel
theorem dX11_part_179 : decode cX11_part 179 = .ok (.aload_n 0, 1) := by decide +kernel
theorem dX11_part_180 : decode cX11_part 180 = .ok (.dup, 1) := by decide +kernel
theorem dX11_part_181 : decode cX11_part 181 = .ok (.getfield 202, 3) := by decide +kernel
theorem dX11_part_184 : decode cX11_part 184 = .ok (.iconst 1, 1) := by decide +kernel
theorem dX11_part_185 : decode cX11_part 185 = .ok (.iadd, 1) := by decide +kernel
theorem dX11_part_186 : decode cX11_part 186 = .ok (.putfield 202, 3) := by decide +kernel
theorem dX11_part_189 : decode cX11_part 189 = .ok (.aload_n 0, 1) := by decide +kernel
theorem dX11_part_190 : decode cX11_part 190 = .ok (.invokevirtual 225, 3) := by decide +kernel
theorem dX11_part_193 : decode cX11_part 193 = .ok (.aload_n 0, 1) := by decide +kernel
theorem dX11_part_194 : decode cX11_part 194 = .ok (.getfield 202, 3) := by decide +kernel
theorem dX11_part_197 : decode cX11_part 197 = .ok (.iconst 1, 1) := by decide +kernel
theorem dX11_part_198 : decode cX11_part 198 = .ok (.isub, 1) := by decide +kernel
theorem dX11_part_199 : decode cX11_part 199 = .ok (.ireturn, 1) := by decide +kernel
theorem dX11_line_0 : decode cX11_line 0 = .ok (.aload_n 0, 1) := by decide +kernel
theorem dX11_line_1 : decode cX11_line 1 = .ok (.iload_n 1, 1) := by decide +kernel
theorem dX11_line_2 : decode cX11_line 2 = .ok (.invokevirtual 228, 3) := by decide +kernel
theorem dX11_line_5 : decode cX11_line 5 = .ok (.ifCond .eq 32, 3) := by decide +kernel
theorem dX11_line_8 : decode cX11_line 8 = .ok (.aload_n 0, 1) := by decide +kernel
theorem dX11_line_9 : decode cX11_line 9 = .ok (.iload_n 3, 1) := by decide +kernel
theorem dX11_line_10 : decode cX11_line 10 = .ok (.invokevirtual 228, 3) := by decide +kernel
theorem dX11_line_13 : decode cX11_line 13 = .ok (.ifCond .eq 24, 3) := by decide +kernel
theorem dX11_line_16 : decode cX11_line 16 = .ok (.iload_n 2, 1) := by decide +kernel
theorem dX11_line_17 : decode cX11_line 17 = .ok (.iconst 1, 1) := by decide +kernel
theorem dX11_line_18 : decode cX11_line 18 = .ok (.bipush 50, 2) := by decide +kernel
theorem dX11_line_20 : decode cX11_line 20 = .ok (.invokestatic 205, 3) := by decide +kernel
theorem dX11_line_23 : decode cX11_line 23 = .ok (.ifCond .eq 14, 3) := by decide +kernel
theorem dX11_line_26 : decode cX11_line 26 = .ok (.iload 4, 2) := by decide +kernel
theorem dX11_line_28 : decode cX11_line 28 = .ok (.iconst 1, 1) := by decide +kernel
theorem dX11_line_29 : decode cX11_line 29 = .ok (.bipush 50, 2) := by decide +kernel
theorem dX11_line_31 : decode cX11_line 31 = .ok (.invokestatic 205, 3) := by decide +kernel
theorem dX11_line_34 : decode cX11_line 34 = .ok (.ifCond .ne 5, 3) := by decide +kernel
theorem dX11_line_37 : decode cX11_line 37 = .ok (.iconst (-1), 1) := by decide +kernel
theorem dX11_line_38 : decode cX11_line 38 = .ok (.ireturn, 1) := by decide +kernel
theorem dX11_line_39 : decode cX11_line 39 = .ok (.aload_n 0, 1) := by decide +kernel
theorem dX11_line_40 : decode cX11_line 40 = .ok (.getfield 209, 3) := by decide +kernel
theorem dX11_line_43 : decode cX11_line 43 = .ok (.bipush 20, 2) := by decide +kernel
theorem dX11_line_45 : decode cX11_line 45 = .ok (.if_icmp .ne 6, 3) := by decide +kernel
theorem dX11_line_48 : decode cX11_line 48 = .ok (.bipush (-2), 2) := by decide +kernel
theorem dX11_line_50 : decode cX11_line 50 = .ok (.ireturn, 1) := by decide +kernel
theorem dX11_line_51 : decode cX11_line 51 = .ok (.aload_n 0, 1) := by decide +kernel
theorem dX11_line_52 : decode cX11_line 52 = .ok (.getfield 41, 3) := by decide +kernel
theorem dX11_line_55 : decode cX11_line 55 = .ok (.aload_n 0, 1) := by decide +kernel
theorem dX11_line_56 : decode cX11_line 56 = .ok (.getfield 209, 3) := by decide +kernel
theorem dX11_line_59 : decode cX11_line 59 = .ok (.iload_n 1, 1) := by decide +kernel
theorem dX11_line_60 : decode cX11_line 60 = .ok (.iastore, 1) := by decide +kernel
theorem dX11_line_61 : decode cX11_line 61 = .ok (.aload_n 0, 1) := by decide +kernel
theorem dX11_line_62 : decode cX11_line 62 = .ok (.getfield 44, 3) := by decide +kernel
theorem dX11_line_65 : decode cX11_line 65 = .ok (.aload_n 0, 1) := by decide +kernel
theorem dX11_line_66 : decode cX11_line 66 = .ok (.getfield 209, 3) := by decide +kernel
theorem dX11_line_69 : decode cX11_line 69 = .ok (.iload_n 3, 1) := by decide +kernel
theorem dX11_line_70 : decode cX11_line 70 = .ok (.iastore, 1) := by decide +kernel
theorem dX11_line_71 : decode cX11_line 71 = .ok (.iconst 0, 1) := by decide +kernel
theorem dX11_line_72 : decode cX11_line 72 = .ok (.istore 5, 2) := by decide +kernel
theorem dX11_line_74 : decode cX11_line 74 = .ok (.iload 5, 2) := by decide +kernel
theorem dX11_line_76 : decode cX11_line 76 = .ok (.iconst 4, 1) := by decide +kernel
theorem dX11_line_77 : decode cX11_line 77 = .ok (.if_icmp .ge 40, 3) := by decide +kernel
theorem dX11_line_80 : decode cX11_line 80 = .ok (.aload_n 0, 1) := by decide +kernel
theorem dX11_line_81 : decode cX11_line 81 = .ok (.getfield 47, 3) := by decide +kernel
theorem dX11_line_84 : decode cX11_line 84 = .ok (.iconst 4, 1) := by decide +kernel
theorem dX11_line_85 : decode cX11_line 85 = .ok (.aload_n 0, 1) := by decide +kernel
theorem dX11_line_86 : decode cX11_line 86 = .ok (.getfield 209, 3) := by decide +kernel
theorem dX11_line_89 : decode cX11_line 89 = .ok (.imul, 1) := by decide +kernel
theorem dX11_line_90 : decode cX11_line 90 = .ok (.iload 5, 2) := by decide +kernel
theorem dX11_line_92 : decode cX11_line 92 = .ok (.iadd, 1) := by decide +kernel
theorem dX11_line_93 : decode cX11_line 93 = .ok (.iload_n 2, 1) := by decide +kernel
theorem dX11_line_94 : decode cX11_line 94 = .ok (.iastore, 1) := by decide +kernel
theorem dX11_line_95 : decode cX11_line 95 = .ok (.aload_n 0, 1) := by decide +kernel
theorem dX11_line_96 : decode cX11_line 96 = .ok (.getfield 50, 3) := by decide +kernel
theorem dX11_line_99 : decode cX11_line 99 = .ok (.iconst 4, 1) := by decide +kernel
theorem dX11_line_100 : decode cX11_line 100 = .ok (.aload_n 0, 1) := by decide +kernel
theorem dX11_line_101 : decode cX11_line 101 = .ok (.getfield 209, 3) := by decide +kernel
theorem dX11_line_104 : decode cX11_line 104 = .ok (.imul, 1) := by decide +kernel
theorem dX11_line_105 : decode cX11_line 105 = .ok (.iload 5, 2) := by decide +kernel
theorem dX11_line_107 : decode cX11_line 107 = .ok (.iadd, 1) := by decide +kernel
theorem dX11_line_108 : decode cX11_line 108 = .ok (.iload 4, 2) := by decide +kernel
theorem dX11_line_110 : decode cX11_line 110 = .ok (.iastore, 1) := by decide +kernel
theorem dX11_line_111 : decode cX11_line 111 = .ok (.iinc 5 1, 3) := by decide +kernel
theorem dX11_line_114 : decode cX11_line 114 = .ok (.goto (-40), 3) := by decide +kernel
theorem dX11_line_117 : decode cX11_line 117 = .ok (.aload_n 0, 1) := by decide +kernel
theorem dX11_line_118 : decode cX11_line 118 = .ok (.getfield 53, 3) := by decide +kernel
theorem dX11_line_121 : decode cX11_line 121 = .ok (.aload_n 0, 1) := by decide +kernel
theorem dX11_line_122 : decode cX11_line 122 = .ok (.getfield 209, 3) := by decide +kernel
theorem dX11_line_125 : decode cX11_line 125 = .ok (.iconst 0, 1) := by decide +kernel
theorem dX11_line_126 : decode cX11_line 126 = .ok (.iastore, 1) := by decide +kernel
theorem dX11_line_127 : decode cX11_line 127 = .ok (.aload_n 0, 1) := by decide +kernel
theorem dX11_line_128 : decode cX11_line 128 = .ok (.dup, 1) := by decide +kernel
theorem dX11_line_129 : decode cX11_line 129 = .ok (.getfield 209, 3) := by decide +kernel
theorem dX11_line_132 : decode cX11_line 132 = .ok (.iconst 1, 1) := by decide +kernel
theorem dX11_line_133 : decode cX11_line 133 = .ok (.iadd, 1) := by decide +kernel
theorem dX11_line_134 : decode cX11_line 134 = .ok (.putfield 209, 3) := by decide +kernel
theorem dX11_line_137 : decode cX11_line 137 = .ok (.aload_n 0, 1) := by decide +kernel
theorem dX11_line_138 : decode cX11_line 138 = .ok (.invokevirtual 225, 3) := by decide +kernel
theorem dX11_line_141 : decode cX11_line 141 = .ok (.aload_n 0, 1) := by decide +kernel
theorem dX11_line_142 : decode cX11_line 142 = .ok (.getfield 209, 3) := by decide +kernel
theorem dX11_line_145 : decode cX11_line 145 = .ok (.iconst 1, 1) := by decide +kernel
theorem dX11_line_146 : decode cX11_line 146 = .ok (.isub, 1) := by decide +kernel
theorem dX11_line_147 : decode cX11_line 147 = .ok (.ireturn, 1) := by decide +kernel
theorem dX11_count_0 : decode cX11_count 0 = .ok (.aload_n 0, 1) := by decide +kernel
theorem dX11_count_1 : decode cX11_count 1 = .ok (.iload_n 1, 1) := by decide +kernel
theorem dX11_count_2 : decode cX11_count 2 = .ok (.invokevirtual 232, 3) := by decide +kernel
theorem dX11_count_5 : decode cX11_count 5 = .ok (.ifCond .eq 14, 3) := by decide +kernel
theorem dX11_count_8 : decode cX11_count 8 = .ok (.iload 4, 2) := by decide +kernel
theorem dX11_count_10 : decode cX11_count 10 = .ok (.iconst 0, 1) := by decide +kernel
theorem dX11_count_11 : decode cX11_count 11 = .ok (.bipush 50, 2) := by decide +kernel
theorem dX11_count_13 : decode cX11_count 13 = .ok (.invokestatic 205, 3) := by decide +kernel
theorem dX11_count_16 : decode cX11_count 16 = .ok (.ifCond .ne 5, 3) := by decide +kernel
theorem dX11_count_19 : decode cX11_count 19 = .ok (.iconst (-1), 1) := by decide +kernel
theorem dX11_count_20 : decode cX11_count 20 = .ok (.ireturn, 1) := by decide +kernel
theorem dX11_count_21 : decode cX11_count 21 = .ok (.iload_n 2, 1) := by decide +kernel
theorem dX11_count_22 : decode cX11_count 22 = .ok (.ifCond .eq 12, 3) := by decide +kernel
theorem dX11_count_25 : decode cX11_count 25 = .ok (.aload_n 0, 1) := by decide +kernel
theorem dX11_count_26 : decode cX11_count 26 = .ok (.getfield 44, 3) := by decide +kernel
theorem dX11_count_29 : decode cX11_count 29 = .ok (.iload_n 1, 1) := by decide +kernel
theorem dX11_count_30 : decode cX11_count 30 = .ok (.iaload, 1) := by decide +kernel
theorem dX11_count_31 : decode cX11_count 31 = .ok (.goto 9, 3) := by decide +kernel
theorem dX11_count_34 : decode cX11_count 34 = .ok (.aload_n 0, 1) := by decide +kernel
theorem dX11_count_35 : decode cX11_count 35 = .ok (.getfield 41, 3) := by decide +kernel
theorem dX11_count_38 : decode cX11_count 38 = .ok (.iload_n 1, 1) := by decide +kernel
theorem dX11_count_39 : decode cX11_count 39 = .ok (.iaload, 1) := by decide +kernel
theorem dX11_count_40 : decode cX11_count 40 = .ok (.istore 5, 2) := by decide +kernel
theorem dX11_count_42 : decode cX11_count 42 = .ok (.aload_n 0, 1) := by decide +kernel
theorem dX11_count_43 : decode cX11_count 43 = .ok (.getfield 13, 3) := by decide +kernel
theorem dX11_count_46 : decode cX11_count 46 = .ok (.iload 5, 2) := by decide +kernel
theorem dX11_count_48 : decode cX11_count 48 = .ok (.iaload, 1) := by decide +kernel
theorem dX11_count_49 : decode cX11_count 49 = .ok (.iconst 4, 1) := by decide +kernel
theorem dX11_count_50 : decode cX11_count 50 = .ok (.if_icmp .eq 9, 3) := by decide +kernel
theorem dX11_count_53 : decode cX11_count 53 = .ok (.aload_n 0, 1) := by decide +kernel
theorem dX11_count_54 : decode cX11_count 54 = .ok (.iconst 3, 1) := by decide +kernel
theorem dX11_count_55 : decode cX11_count 55 = .ok (.invokevirtual 221, 3) := by decide +kernel
theorem dX11_count_58 : decode cX11_count 58 = .ok (.ireturn, 1) := by decide +kernel
theorem dX11_count_59 : decode cX11_count 59 = .ok (.iload_n 3, 1) := by decide +kernel
theorem dX11_count_60 : decode cX11_count 60 = .ok (.iconst 0, 1) := by decide +kernel
theorem dX11_count_61 : decode cX11_count 61 = .ok (.aload_n 0, 1) := by decide +kernel
theorem dX11_count_62 : decode cX11_count 62 = .ok (.getfield 20, 3) := by decide +kernel
theorem dX11_count_65 : decode cX11_count 65 = .ok (.iload 5, 2) := by decide +kernel
theorem dX11_count_67 : decode cX11_count 67 = .ok (.iaload, 1) := by decide +kernel
theorem dX11_count_68 : decode cX11_count 68 = .ok (.iconst 1, 1) := by decide +kernel
theorem dX11_count_69 : decode cX11_count 69 = .ok (.isub, 1) := by decide +kernel
theorem dX11_count_70 : decode cX11_count 70 = .ok (.invokestatic 205, 3) := by decide +kernel
theorem dX11_count_73 : decode cX11_count 73 = .ok (.ifCond .ne 9, 3) := by decide +kernel
theorem dX11_count_76 : decode cX11_count 76 = .ok (.aload_n 0, 1) := by decide +kernel
theorem dX11_count_77 : decode cX11_count 77 = .ok (.iconst 2, 1) := by decide +kernel
theorem dX11_count_78 : decode cX11_count 78 = .ok (.invokevirtual 221, 3) := by decide +kernel
theorem dX11_count_81 : decode cX11_count 81 = .ok (.ireturn, 1) := by decide +kernel
theorem dX11_count_82 : decode cX11_count 82 = .ok (.iload_n 2, 1) := by decide +kernel
theorem dX11_count_83 : decode cX11_count 83 = .ok (.ifCond .eq 16, 3) := by decide +kernel
theorem dX11_count_86 : decode cX11_count 86 = .ok (.aload_n 0, 1) := by decide +kernel
theorem dX11_count_87 : decode cX11_count 87 = .ok (.getfield 50, 3) := by decide +kernel
theorem dX11_count_90 : decode cX11_count 90 = .ok (.iconst 4, 1) := by decide +kernel
theorem dX11_count_91 : decode cX11_count 91 = .ok (.iload_n 1, 1) := by decide +kernel
theorem dX11_count_92 : decode cX11_count 92 = .ok (.imul, 1) := by decide +kernel
theorem dX11_count_93 : decode cX11_count 93 = .ok (.iload_n 3, 1) := by decide +kernel
theorem dX11_count_94 : decode cX11_count 94 = .ok (.iadd, 1) := by decide +kernel
theorem dX11_count_95 : decode cX11_count 95 = .ok (.iaload, 1) := by decide +kernel
theorem dX11_count_96 : decode cX11_count 96 = .ok (.goto 13, 3) := by decide +kernel
theorem dX11_count_99 : decode cX11_count 99 = .ok (.aload_n 0, 1) := by decide +kernel
theorem dX11_count_100 : decode cX11_count 100 = .ok (.getfield 47, 3) := by decide +kernel
theorem dX11_count_103 : decode cX11_count 103 = .ok (.iconst 4, 1) := by decide +kernel
theorem dX11_count_104 : decode cX11_count 104 = .ok (.iload_n 1, 1) := by decide +kernel
theorem dX11_count_105 : decode cX11_count 105 = .ok (.imul, 1) := by decide +kernel
theorem dX11_count_106 : decode cX11_count 106 = .ok (.iload_n 3, 1) := by decide +kernel
theorem dX11_count_107 : decode cX11_count 107 = .ok (.iadd, 1) := by decide +kernel
theorem dX11_count_108 : decode cX11_count 108 = .ok (.iaload, 1) := by decide +kernel
theorem dX11_count_109 : decode cX11_count 109 = .ok (.istore 6, 2) := by decide +kernel
theorem dX11_count_111 : decode cX11_count 111 = .ok (.iload_n 2, 1) := by decide +kernel
theorem dX11_count_112 : decode cX11_count 112 = .ok (.ifCond .eq 18, 3) := by decide +kernel
theorem dX11_count_115 : decode cX11_count 115 = .ok (.aload_n 0, 1) := by decide +kernel
theorem dX11_count_116 : decode cX11_count 116 = .ok (.getfield 50, 3) := by decide +kernel
theorem dX11_count_119 : decode cX11_count 119 = .ok (.iconst 4, 1) := by decide +kernel
theorem dX11_count_120 : decode cX11_count 120 = .ok (.iload_n 1, 1) := by decide +kernel
theorem dX11_count_121 : decode cX11_count 121 = .ok (.imul, 1) := by decide +kernel
theorem dX11_count_122 : decode cX11_count 122 = .ok (.iload_n 3, 1) := by decide +kernel
theorem dX11_count_123 : decode cX11_count 123 = .ok (.iadd, 1) := by decide +kernel
theorem dX11_count_124 : decode cX11_count 124 = .ok (.iload 4, 2) := by decide +kernel
theorem dX11_count_126 : decode cX11_count 126 = .ok (.iastore, 1) := by decide +kernel
theorem dX11_count_127 : decode cX11_count 127 = .ok (.goto 15, 3) := by decide +kernel
theorem dX11_count_130 : decode cX11_count 130 = .ok (.aload_n 0, 1) := by decide +kernel
theorem dX11_count_131 : decode cX11_count 131 = .ok (.getfield 47, 3) := by decide +kernel
theorem dX11_count_134 : decode cX11_count 134 = .ok (.iconst 4, 1) := by decide +kernel
theorem dX11_count_135 : decode cX11_count 135 = .ok (.iload_n 1, 1) := by decide +kernel
theorem dX11_count_136 : decode cX11_count 136 = .ok (.imul, 1) := by decide +kernel
theorem dX11_count_137 : decode cX11_count 137 = .ok (.iload_n 3, 1) := by decide +kernel
theorem dX11_count_138 : decode cX11_count 138 = .ok (.iadd, 1) := by decide +kernel
theorem dX11_count_139 : decode cX11_count 139 = .ok (.iload 4, 2) := by decide +kernel
theorem dX11_count_141 : decode cX11_count 141 = .ok (.iastore, 1) := by decide +kernel
theorem dX11_count_142 : decode cX11_count 142 = .ok (.aload_n 0, 1) := by decide +kernel
theorem dX11_count_143 : decode cX11_count 143 = .ok (.invokevirtual 225, 3) := by decide +kernel
theorem dX11_count_146 : decode cX11_count 146 = .ok (.iload 6, 2) := by decide +kernel
theorem dX11_count_148 : decode cX11_count 148 = .ok (.ireturn, 1) := by decide +kernel
theorem dX11_first_0 : decode cX11_first 0 = .ok (.aload_n 0, 1) := by decide +kernel
theorem dX11_first_1 : decode cX11_first 1 = .ok (.iload_n 1, 1) := by decide +kernel
theorem dX11_first_2 : decode cX11_first 2 = .ok (.invokevirtual 232, 3) := by decide +kernel
theorem dX11_first_5 : decode cX11_first 5 = .ok (.ifCond .eq 13, 3) := by decide +kernel
theorem dX11_first_8 : decode cX11_first 8 = .ok (.iload_n 2, 1) := by decide +kernel
theorem dX11_first_9 : decode cX11_first 9 = .ok (.iconst 0, 1) := by decide +kernel
theorem dX11_first_10 : decode cX11_first 10 = .ok (.bipush 60, 2) := by decide +kernel
theorem dX11_first_12 : decode cX11_first 12 = .ok (.invokestatic 205, 3) := by decide +kernel
theorem dX11_first_15 : decode cX11_first 15 = .ok (.ifCond .ne 5, 3) := by decide +kernel
theorem dX11_first_18 : decode cX11_first 18 = .ok (.iconst (-1), 1) := by decide +kernel
theorem dX11_first_19 : decode cX11_first 19 = .ok (.ireturn, 1) := by decide +kernel
theorem dX11_first_20 : decode cX11_first 20 = .ok (.aload_n 0, 1) := by decide +kernel
theorem dX11_first_21 : decode cX11_first 21 = .ok (.getfield 53, 3) := by decide +kernel
theorem dX11_first_24 : decode cX11_first 24 = .ok (.iload_n 1, 1) := by decide +kernel
theorem dX11_first_25 : decode cX11_first 25 = .ok (.iload_n 2, 1) := by decide +kernel
theorem dX11_first_26 : decode cX11_first 26 = .ok (.iastore, 1) := by decide +kernel
theorem dX11_first_27 : decode cX11_first 27 = .ok (.iconst 0, 1) := by decide +kernel
theorem dX11_first_28 : decode cX11_first 28 = .ok (.istore_n 3, 1) := by decide +kernel
theorem dX11_first_29 : decode cX11_first 29 = .ok (.iload_n 3, 1) := by decide +kernel
theorem dX11_first_30 : decode cX11_first 30 = .ok (.bipush 60, 2) := by decide +kernel
theorem dX11_first_32 : decode cX11_first 32 = .ok (.if_icmp .ge 21, 3) := by decide +kernel
theorem dX11_first_35 : decode cX11_first 35 = .ok (.aload_n 0, 1) := by decide +kernel
theorem dX11_first_36 : decode cX11_first 36 = .ok (.getfield 56, 3) := by decide +kernel
theorem dX11_first_39 : decode cX11_first 39 = .ok (.bipush 60, 2) := by decide +kernel
theorem dX11_first_41 : decode cX11_first 41 = .ok (.iload_n 1, 1) := by decide +kernel
theorem dX11_first_42 : decode cX11_first 42 = .ok (.imul, 1) := by decide +kernel
theorem dX11_first_43 : decode cX11_first 43 = .ok (.iload_n 3, 1) := by decide +kernel
theorem dX11_first_44 : decode cX11_first 44 = .ok (.iadd, 1) := by decide +kernel
theorem dX11_first_45 : decode cX11_first 45 = .ok (.lconst 0, 1) := by decide +kernel
theorem dX11_first_46 : decode cX11_first 46 = .ok (.lastore, 1) := by decide +kernel
theorem dX11_first_47 : decode cX11_first 47 = .ok (.iinc 3 1, 3) := by decide +kernel
theorem dX11_first_50 : decode cX11_first 50 = .ok (.goto (-21), 3) := by decide +kernel
theorem dX11_first_53 : decode cX11_first 53 = .ok (.aload_n 0, 1) := by decide +kernel
theorem dX11_first_54 : decode cX11_first 54 = .ok (.invokevirtual 225, 3) := by decide +kernel
theorem dX11_first_57 : decode cX11_first 57 = .ok (.iload_n 2, 1) := by decide +kernel
theorem dX11_first_58 : decode cX11_first 58 = .ok (.ireturn, 1) := by decide +kernel
theorem dX11_thing_0 : decode cX11_thing 0 = .ok (.aload_n 0, 1) := by decide +kernel
theorem dX11_thing_1 : decode cX11_thing 1 = .ok (.iload_n 1, 1) := by decide +kernel
theorem dX11_thing_2 : decode cX11_thing 2 = .ok (.invokevirtual 232, 3) := by decide +kernel
theorem dX11_thing_5 : decode cX11_thing 5 = .ok (.ifCond .ne 5, 3) := by decide +kernel
theorem dX11_thing_8 : decode cX11_thing 8 = .ok (.iconst (-1), 1) := by decide +kernel
theorem dX11_thing_9 : decode cX11_thing 9 = .ok (.ireturn, 1) := by decide +kernel
theorem dX11_thing_10 : decode cX11_thing 10 = .ok (.iload_n 2, 1) := by decide +kernel
theorem dX11_thing_11 : decode cX11_thing 11 = .ok (.iconst 0, 1) := by decide +kernel
theorem dX11_thing_12 : decode cX11_thing 12 = .ok (.aload_n 0, 1) := by decide +kernel
theorem dX11_thing_13 : decode cX11_thing 13 = .ok (.getfield 53, 3) := by decide +kernel
theorem dX11_thing_16 : decode cX11_thing 16 = .ok (.iload_n 1, 1) := by decide +kernel
theorem dX11_thing_17 : decode cX11_thing 17 = .ok (.iaload, 1) := by decide +kernel
theorem dX11_thing_18 : decode cX11_thing 18 = .ok (.iconst 1, 1) := by decide +kernel
theorem dX11_thing_19 : decode cX11_thing 19 = .ok (.isub, 1) := by decide +kernel
theorem dX11_thing_20 : decode cX11_thing 20 = .ok (.invokestatic 205, 3) := by decide +kernel
theorem dX11_thing_23 : decode cX11_thing 23 = .ok (.ifCond .ne 9, 3) := by decide +kernel
theorem dX11_thing_26 : decode cX11_thing 26 = .ok (.aload_n 0, 1) := by decide +kernel
theorem dX11_thing_27 : decode cX11_thing 27 = .ok (.iconst 2, 1) := by decide +kernel
theorem dX11_thing_28 : decode cX11_thing 28 = .ok (.invokevirtual 221, 3) := by decide +kernel
theorem dX11_thing_31 : decode cX11_thing 31 = .ok (.ireturn, 1) := by decide +kernel
theorem dX11_thing_32 : decode cX11_thing 32 = .ok (.aload_n 0, 1) := by decide +kernel
theorem dX11_thing_33 : decode cX11_thing 33 = .ok (.getfield 56, 3) := by decide +kernel
theorem dX11_thing_36 : decode cX11_thing 36 = .ok (.bipush 60, 2) := by decide +kernel
theorem dX11_thing_38 : decode cX11_thing 38 = .ok (.iload_n 1, 1) := by decide +kernel
theorem dX11_thing_39 : decode cX11_thing 39 = .ok (.imul, 1) := by decide +kernel
theorem dX11_thing_40 : decode cX11_thing 40 = .ok (.iload_n 2, 1) := by decide +kernel
theorem dX11_thing_41 : decode cX11_thing 41 = .ok (.iadd, 1) := by decide +kernel
theorem dX11_thing_42 : decode cX11_thing 42 = .ok (.lload_n 3, 1) := by decide +kernel
theorem dX11_thing_43 : decode cX11_thing 43 = .ok (.lastore, 1) := by decide +kernel
theorem dX11_thing_44 : decode cX11_thing 44 = .ok (.aload_n 0, 1) := by decide +kernel
theorem dX11_thing_45 : decode cX11_thing 45 = .ok (.invokevirtual 218, 3) := by decide +kernel
theorem dX11_thing_48 : decode cX11_thing 48 = .ok (.iconst 1, 1) := by decide +kernel
theorem dX11_thing_49 : decode cX11_thing 49 = .ok (.ireturn, 1) := by decide +kernel
theorem dX11_row_0 : decode cX11_row 0 = .ok (.aload_n 0, 1) := by decide +kernel
theorem dX11_row_1 : decode cX11_row 1 = .ok (.iload_n 1, 1) := by decide +kernel
theorem dX11_row_2 : decode cX11_row 2 = .ok (.invokevirtual 228, 3) := by decide +kernel
theorem dX11_row_5 : decode cX11_row 5 = .ok (.ifCond .ne 5, 3) := by decide +kernel
theorem dX11_row_8 : decode cX11_row 8 = .ok (.iconst (-1), 1) := by decide +kernel
theorem dX11_row_9 : decode cX11_row 9 = .ok (.ireturn, 1) := by decide +kernel
theorem dX11_row_10 : decode cX11_row 10 = .ok (.aload_n 0, 1) := by decide +kernel
theorem dX11_row_11 : decode cX11_row 11 = .ok (.getfield 13, 3) := by decide +kernel
theorem dX11_row_14 : decode cX11_row 14 = .ok (.iload_n 1, 1) := by decide +kernel
theorem dX11_row_15 : decode cX11_row 15 = .ok (.iaload, 1) := by decide +kernel
theorem dX11_row_16 : decode cX11_row 16 = .ok (.iconst 5, 1) := by decide +kernel
theorem dX11_row_17 : decode cX11_row 17 = .ok (.if_icmp .eq 9, 3) := by decide +kernel
theorem dX11_row_20 : decode cX11_row 20 = .ok (.aload_n 0, 1) := by decide +kernel
theorem dX11_row_21 : decode cX11_row 21 = .ok (.iconst 3, 1) := by decide +kernel
theorem dX11_row_22 : decode cX11_row 22 = .ok (.invokevirtual 221, 3) := by decide +kernel
theorem dX11_row_25 : decode cX11_row 25 = .ok (.ireturn, 1) := by decide +kernel
theorem dX11_row_26 : decode cX11_row 26 = .ok (.aload_n 0, 1) := by decide +kernel
theorem dX11_row_27 : decode cX11_row 27 = .ok (.getfield 23, 3) := by decide +kernel
theorem dX11_row_30 : decode cX11_row 30 = .ok (.iload_n 1, 1) := by decide +kernel
theorem dX11_row_31 : decode cX11_row 31 = .ok (.iaload, 1) := by decide +kernel
theorem dX11_row_32 : decode cX11_row 32 = .ok (.ifCond .ge 9, 3) := by decide +kernel
theorem dX11_row_35 : decode cX11_row 35 = .ok (.aload_n 0, 1) := by decide +kernel
theorem dX11_row_36 : decode cX11_row 36 = .ok (.iconst 1, 1) := by decide +kernel
theorem dX11_row_37 : decode cX11_row 37 = .ok (.invokevirtual 221, 3) := by decide +kernel
theorem dX11_row_40 : decode cX11_row 40 = .ok (.ireturn, 1) := by decide +kernel
theorem dX11_row_41 : decode cX11_row 41 = .ok (.iload_n 2, 1) := by decide +kernel
theorem dX11_row_42 : decode cX11_row 42 = .ok (.iconst 0, 1) := by decide +kernel
theorem dX11_row_43 : decode cX11_row 43 = .ok (.aload_n 0, 1) := by decide +kernel
theorem dX11_row_44 : decode cX11_row 44 = .ok (.getfield 23, 3) := by decide +kernel
theorem dX11_row_47 : decode cX11_row 47 = .ok (.iload_n 1, 1) := by decide +kernel
theorem dX11_row_48 : decode cX11_row 48 = .ok (.iaload, 1) := by decide +kernel
theorem dX11_row_49 : decode cX11_row 49 = .ok (.iconst 1, 1) := by decide +kernel
theorem dX11_row_50 : decode cX11_row 50 = .ok (.isub, 1) := by decide +kernel
theorem dX11_row_51 : decode cX11_row 51 = .ok (.invokestatic 205, 3) := by decide +kernel
theorem dX11_row_54 : decode cX11_row 54 = .ok (.ifCond .ne 9, 3) := by decide +kernel
theorem dX11_row_57 : decode cX11_row 57 = .ok (.aload_n 0, 1) := by decide +kernel
theorem dX11_row_58 : decode cX11_row 58 = .ok (.iconst 2, 1) := by decide +kernel
theorem dX11_row_59 : decode cX11_row 59 = .ok (.invokevirtual 221, 3) := by decide +kernel
theorem dX11_row_62 : decode cX11_row 62 = .ok (.ireturn, 1) := by decide +kernel
theorem dX11_row_63 : decode cX11_row 63 = .ok (.aload_n 0, 1) := by decide +kernel
theorem dX11_row_64 : decode cX11_row 64 = .ok (.getfield 26, 3) := by decide +kernel
theorem dX11_row_67 : decode cX11_row 67 = .ok (.bipush 12, 2) := by decide +kernel
theorem dX11_row_69 : decode cX11_row 69 = .ok (.iload_n 1, 1) := by decide +kernel
theorem dX11_row_70 : decode cX11_row 70 = .ok (.imul, 1) := by decide +kernel
theorem dX11_row_71 : decode cX11_row 71 = .ok (.iload_n 2, 1) := by decide +kernel
theorem dX11_row_72 : decode cX11_row 72 = .ok (.iadd, 1) := by decide +kernel
theorem dX11_row_73 : decode cX11_row 73 = .ok (.lload_n 3, 1) := by decide +kernel
theorem dX11_row_74 : decode cX11_row 74 = .ok (.lastore, 1) := by decide +kernel
theorem dX11_row_75 : decode cX11_row 75 = .ok (.aload_n 0, 1) := by decide +kernel
theorem dX11_row_76 : decode cX11_row 76 = .ok (.invokevirtual 218, 3) := by decide +kernel
theorem dX11_row_79 : decode cX11_row 79 = .ok (.iconst 1, 1) := by decide +kernel
theorem dX11_row_80 : decode cX11_row 80 = .ok (.ireturn, 1) := by decide +kernel
theorem dX11_isSpan_0 : decode cX11_isSpan 0 = .ok (.iload_n 0, 1) := by decide +kernel
theorem dX11_isSpan_1 : decode cX11_isSpan 1 = .ok (.ifCond .lt 22, 3) := by decide +kernel
theorem dX11_isSpan_4 : decode cX11_isSpan 4 = .ok (.iload_n 1, 1) := by decide +kernel
theorem dX11_isSpan_5 : decode cX11_isSpan 5 = .ok (.ifCond .lt 18, 3) := by decide +kernel
theorem dX11_isSpan_8 : decode cX11_isSpan 8 = .ok (.iload_n 0, 1) := by decide +kernel
theorem dX11_isSpan_9 : decode cX11_isSpan 9 = .ok (.i2l, 1) := by decide +kernel
theorem dX11_isSpan_10 : decode cX11_isSpan 10 = .ok (.iload_n 1, 1) := by decide +kernel
theorem dX11_isSpan_11 : decode cX11_isSpan 11 = .ok (.i2l, 1) := by decide +kernel
theorem dX11_isSpan_12 : decode cX11_isSpan 12 = .ok (.ladd, 1) := by decide +kernel
theorem dX11_isSpan_13 : decode cX11_isSpan 13 = .ok (.iload_n 2, 1) := by decide +kernel
theorem dX11_isSpan_14 : decode cX11_isSpan 14 = .ok (.i2l, 1) := by decide +kernel
theorem dX11_isSpan_15 : decode cX11_isSpan 15 = .ok (.lcmp, 1) := by decide +kernel
theorem dX11_isSpan_16 : decode cX11_isSpan 16 = .ok (.ifCond .gt 7, 3) := by decide +kernel
theorem dX11_isSpan_19 : decode cX11_isSpan 19 = .ok (.iconst 1, 1) := by decide +kernel
theorem dX11_isSpan_20 : decode cX11_isSpan 20 = .ok (.goto 4, 3) := by decide +kernel
theorem dX11_isSpan_23 : decode cX11_isSpan 23 = .ok (.iconst 0, 1) := by decide +kernel
theorem dX11_isSpan_24 : decode cX11_isSpan 24 = .ok (.ireturn, 1) := by decide +kernel
theorem dX11_copy_0 : decode cX11_copy 0 = .ok (.aload_n 0, 1) := by decide +kernel
theorem dX11_copy_1 : decode cX11_copy 1 = .ok (.iload_n 1, 1) := by decide +kernel
theorem dX11_copy_2 : decode cX11_copy 2 = .ok (.invokevirtual 228, 3) := by decide +kernel
theorem dX11_copy_5 : decode cX11_copy 5 = .ok (.ifCond .eq 11, 3) := by decide +kernel
theorem dX11_copy_8 : decode cX11_copy 8 = .ok (.aload_n 0, 1) := by decide +kernel
theorem dX11_copy_9 : decode cX11_copy 9 = .ok (.iload_n 3, 1) := by decide +kernel
theorem dX11_copy_10 : decode cX11_copy 10 = .ok (.invokevirtual 228, 3) := by decide +kernel
theorem dX11_copy_13 : decode cX11_copy 13 = .ok (.ifCond .ne 5, 3) := by decide +kernel
theorem dX11_copy_16 : decode cX11_copy 16 = .ok (.iconst (-1), 1) := by decide +kernel
theorem dX11_copy_17 : decode cX11_copy 17 = .ok (.ireturn, 1) := by decide +kernel
theorem dX11_copy_18 : decode cX11_copy 18 = .ok (.aload_n 0, 1) := by decide +kernel
theorem dX11_copy_19 : decode cX11_copy 19 = .ok (.getfield 13, 3) := by decide +kernel
theorem dX11_copy_22 : decode cX11_copy 22 = .ok (.iload_n 1, 1) := by decide +kernel
theorem dX11_copy_23 : decode cX11_copy 23 = .ok (.iaload, 1) := by decide +kernel
theorem dX11_copy_24 : decode cX11_copy 24 = .ok (.iconst 5, 1) := by decide +kernel
theorem dX11_copy_25 : decode cX11_copy 25 = .ok (.if_icmp .ne 13, 3) := by decide +kernel
theorem dX11_copy_28 : decode cX11_copy 28 = .ok (.aload_n 0, 1) := by decide +kernel
theorem dX11_copy_29 : decode cX11_copy 29 = .ok (.getfield 13, 3) := by decide +kernel
theorem dX11_copy_32 : decode cX11_copy 32 = .ok (.iload_n 3, 1) := by decide +kernel
theorem dX11_copy_33 : decode cX11_copy 33 = .ok (.iaload, 1) := by decide +kernel
theorem dX11_copy_34 : decode cX11_copy 34 = .ok (.iconst 5, 1) := by decide +kernel
theorem dX11_copy_35 : decode cX11_copy 35 = .ok (.if_icmp .eq 9, 3) := by decide +kernel
theorem dX11_copy_38 : decode cX11_copy 38 = .ok (.aload_n 0, 1) := by decide +kernel
theorem dX11_copy_39 : decode cX11_copy 39 = .ok (.iconst 3, 1) := by decide +kernel
theorem dX11_copy_40 : decode cX11_copy 40 = .ok (.invokevirtual 221, 3) := by decide +kernel
theorem dX11_copy_43 : decode cX11_copy 43 = .ok (.ireturn, 1) := by decide +kernel
theorem dX11_copy_44 : decode cX11_copy 44 = .ok (.aload_n 0, 1) := by decide +kernel
theorem dX11_copy_45 : decode cX11_copy 45 = .ok (.getfield 23, 3) := by decide +kernel
theorem dX11_copy_48 : decode cX11_copy 48 = .ok (.iload_n 1, 1) := by decide +kernel
theorem dX11_copy_49 : decode cX11_copy 49 = .ok (.iaload, 1) := by decide +kernel
theorem dX11_copy_50 : decode cX11_copy 50 = .ok (.ifCond .lt 12, 3) := by decide +kernel
theorem dX11_copy_53 : decode cX11_copy 53 = .ok (.aload_n 0, 1) := by decide +kernel
theorem dX11_copy_54 : decode cX11_copy 54 = .ok (.getfield 23, 3) := by decide +kernel
theorem dX11_copy_57 : decode cX11_copy 57 = .ok (.iload_n 3, 1) := by decide +kernel
theorem dX11_copy_58 : decode cX11_copy 58 = .ok (.iaload, 1) := by decide +kernel
theorem dX11_copy_59 : decode cX11_copy 59 = .ok (.ifCond .ge 9, 3) := by decide +kernel
theorem dX11_copy_62 : decode cX11_copy 62 = .ok (.aload_n 0, 1) := by decide +kernel
theorem dX11_copy_63 : decode cX11_copy 63 = .ok (.iconst 1, 1) := by decide +kernel
theorem dX11_copy_64 : decode cX11_copy 64 = .ok (.invokevirtual 221, 3) := by decide +kernel
theorem dX11_copy_67 : decode cX11_copy 67 = .ok (.ireturn, 1) := by decide +kernel
theorem dX11_copy_68 : decode cX11_copy 68 = .ok (.iload_n 2, 1) := by decide +kernel
theorem dX11_copy_69 : decode cX11_copy 69 = .ok (.iload 5, 2) := by decide +kernel
theorem dX11_copy_71 : decode cX11_copy 71 = .ok (.aload_n 0, 1) := by decide +kernel
theorem dX11_copy_72 : decode cX11_copy 72 = .ok (.getfield 23, 3) := by decide +kernel
theorem dX11_copy_75 : decode cX11_copy 75 = .ok (.iload_n 1, 1) := by decide +kernel
theorem dX11_copy_76 : decode cX11_copy 76 = .ok (.iaload, 1) := by decide +kernel
theorem dX11_copy_77 : decode cX11_copy 77 = .ok (.invokestatic 235, 3) := by decide +kernel
theorem dX11_copy_80 : decode cX11_copy 80 = .ok (.ifCond .eq 19, 3) := by decide +kernel
theorem dX11_copy_83 : decode cX11_copy 83 = .ok (.iload 4, 2) := by decide +kernel
theorem dX11_copy_85 : decode cX11_copy 85 = .ok (.iload 5, 2) := by decide +kernel
theorem dX11_copy_87 : decode cX11_copy 87 = .ok (.aload_n 0, 1) := by decide +kernel
theorem dX11_copy_88 : decode cX11_copy 88 = .ok (.getfield 23, 3) := by decide +kernel
theorem dX11_copy_91 : decode cX11_copy 91 = .ok (.iload_n 3, 1) := by decide +kernel
theorem dX11_copy_92 : decode cX11_copy 92 = .ok (.iaload, 1) := by decide +kernel
theorem dX11_copy_93 : decode cX11_copy 93 = .ok (.invokestatic 235, 3) := by decide +kernel
theorem dX11_copy_96 : decode cX11_copy 96 = .ok (.ifCond .ne 9, 3) := by decide +kernel
theorem dX11_copy_99 : decode cX11_copy 99 = .ok (.aload_n 0, 1) := by decide +kernel
theorem dX11_copy_100 : decode cX11_copy 100 = .ok (.iconst 2, 1) := by decide +kernel
theorem dX11_copy_101 : decode cX11_copy 101 = .ok (.invokevirtual 221, 3) := by decide +kernel
theorem dX11_copy_104 : decode cX11_copy 104 = .ok (.ireturn, 1) := by decide +kernel
theorem dX11_copy_105 : decode cX11_copy 105 = .ok (.iconst 0, 1) := by decide +kernel
theorem dX11_copy_106 : decode cX11_copy 106 = .ok (.istore 6, 2) := by decide +kernel
theorem dX11_copy_108 : decode cX11_copy 108 = .ok (.iload 6, 2) := by decide +kernel
theorem dX11_copy_110 : decode cX11_copy 110 = .ok (.iload 5, 2) := by decide +kernel
theorem dX11_copy_112 : decode cX11_copy 112 = .ok (.if_icmp .ge 30, 3) := by decide +kernel
theorem dX11_copy_115 : decode cX11_copy 115 = .ok (.aload_n 0, 1) := by decide +kernel
theorem dX11_copy_116 : decode cX11_copy 116 = .ok (.getfield 83, 3) := by decide +kernel
theorem dX11_copy_119 : decode cX11_copy 119 = .ok (.iload 6, 2) := by decide +kernel
theorem dX11_copy_121 : decode cX11_copy 121 = .ok (.aload_n 0, 1) := by decide +kernel
theorem dX11_copy_122 : decode cX11_copy 122 = .ok (.getfield 26, 3) := by decide +kernel
theorem dX11_copy_125 : decode cX11_copy 125 = .ok (.bipush 12, 2) := by decide +kernel
theorem dX11_copy_127 : decode cX11_copy 127 = .ok (.iload_n 1, 1) := by decide +kernel
theorem dX11_copy_128 : decode cX11_copy 128 = .ok (.imul, 1) := by decide +kernel
theorem dX11_copy_129 : decode cX11_copy 129 = .ok (.iload_n 2, 1) := by decide +kernel
theorem dX11_copy_130 : decode cX11_copy 130 = .ok (.iadd, 1) := by decide +kernel
theorem dX11_copy_131 : decode cX11_copy 131 = .ok (.iload 6, 2) := by decide +kernel
theorem dX11_copy_133 : decode cX11_copy 133 = .ok (.iadd, 1) := by decide +kernel
theorem dX11_copy_134 : decode cX11_copy 134 = .ok (.laload, 1) := by decide +kernel
theorem dX11_copy_135 : decode cX11_copy 135 = .ok (.lastore, 1) := by decide +kernel
theorem dX11_copy_136 : decode cX11_copy 136 = .ok (.iinc 6 1, 3) := by decide +kernel
theorem dX11_copy_139 : decode cX11_copy 139 = .ok (.goto (-31), 3) := by decide +kernel
theorem dX11_copy_142 : decode cX11_copy 142 = .ok (.iconst 0, 1) := by decide +kernel
theorem dX11_copy_143 : decode cX11_copy 143 = .ok (.istore 6, 2) := by decide +kernel
theorem dX11_copy_145 : decode cX11_copy 145 = .ok (.iload 6, 2) := by decide +kernel
theorem dX11_copy_147 : decode cX11_copy 147 = .ok (.iload 5, 2) := by decide +kernel
theorem dX11_copy_149 : decode cX11_copy 149 = .ok (.if_icmp .ge 31, 3) := by decide +kernel
theorem dX11_copy_152 : decode cX11_copy 152 = .ok (.aload_n 0, 1) := by decide +kernel
theorem dX11_copy_153 : decode cX11_copy 153 = .ok (.getfield 26, 3) := by decide +kernel
theorem dX11_copy_156 : decode cX11_copy 156 = .ok (.bipush 12, 2) := by decide +kernel
theorem dX11_copy_158 : decode cX11_copy 158 = .ok (.iload_n 3, 1) := by decide +kernel
theorem dX11_copy_159 : decode cX11_copy 159 = .ok (.imul, 1) := by decide +kernel
theorem dX11_copy_160 : decode cX11_copy 160 = .ok (.iload 4, 2) := by decide +kernel
theorem dX11_copy_162 : decode cX11_copy 162 = .ok (.iadd, 1) := by decide +kernel
theorem dX11_copy_163 : decode cX11_copy 163 = .ok (.iload 6, 2) := by decide +kernel
theorem dX11_copy_165 : decode cX11_copy 165 = .ok (.iadd, 1) := by decide +kernel
theorem dX11_copy_166 : decode cX11_copy 166 = .ok (.aload_n 0, 1) := by decide +kernel
theorem dX11_copy_167 : decode cX11_copy 167 = .ok (.getfield 83, 3) := by decide +kernel
theorem dX11_copy_170 : decode cX11_copy 170 = .ok (.iload 6, 2) := by decide +kernel
theorem dX11_copy_172 : decode cX11_copy 172 = .ok (.laload, 1) := by decide +kernel
theorem dX11_copy_173 : decode cX11_copy 173 = .ok (.lastore, 1) := by decide +kernel
theorem dX11_copy_174 : decode cX11_copy 174 = .ok (.iinc 6 1, 3) := by decide +kernel
theorem dX11_copy_177 : decode cX11_copy 177 = .ok (.goto (-32), 3) := by decide +kernel
theorem dX11_copy_180 : decode cX11_copy 180 = .ok (.aload_n 0, 1) := by decide +kernel
theorem dX11_copy_181 : decode cX11_copy 181 = .ok (.invokevirtual 218, 3) := by decide +kernel
theorem dX11_copy_184 : decode cX11_copy 184 = .ok (.iconst 1, 1) := by decide +kernel
theorem dX11_copy_185 : decode cX11_copy 185 = .ok (.ireturn, 1) := by decide +kernel
theorem dX11_tear_0 : decode cX11_tear 0 = .ok (.aload_n 0, 1) := by decide +kernel
theorem dX11_tear_1 : decode cX11_tear 1 = .ok (.iload_n 1, 1) := by decide +kernel
theorem dX11_tear_2 : decode cX11_tear 2 = .ok (.invokevirtual 228, 3) := by decide +kernel
theorem dX11_tear_5 : decode cX11_tear 5 = .ok (.ifCond .ne 5, 3) := by decide +kernel
theorem dX11_tear_8 : decode cX11_tear 8 = .ok (.iconst (-1), 1) := by decide +kernel
theorem dX11_tear_9 : decode cX11_tear 9 = .ok (.ireturn, 1) := by decide +kernel
theorem dX11_tear_10 : decode cX11_tear 10 = .ok (.aload_n 0, 1) := by decide +kernel
theorem dX11_tear_11 : decode cX11_tear 11 = .ok (.getfield 13, 3) := by decide +kernel
theorem dX11_tear_14 : decode cX11_tear 14 = .ok (.iload_n 1, 1) := by decide +kernel
theorem dX11_tear_15 : decode cX11_tear 15 = .ok (.iaload, 1) := by decide +kernel
theorem dX11_tear_16 : decode cX11_tear 16 = .ok (.iconst 5, 1) := by decide +kernel
theorem dX11_tear_17 : decode cX11_tear 17 = .ok (.if_icmp .eq 9, 3) := by decide +kernel
theorem dX11_tear_20 : decode cX11_tear 20 = .ok (.aload_n 0, 1) := by decide +kernel
theorem dX11_tear_21 : decode cX11_tear 21 = .ok (.iconst 3, 1) := by decide +kernel
theorem dX11_tear_22 : decode cX11_tear 22 = .ok (.invokevirtual 221, 3) := by decide +kernel
theorem dX11_tear_25 : decode cX11_tear 25 = .ok (.ireturn, 1) := by decide +kernel
theorem dX11_tear_26 : decode cX11_tear 26 = .ok (.aload_n 0, 1) := by decide +kernel
theorem dX11_tear_27 : decode cX11_tear 27 = .ok (.getfield 23, 3) := by decide +kernel
theorem dX11_tear_30 : decode cX11_tear 30 = .ok (.iload_n 1, 1) := by decide +kernel
theorem dX11_tear_31 : decode cX11_tear 31 = .ok (.iaload, 1) := by decide +kernel
theorem dX11_tear_32 : decode cX11_tear 32 = .ok (.ifCond .ge 9, 3) := by decide +kernel
theorem dX11_tear_35 : decode cX11_tear 35 = .ok (.aload_n 0, 1) := by decide +kernel
theorem dX11_tear_36 : decode cX11_tear 36 = .ok (.iconst 1, 1) := by decide +kernel
theorem dX11_tear_37 : decode cX11_tear 37 = .ok (.invokevirtual 221, 3) := by decide +kernel
theorem dX11_tear_40 : decode cX11_tear 40 = .ok (.ireturn, 1) := by decide +kernel
theorem dX11_tear_41 : decode cX11_tear 41 = .ok (.aload_n 0, 1) := by decide +kernel
theorem dX11_tear_42 : decode cX11_tear 42 = .ok (.getfield 23, 3) := by decide +kernel
theorem dX11_tear_45 : decode cX11_tear 45 = .ok (.iload_n 1, 1) := by decide +kernel
theorem dX11_tear_46 : decode cX11_tear 46 = .ok (.bipush (-9), 2) := by decide +kernel
theorem dX11_tear_48 : decode cX11_tear 48 = .ok (.iastore, 1) := by decide +kernel
theorem dX11_tear_49 : decode cX11_tear 49 = .ok (.aload_n 0, 1) := by decide +kernel
theorem dX11_tear_50 : decode cX11_tear 50 = .ok (.invokevirtual 218, 3) := by decide +kernel
theorem dX11_tear_53 : decode cX11_tear 53 = .ok (.iconst 1, 1) := by decide +kernel
theorem dX11_tear_54 : decode cX11_tear 54 = .ok (.ireturn, 1) := by decide +kernel
theorem dX11_tells_0 : decode cX11_tells 0 = .ok (.iload_n 2, 1) := by decide +kernel
theorem dX11_tells_1 : decode cX11_tells 1 = .ok (.ifCond .ne 12, 3) := by decide +kernel
theorem dX11_tells_4 : decode cX11_tells 4 = .ok (.aload_n 0, 1) := by decide +kernel
theorem dX11_tells_5 : decode cX11_tells 5 = .ok (.getfield 13, 3) := by decide +kernel
theorem dX11_tells_8 : decode cX11_tells 8 = .ok (.iload_n 1, 1) := by decide +kernel
theorem dX11_tells_9 : decode cX11_tells 9 = .ok (.iaload, 1) := by decide +kernel
theorem dX11_tells_10 : decode cX11_tells 10 = .ok (.goto 51, 3) := by decide +kernel
theorem dX11_tells_13 : decode cX11_tells 13 = .ok (.iload_n 2, 1) := by decide +kernel
theorem dX11_tells_14 : decode cX11_tells 14 = .ok (.iconst 1, 1) := by decide +kernel
theorem dX11_tells_15 : decode cX11_tells 15 = .ok (.if_icmp .ne 12, 3) := by decide +kernel
theorem dX11_tells_18 : decode cX11_tells 18 = .ok (.aload_n 0, 1) := by decide +kernel
theorem dX11_tells_19 : decode cX11_tells 19 = .ok (.getfield 20, 3) := by decide +kernel
theorem dX11_tells_22 : decode cX11_tells 22 = .ok (.iload_n 1, 1) := by decide +kernel
theorem dX11_tells_23 : decode cX11_tells 23 = .ok (.iaload, 1) := by decide +kernel
theorem dX11_tells_24 : decode cX11_tells 24 = .ok (.goto 37, 3) := by decide +kernel
theorem dX11_tells_27 : decode cX11_tells 27 = .ok (.iload_n 2, 1) := by decide +kernel
theorem dX11_tells_28 : decode cX11_tells 28 = .ok (.iconst 2, 1) := by decide +kernel
theorem dX11_tells_29 : decode cX11_tells 29 = .ok (.if_icmp .ne 12, 3) := by decide +kernel
theorem dX11_tells_32 : decode cX11_tells 32 = .ok (.aload_n 0, 1) := by decide +kernel
theorem dX11_tells_33 : decode cX11_tells 33 = .ok (.getfield 35, 3) := by decide +kernel
theorem dX11_tells_36 : decode cX11_tells 36 = .ok (.iload_n 1, 1) := by decide +kernel
theorem dX11_tells_37 : decode cX11_tells 37 = .ok (.iaload, 1) := by decide +kernel
theorem dX11_tells_38 : decode cX11_tells 38 = .ok (.goto 23, 3) := by decide +kernel
theorem dX11_tells_41 : decode cX11_tells 41 = .ok (.iload_n 2, 1) := by decide +kernel
theorem dX11_tells_42 : decode cX11_tells 42 = .ok (.iconst 3, 1) := by decide +kernel
theorem dX11_tells_43 : decode cX11_tells 43 = .ok (.if_icmp .ne 12, 3) := by decide +kernel
theorem dX11_tells_46 : decode cX11_tells 46 = .ok (.aload_n 0, 1) := by decide +kernel
theorem dX11_tells_47 : decode cX11_tells 47 = .ok (.getfield 38, 3) := by decide +kernel
theorem dX11_tells_50 : decode cX11_tells 50 = .ok (.iload_n 1, 1) := by decide +kernel
theorem dX11_tells_51 : decode cX11_tells 51 = .ok (.iaload, 1) := by decide +kernel
theorem dX11_tells_52 : decode cX11_tells 52 = .ok (.goto 9, 3) := by decide +kernel
theorem dX11_tells_55 : decode cX11_tells 55 = .ok (.aload_n 0, 1) := by decide +kernel
theorem dX11_tells_56 : decode cX11_tells 56 = .ok (.getfield 23, 3) := by decide +kernel
theorem dX11_tells_59 : decode cX11_tells 59 = .ok (.iload_n 1, 1) := by decide +kernel
theorem dX11_tells_60 : decode cX11_tells 60 = .ok (.iaload, 1) := by decide +kernel
theorem dX11_tells_61 : decode cX11_tells 61 = .ok (.ireturn, 1) := by decide +kernel
theorem dX11_told_0 : decode cX11_told 0 = .ok (.aload_n 0, 1) := by decide +kernel
theorem dX11_told_1 : decode cX11_told 1 = .ok (.iload_n 1, 1) := by decide +kernel
theorem dX11_told_2 : decode cX11_told 2 = .ok (.invokevirtual 228, 3) := by decide +kernel
theorem dX11_told_5 : decode cX11_told 5 = .ok (.ifCond .eq 12, 3) := by decide +kernel
theorem dX11_told_8 : decode cX11_told 8 = .ok (.iload_n 2, 1) := by decide +kernel
theorem dX11_told_9 : decode cX11_told 9 = .ok (.iconst 0, 1) := by decide +kernel
theorem dX11_told_10 : decode cX11_told 10 = .ok (.iconst 4, 1) := by decide +kernel
theorem dX11_told_11 : decode cX11_told 11 = .ok (.invokestatic 205, 3) := by decide +kernel
theorem dX11_told_14 : decode cX11_told 14 = .ok (.ifCond .ne 7, 3) := by decide +kernel
theorem dX11_told_17 : decode cX11_told 17 = .ok (.iconst (-1), 1) := by decide +kernel
theorem dX11_told_18 : decode cX11_told 18 = .ok (.goto 9, 3) := by decide +kernel
theorem dX11_told_21 : decode cX11_told 21 = .ok (.aload_n 0, 1) := by decide +kernel
theorem dX11_told_22 : decode cX11_told 22 = .ok (.iload_n 1, 1) := by decide +kernel
theorem dX11_told_23 : decode cX11_told 23 = .ok (.iload_n 2, 1) := by decide +kernel
theorem dX11_told_24 : decode cX11_told 24 = .ok (.invokevirtual 238, 3) := by decide +kernel
theorem dX11_told_27 : decode cX11_told 27 = .ok (.ireturn, 1) := by decide +kernel
theorem dX11_above_0 : decode cX11_above 0 = .ok (.iload_n 0, 1) := by decide +kernel
theorem dX11_above_1 : decode cX11_above 1 = .ok (.ifCond .ne 8, 3) := by decide +kernel
theorem dX11_above_4 : decode cX11_above 4 = .ok (.bipush (-9), 2) := by decide +kernel
theorem dX11_above_6 : decode cX11_above 6 = .ok (.goto 18, 3) := by decide +kernel
theorem dX11_above_9 : decode cX11_above 9 = .ok (.iload_n 0, 1) := by decide +kernel
theorem dX11_above_10 : decode cX11_above 10 = .ok (.iconst 2, 1) := by decide +kernel
theorem dX11_above_11 : decode cX11_above 11 = .ok (.if_icmp .eq 8, 3) := by decide +kernel
theorem dX11_above_14 : decode cX11_above 14 = .ok (.iload_n 0, 1) := by decide +kernel
theorem dX11_above_15 : decode cX11_above 15 = .ok (.iconst 3, 1) := by decide +kernel
theorem dX11_above_16 : decode cX11_above 16 = .ok (.if_icmp .ne 7, 3) := by decide +kernel
theorem dX11_above_19 : decode cX11_above 19 = .ok (.iconst 1, 1) := by decide +kernel
theorem dX11_above_20 : decode cX11_above 20 = .ok (.goto 4, 3) := by decide +kernel
theorem dX11_above_23 : decode cX11_above 23 = .ok (.iconst 0, 1) := by decide +kernel
theorem dX11_above_24 : decode cX11_above 24 = .ok (.ireturn, 1) := by decide +kernel
theorem dX11_is_0 : decode cX11_is 0 = .ok (.aload_n 0, 1) := by decide +kernel
theorem dX11_is_1 : decode cX11_is 1 = .ok (.iload_n 1, 1) := by decide +kernel
theorem dX11_is_2 : decode cX11_is 2 = .ok (.invokevirtual 228, 3) := by decide +kernel
theorem dX11_is_5 : decode cX11_is 5 = .ok (.ifCond .eq 12, 3) := by decide +kernel
theorem dX11_is_8 : decode cX11_is 8 = .ok (.iload_n 2, 1) := by decide +kernel
theorem dX11_is_9 : decode cX11_is 9 = .ok (.iconst 0, 1) := by decide +kernel
theorem dX11_is_10 : decode cX11_is 10 = .ok (.iconst 5, 1) := by decide +kernel
theorem dX11_is_11 : decode cX11_is 11 = .ok (.invokestatic 205, 3) := by decide +kernel
theorem dX11_is_14 : decode cX11_is 14 = .ok (.ifCond .ne 5, 3) := by decide +kernel
theorem dX11_is_17 : decode cX11_is 17 = .ok (.iconst (-1), 1) := by decide +kernel
theorem dX11_is_18 : decode cX11_is 18 = .ok (.ireturn, 1) := by decide +kernel
theorem dX11_is_19 : decode cX11_is 19 = .ok (.aload_n 0, 1) := by decide +kernel
theorem dX11_is_20 : decode cX11_is 20 = .ok (.getfield 13, 3) := by decide +kernel
theorem dX11_is_23 : decode cX11_is 23 = .ok (.iload_n 1, 1) := by decide +kernel
theorem dX11_is_24 : decode cX11_is 24 = .ok (.iaload, 1) := by decide +kernel
theorem dX11_is_25 : decode cX11_is 25 = .ok (.istore_n 3, 1) := by decide +kernel
theorem dX11_is_26 : decode cX11_is 26 = .ok (.iload_n 3, 1) := by decide +kernel
theorem dX11_is_27 : decode cX11_is 27 = .ok (.bipush (-9), 2) := by decide +kernel
theorem dX11_is_29 : decode cX11_is 29 = .ok (.if_icmp .eq 16, 3) := by decide +kernel
theorem dX11_is_32 : decode cX11_is 32 = .ok (.iload_n 3, 1) := by decide +kernel
theorem dX11_is_33 : decode cX11_is 33 = .ok (.iload_n 2, 1) := by decide +kernel
theorem dX11_is_34 : decode cX11_is 34 = .ok (.if_icmp .eq 11, 3) := by decide +kernel
theorem dX11_is_37 : decode cX11_is 37 = .ok (.iload_n 3, 1) := by decide +kernel
theorem dX11_is_38 : decode cX11_is 38 = .ok (.invokestatic 242, 3) := by decide +kernel
theorem dX11_is_41 : decode cX11_is 41 = .ok (.istore_n 3, 1) := by decide +kernel
theorem dX11_is_42 : decode cX11_is 42 = .ok (.goto (-16), 3) := by decide +kernel
theorem dX11_is_45 : decode cX11_is 45 = .ok (.iload_n 3, 1) := by decide +kernel
theorem dX11_is_46 : decode cX11_is 46 = .ok (.iload_n 2, 1) := by decide +kernel
theorem dX11_is_47 : decode cX11_is 47 = .ok (.if_icmp .ne 7, 3) := by decide +kernel
theorem dX11_is_50 : decode cX11_is 50 = .ok (.iconst 1, 1) := by decide +kernel
theorem dX11_is_51 : decode cX11_is 51 = .ok (.goto 4, 3) := by decide +kernel
theorem dX11_is_54 : decode cX11_is 54 = .ok (.iconst 0, 1) := by decide +kernel
theorem dX11_is_55 : decode cX11_is 55 = .ok (.ireturn, 1) := by decide +kernel
theorem dX11_endsOf_0 : decode cX11_endsOf 0 = .ok (.iload_n 2, 1) := by decide +kernel
theorem dX11_endsOf_1 : decode cX11_endsOf 1 = .ok (.ifCond .ne 12, 3) := by decide +kernel
theorem dX11_endsOf_4 : decode cX11_endsOf 4 = .ok (.aload_n 0, 1) := by decide +kernel
theorem dX11_endsOf_5 : decode cX11_endsOf 5 = .ok (.getfield 41, 3) := by decide +kernel
theorem dX11_endsOf_8 : decode cX11_endsOf 8 = .ok (.iload_n 1, 1) := by decide +kernel
theorem dX11_endsOf_9 : decode cX11_endsOf 9 = .ok (.iaload, 1) := by decide +kernel
theorem dX11_endsOf_10 : decode cX11_endsOf 10 = .ok (.goto 55, 3) := by decide +kernel
theorem dX11_endsOf_13 : decode cX11_endsOf 13 = .ok (.iload_n 2, 1) := by decide +kernel
theorem dX11_endsOf_14 : decode cX11_endsOf 14 = .ok (.iconst 1, 1) := by decide +kernel
theorem dX11_endsOf_15 : decode cX11_endsOf 15 = .ok (.if_icmp .ne 12, 3) := by decide +kernel
theorem dX11_endsOf_18 : decode cX11_endsOf 18 = .ok (.aload_n 0, 1) := by decide +kernel
theorem dX11_endsOf_19 : decode cX11_endsOf 19 = .ok (.getfield 44, 3) := by decide +kernel
theorem dX11_endsOf_22 : decode cX11_endsOf 22 = .ok (.iload_n 1, 1) := by decide +kernel
theorem dX11_endsOf_23 : decode cX11_endsOf 23 = .ok (.iaload, 1) := by decide +kernel
theorem dX11_endsOf_24 : decode cX11_endsOf 24 = .ok (.goto 41, 3) := by decide +kernel
theorem dX11_endsOf_27 : decode cX11_endsOf 27 = .ok (.iload_n 2, 1) := by decide +kernel
theorem dX11_endsOf_28 : decode cX11_endsOf 28 = .ok (.iconst 2, 1) := by decide +kernel
theorem dX11_endsOf_29 : decode cX11_endsOf 29 = .ok (.if_icmp .ne 14, 3) := by decide +kernel
theorem dX11_endsOf_32 : decode cX11_endsOf 32 = .ok (.aload_n 0, 1) := by decide +kernel
theorem dX11_endsOf_33 : decode cX11_endsOf 33 = .ok (.getfield 47, 3) := by decide +kernel
theorem dX11_endsOf_36 : decode cX11_endsOf 36 = .ok (.iconst 4, 1) := by decide +kernel
theorem dX11_endsOf_37 : decode cX11_endsOf 37 = .ok (.iload_n 1, 1) := by decide +kernel
theorem dX11_endsOf_38 : decode cX11_endsOf 38 = .ok (.imul, 1) := by decide +kernel
theorem dX11_endsOf_39 : decode cX11_endsOf 39 = .ok (.iaload, 1) := by decide +kernel
theorem dX11_endsOf_40 : decode cX11_endsOf 40 = .ok (.goto 25, 3) := by decide +kernel
theorem dX11_endsOf_43 : decode cX11_endsOf 43 = .ok (.iload_n 2, 1) := by decide +kernel
theorem dX11_endsOf_44 : decode cX11_endsOf 44 = .ok (.iconst 3, 1) := by decide +kernel
theorem dX11_endsOf_45 : decode cX11_endsOf 45 = .ok (.if_icmp .ne 14, 3) := by decide +kernel
theorem dX11_endsOf_48 : decode cX11_endsOf 48 = .ok (.aload_n 0, 1) := by decide +kernel
theorem dX11_endsOf_49 : decode cX11_endsOf 49 = .ok (.getfield 50, 3) := by decide +kernel
theorem dX11_endsOf_52 : decode cX11_endsOf 52 = .ok (.iconst 4, 1) := by decide +kernel
theorem dX11_endsOf_53 : decode cX11_endsOf 53 = .ok (.iload_n 1, 1) := by decide +kernel
theorem dX11_endsOf_54 : decode cX11_endsOf 54 = .ok (.imul, 1) := by decide +kernel
theorem dX11_endsOf_55 : decode cX11_endsOf 55 = .ok (.iaload, 1) := by decide +kernel
theorem dX11_endsOf_56 : decode cX11_endsOf 56 = .ok (.goto 9, 3) := by decide +kernel
theorem dX11_endsOf_59 : decode cX11_endsOf 59 = .ok (.aload_n 0, 1) := by decide +kernel
theorem dX11_endsOf_60 : decode cX11_endsOf 60 = .ok (.getfield 53, 3) := by decide +kernel
theorem dX11_endsOf_63 : decode cX11_endsOf 63 = .ok (.iload_n 1, 1) := by decide +kernel
theorem dX11_endsOf_64 : decode cX11_endsOf 64 = .ok (.iaload, 1) := by decide +kernel
theorem dX11_endsOf_65 : decode cX11_endsOf 65 = .ok (.ireturn, 1) := by decide +kernel
theorem dX11_ends_0 : decode cX11_ends 0 = .ok (.aload_n 0, 1) := by decide +kernel
theorem dX11_ends_1 : decode cX11_ends 1 = .ok (.iload_n 1, 1) := by decide +kernel
theorem dX11_ends_2 : decode cX11_ends 2 = .ok (.invokevirtual 232, 3) := by decide +kernel
theorem dX11_ends_5 : decode cX11_ends 5 = .ok (.ifCond .eq 12, 3) := by decide +kernel
theorem dX11_ends_8 : decode cX11_ends 8 = .ok (.iload_n 2, 1) := by decide +kernel
theorem dX11_ends_9 : decode cX11_ends 9 = .ok (.iconst 0, 1) := by decide +kernel
theorem dX11_ends_10 : decode cX11_ends 10 = .ok (.iconst 4, 1) := by decide +kernel
theorem dX11_ends_11 : decode cX11_ends 11 = .ok (.invokestatic 205, 3) := by decide +kernel
theorem dX11_ends_14 : decode cX11_ends 14 = .ok (.ifCond .ne 7, 3) := by decide +kernel
theorem dX11_ends_17 : decode cX11_ends 17 = .ok (.iconst (-1), 1) := by decide +kernel
theorem dX11_ends_18 : decode cX11_ends 18 = .ok (.goto 9, 3) := by decide +kernel
theorem dX11_ends_21 : decode cX11_ends 21 = .ok (.aload_n 0, 1) := by decide +kernel
theorem dX11_ends_22 : decode cX11_ends 22 = .ok (.iload_n 1, 1) := by decide +kernel
theorem dX11_ends_23 : decode cX11_ends 23 = .ok (.iload_n 2, 1) := by decide +kernel
theorem dX11_ends_24 : decode cX11_ends 24 = .ok (.invokevirtual 245, 3) := by decide +kernel
theorem dX11_ends_27 : decode cX11_ends 27 = .ok (.ireturn, 1) := by decide +kernel
theorem dX11_divisor_0 : decode cX11_divisor 0 = .ok (.lload_n 0, 1) := by decide +kernel
theorem dX11_divisor_1 : decode cX11_divisor 1 = .ok (.lconst 0, 1) := by decide +kernel
theorem dX11_divisor_2 : decode cX11_divisor 2 = .ok (.lcmp, 1) := by decide +kernel
theorem dX11_divisor_3 : decode cX11_divisor 3 = .ok (.ifCond .ge 8, 3) := by decide +kernel
theorem dX11_divisor_6 : decode cX11_divisor 6 = .ok (.lload_n 0, 1) := by decide +kernel
theorem dX11_divisor_7 : decode cX11_divisor 7 = .ok (.lneg, 1) := by decide +kernel
theorem dX11_divisor_8 : decode cX11_divisor 8 = .ok (.goto 4, 3) := by decide +kernel
theorem dX11_divisor_11 : decode cX11_divisor 11 = .ok (.lload_n 0, 1) := by decide +kernel
theorem dX11_divisor_12 : decode cX11_divisor 12 = .ok (.lstore 4, 2) := by decide +kernel
theorem dX11_divisor_14 : decode cX11_divisor 14 = .ok (.lload_n 2, 1) := by decide +kernel
theorem dX11_divisor_15 : decode cX11_divisor 15 = .ok (.lstore 6, 2) := by decide +kernel
theorem dX11_divisor_17 : decode cX11_divisor 17 = .ok (.lload 6, 2) := by decide +kernel
theorem dX11_divisor_19 : decode cX11_divisor 19 = .ok (.lconst 0, 1) := by decide +kernel
theorem dX11_divisor_20 : decode cX11_divisor 20 = .ok (.lcmp, 1) := by decide +kernel
theorem dX11_divisor_21 : decode cX11_divisor 21 = .ok (.ifCond .eq 21, 3) := by decide +kernel
theorem dX11_divisor_24 : decode cX11_divisor 24 = .ok (.lload 4, 2) := by decide +kernel
theorem dX11_divisor_26 : decode cX11_divisor 26 = .ok (.lload 6, 2) := by decide +kernel
theorem dX11_divisor_28 : decode cX11_divisor 28 = .ok (.lrem, 1) := by decide +kernel
theorem dX11_divisor_29 : decode cX11_divisor 29 = .ok (.lstore 8, 2) := by decide +kernel
theorem dX11_divisor_31 : decode cX11_divisor 31 = .ok (.lload 6, 2) := by decide +kernel
theorem dX11_divisor_33 : decode cX11_divisor 33 = .ok (.lstore 4, 2) := by decide +kernel
theorem dX11_divisor_35 : decode cX11_divisor 35 = .ok (.lload 8, 2) := by decide +kernel
theorem dX11_divisor_37 : decode cX11_divisor 37 = .ok (.lstore 6, 2) := by decide +kernel
theorem dX11_divisor_39 : decode cX11_divisor 39 = .ok (.goto (-22), 3) := by decide +kernel
theorem dX11_divisor_42 : decode cX11_divisor 42 = .ok (.lload 4, 2) := by decide +kernel
theorem dX11_divisor_44 : decode cX11_divisor 44 = .ok (.lreturn, 1) := by decide +kernel
theorem dX11_sum_0 : decode cX11_sum 0 = .ok (.iconst 0, 1) := by decide +kernel
theorem dX11_sum_1 : decode cX11_sum 1 = .ok (.istore 4, 2) := by decide +kernel
theorem dX11_sum_3 : decode cX11_sum 3 = .ok (.iconst 0, 1) := by decide +kernel
theorem dX11_sum_4 : decode cX11_sum 4 = .ok (.istore 5, 2) := by decide +kernel
theorem dX11_sum_6 : decode cX11_sum 6 = .ok (.iload 5, 2) := by decide +kernel
theorem dX11_sum_8 : decode cX11_sum 8 = .ok (.aload_n 0, 1) := by decide +kernel
theorem dX11_sum_9 : decode cX11_sum 9 = .ok (.getfield 20, 3) := by decide +kernel
theorem dX11_sum_12 : decode cX11_sum 12 = .ok (.iload_n 3, 1) := by decide +kernel
theorem dX11_sum_13 : decode cX11_sum 13 = .ok (.iaload, 1) := by decide +kernel
theorem dX11_sum_14 : decode cX11_sum 14 = .ok (.if_icmp .ge 22, 3) := by decide +kernel
theorem dX11_sum_17 : decode cX11_sum 17 = .ok (.iload 4, 2) := by decide +kernel
theorem dX11_sum_19 : decode cX11_sum 19 = .ok (.aload_n 1, 1) := by decide +kernel
theorem dX11_sum_20 : decode cX11_sum 20 = .ok (.iconst 4, 1) := by decide +kernel
theorem dX11_sum_21 : decode cX11_sum 21 = .ok (.iload_n 2, 1) := by decide +kernel
theorem dX11_sum_22 : decode cX11_sum 22 = .ok (.imul, 1) := by decide +kernel
theorem dX11_sum_23 : decode cX11_sum 23 = .ok (.iload 5, 2) := by decide +kernel
theorem dX11_sum_25 : decode cX11_sum 25 = .ok (.iadd, 1) := by decide +kernel
theorem dX11_sum_26 : decode cX11_sum 26 = .ok (.iaload, 1) := by decide +kernel
theorem dX11_sum_27 : decode cX11_sum 27 = .ok (.iadd, 1) := by decide +kernel
theorem dX11_sum_28 : decode cX11_sum 28 = .ok (.istore 4, 2) := by decide +kernel
theorem dX11_sum_30 : decode cX11_sum 30 = .ok (.iinc 5 1, 3) := by decide +kernel
theorem dX11_sum_33 : decode cX11_sum 33 = .ok (.goto (-27), 3) := by decide +kernel
theorem dX11_sum_36 : decode cX11_sum 36 = .ok (.iload 4, 2) := by decide +kernel
theorem dX11_sum_38 : decode cX11_sum 38 = .ok (.ireturn, 1) := by decide +kernel
theorem dX11_isSmall_0 : decode cX11_isSmall 0 = .ok (.aload_n 0, 1) := by decide +kernel
theorem dX11_isSmall_1 : decode cX11_isSmall 1 = .ok (.getfield 89, 3) := by decide +kernel
theorem dX11_isSmall_4 : decode cX11_isSmall 4 = .ok (.iload_n 1, 1) := by decide +kernel
theorem dX11_isSmall_5 : decode cX11_isSmall 5 = .ok (.laload, 1) := by decide +kernel
theorem dX11_isSmall_6 : decode cX11_isSmall 6 = .ok (.aload_n 0, 1) := by decide +kernel
theorem dX11_isSmall_7 : decode cX11_isSmall 7 = .ok (.getfield 92, 3) := by decide +kernel
theorem dX11_isSmall_10 : decode cX11_isSmall 10 = .ok (.iload_n 2, 1) := by decide +kernel
theorem dX11_isSmall_11 : decode cX11_isSmall 11 = .ok (.laload, 1) := by decide +kernel
theorem dX11_isSmall_12 : decode cX11_isSmall 12 = .ok (.lmul, 1) := by decide +kernel
theorem dX11_isSmall_13 : decode cX11_isSmall 13 = .ok (.lstore_n 3, 1) := by decide +kernel
theorem dX11_isSmall_14 : decode cX11_isSmall 14 = .ok (.aload_n 0, 1) := by decide +kernel
theorem dX11_isSmall_15 : decode cX11_isSmall 15 = .ok (.getfield 92, 3) := by decide +kernel
theorem dX11_isSmall_18 : decode cX11_isSmall 18 = .ok (.iload_n 1, 1) := by decide +kernel
theorem dX11_isSmall_19 : decode cX11_isSmall 19 = .ok (.laload, 1) := by decide +kernel
theorem dX11_isSmall_20 : decode cX11_isSmall 20 = .ok (.aload_n 0, 1) := by decide +kernel
theorem dX11_isSmall_21 : decode cX11_isSmall 21 = .ok (.getfield 89, 3) := by decide +kernel
theorem dX11_isSmall_24 : decode cX11_isSmall 24 = .ok (.iload_n 2, 1) := by decide +kernel
theorem dX11_isSmall_25 : decode cX11_isSmall 25 = .ok (.laload, 1) := by decide +kernel
theorem dX11_isSmall_26 : decode cX11_isSmall 26 = .ok (.lmul, 1) := by decide +kernel
theorem dX11_isSmall_27 : decode cX11_isSmall 27 = .ok (.lstore 5, 2) := by decide +kernel
theorem dX11_isSmall_29 : decode cX11_isSmall 29 = .ok (.lload_n 3, 1) := by decide +kernel
theorem dX11_isSmall_30 : decode cX11_isSmall 30 = .ok (.lload 5, 2) := by decide +kernel
theorem dX11_isSmall_32 : decode cX11_isSmall 32 = .ok (.invokestatic 248, 3) := by decide +kernel
theorem dX11_isSmall_35 : decode cX11_isSmall 35 = .ok (.lstore 7, 2) := by decide +kernel
theorem dX11_isSmall_37 : decode cX11_isSmall 37 = .ok (.lload_n 3, 1) := by decide +kernel
theorem dX11_isSmall_38 : decode cX11_isSmall 38 = .ok (.lload 7, 2) := by decide +kernel
theorem dX11_isSmall_40 : decode cX11_isSmall 40 = .ok (.ldiv, 1) := by decide +kernel
theorem dX11_isSmall_41 : decode cX11_isSmall 41 = .ok (.ldc2_w 252, 3) := by decide +kernel
theorem dX11_isSmall_44 : decode cX11_isSmall 44 = .ok (.lcmp, 1) := by decide +kernel
theorem dX11_isSmall_45 : decode cX11_isSmall 45 = .ok (.ifCond .gt 19, 3) := by decide +kernel
theorem dX11_isSmall_48 : decode cX11_isSmall 48 = .ok (.lload 5, 2) := by decide +kernel
theorem dX11_isSmall_50 : decode cX11_isSmall 50 = .ok (.lload 7, 2) := by decide +kernel
theorem dX11_isSmall_52 : decode cX11_isSmall 52 = .ok (.ldiv, 1) := by decide +kernel
theorem dX11_isSmall_53 : decode cX11_isSmall 53 = .ok (.ldc2_w 252, 3) := by decide +kernel
theorem dX11_isSmall_56 : decode cX11_isSmall 56 = .ok (.lcmp, 1) := by decide +kernel
theorem dX11_isSmall_57 : decode cX11_isSmall 57 = .ok (.ifCond .gt 7, 3) := by decide +kernel
theorem dX11_isSmall_60 : decode cX11_isSmall 60 = .ok (.iconst 1, 1) := by decide +kernel
theorem dX11_isSmall_61 : decode cX11_isSmall 61 = .ok (.goto 4, 3) := by decide +kernel
theorem dX11_isSmall_64 : decode cX11_isSmall 64 = .ok (.iconst 0, 1) := by decide +kernel
theorem dX11_isSmall_65 : decode cX11_isSmall 65 = .ok (.ireturn, 1) := by decide +kernel
theorem dX11_isTied_0 : decode cX11_isTied 0 = .ok (.aload_n 0, 1) := by decide +kernel
theorem dX11_isTied_1 : decode cX11_isTied 1 = .ok (.getfield 89, 3) := by decide +kernel
theorem dX11_isTied_4 : decode cX11_isTied 4 = .ok (.iload_n 1, 1) := by decide +kernel
theorem dX11_isTied_5 : decode cX11_isTied 5 = .ok (.laload, 1) := by decide +kernel
theorem dX11_isTied_6 : decode cX11_isTied 6 = .ok (.iload_n 2, 1) := by decide +kernel
theorem dX11_isTied_7 : decode cX11_isTied 7 = .ok (.i2l, 1) := by decide +kernel
theorem dX11_isTied_8 : decode cX11_isTied 8 = .ok (.lmul, 1) := by decide +kernel
theorem dX11_isTied_9 : decode cX11_isTied 9 = .ok (.aload_n 0, 1) := by decide +kernel
theorem dX11_isTied_10 : decode cX11_isTied 10 = .ok (.getfield 92, 3) := by decide +kernel
theorem dX11_isTied_13 : decode cX11_isTied 13 = .ok (.iload_n 3, 1) := by decide +kernel
theorem dX11_isTied_14 : decode cX11_isTied 14 = .ok (.laload, 1) := by decide +kernel
theorem dX11_isTied_15 : decode cX11_isTied 15 = .ok (.lmul, 1) := by decide +kernel
theorem dX11_isTied_16 : decode cX11_isTied 16 = .ok (.lstore 5, 2) := by decide +kernel
theorem dX11_isTied_18 : decode cX11_isTied 18 = .ok (.aload_n 0, 1) := by decide +kernel
theorem dX11_isTied_19 : decode cX11_isTied 19 = .ok (.getfield 92, 3) := by decide +kernel
theorem dX11_isTied_22 : decode cX11_isTied 22 = .ok (.iload_n 1, 1) := by decide +kernel
theorem dX11_isTied_23 : decode cX11_isTied 23 = .ok (.laload, 1) := by decide +kernel
theorem dX11_isTied_24 : decode cX11_isTied 24 = .ok (.iload 4, 2) := by decide +kernel
theorem dX11_isTied_26 : decode cX11_isTied 26 = .ok (.i2l, 1) := by decide +kernel
theorem dX11_isTied_27 : decode cX11_isTied 27 = .ok (.lmul, 1) := by decide +kernel
theorem dX11_isTied_28 : decode cX11_isTied 28 = .ok (.aload_n 0, 1) := by decide +kernel
theorem dX11_isTied_29 : decode cX11_isTied 29 = .ok (.getfield 89, 3) := by decide +kernel
theorem dX11_isTied_32 : decode cX11_isTied 32 = .ok (.iload_n 3, 1) := by decide +kernel
theorem dX11_isTied_33 : decode cX11_isTied 33 = .ok (.laload, 1) := by decide +kernel
theorem dX11_isTied_34 : decode cX11_isTied 34 = .ok (.lmul, 1) := by decide +kernel
theorem dX11_isTied_35 : decode cX11_isTied 35 = .ok (.lstore 7, 2) := by decide +kernel
theorem dX11_isTied_37 : decode cX11_isTied 37 = .ok (.lload 5, 2) := by decide +kernel
theorem dX11_isTied_39 : decode cX11_isTied 39 = .ok (.lload 7, 2) := by decide +kernel
theorem dX11_isTied_41 : decode cX11_isTied 41 = .ok (.invokestatic 248, 3) := by decide +kernel
theorem dX11_isTied_44 : decode cX11_isTied 44 = .ok (.lstore 9, 2) := by decide +kernel
theorem dX11_isTied_46 : decode cX11_isTied 46 = .ok (.lload 5, 2) := by decide +kernel
theorem dX11_isTied_48 : decode cX11_isTied 48 = .ok (.lload 9, 2) := by decide +kernel
theorem dX11_isTied_50 : decode cX11_isTied 50 = .ok (.ldiv, 1) := by decide +kernel
theorem dX11_isTied_51 : decode cX11_isTied 51 = .ok (.lstore 5, 2) := by decide +kernel
theorem dX11_isTied_53 : decode cX11_isTied 53 = .ok (.lload 7, 2) := by decide +kernel
theorem dX11_isTied_55 : decode cX11_isTied 55 = .ok (.lload 9, 2) := by decide +kernel
theorem dX11_isTied_57 : decode cX11_isTied 57 = .ok (.ldiv, 1) := by decide +kernel
theorem dX11_isTied_58 : decode cX11_isTied 58 = .ok (.lstore 7, 2) := by decide +kernel
theorem dX11_isTied_60 : decode cX11_isTied 60 = .ok (.aload_n 0, 1) := by decide +kernel
theorem dX11_isTied_61 : decode cX11_isTied 61 = .ok (.getfield 86, 3) := by decide +kernel
theorem dX11_isTied_64 : decode cX11_isTied 64 = .ok (.iload_n 3, 1) := by decide +kernel
theorem dX11_isTied_65 : decode cX11_isTied 65 = .ok (.iaload, 1) := by decide +kernel
theorem dX11_isTied_66 : decode cX11_isTied 66 = .ok (.istore 11, 2) := by decide +kernel
theorem dX11_isTied_68 : decode cX11_isTied 68 = .ok (.iconst 1, 1) := by decide +kernel
theorem dX11_isTied_69 : decode cX11_isTied 69 = .ok (.istore 12, 2) := by decide +kernel
theorem dX11_isTied_71 : decode cX11_isTied 71 = .ok (.iconst 0, 1) := by decide +kernel
theorem dX11_isTied_72 : decode cX11_isTied 72 = .ok (.istore 13, 2) := by decide +kernel
theorem dX11_isTied_74 : decode cX11_isTied 74 = .ok (.iload 13, 2) := by decide +kernel
theorem dX11_isTied_76 : decode cX11_isTied 76 = .ok (.aload_n 0, 1) := by decide +kernel
theorem dX11_isTied_77 : decode cX11_isTied 77 = .ok (.getfield 202, 3) := by decide +kernel
theorem dX11_isTied_80 : decode cX11_isTied 80 = .ok (.if_icmp .ge 172, 3) := by decide +kernel
theorem dX11_isTied_83 : decode cX11_isTied 83 = .ok (.aload_n 0, 1) := by decide +kernel
theorem dX11_isTied_84 : decode cX11_isTied 84 = .ok (.getfield 86, 3) := by decide +kernel
theorem dX11_isTied_87 : decode cX11_isTied 87 = .ok (.iload 13, 2) := by decide +kernel
theorem dX11_isTied_89 : decode cX11_isTied 89 = .ok (.iaload, 1) := by decide +kernel
theorem dX11_isTied_90 : decode cX11_isTied 90 = .ok (.iload 11, 2) := by decide +kernel
theorem dX11_isTied_92 : decode cX11_isTied 92 = .ok (.if_icmp .ne 154, 3) := by decide +kernel
theorem dX11_isTied_95 : decode cX11_isTied 95 = .ok (.aload_n 0, 1) := by decide +kernel
theorem dX11_isTied_96 : decode cX11_isTied 96 = .ok (.getfield 89, 3) := by decide +kernel
theorem dX11_isTied_99 : decode cX11_isTied 99 = .ok (.iload 13, 2) := by decide +kernel
theorem dX11_isTied_101 : decode cX11_isTied 101 = .ok (.laload, 1) := by decide +kernel
theorem dX11_isTied_102 : decode cX11_isTied 102 = .ok (.lstore 14, 2) := by decide +kernel
theorem dX11_isTied_104 : decode cX11_isTied 104 = .ok (.aload_n 0, 1) := by decide +kernel
theorem dX11_isTied_105 : decode cX11_isTied 105 = .ok (.getfield 92, 3) := by decide +kernel
theorem dX11_isTied_108 : decode cX11_isTied 108 = .ok (.iload 13, 2) := by decide +kernel
theorem dX11_isTied_110 : decode cX11_isTied 110 = .ok (.laload, 1) := by decide +kernel
theorem dX11_isTied_111 : decode cX11_isTied 111 = .ok (.lstore 16, 2) := by decide +kernel
theorem dX11_isTied_113 : decode cX11_isTied 113 = .ok (.lload 14, 2) := by decide +kernel
theorem dX11_isTied_115 : decode cX11_isTied 115 = .ok (.lload 7, 2) := by decide +kernel
theorem dX11_isTied_117 : decode cX11_isTied 117 = .ok (.invokestatic 248, 3) := by decide +kernel
theorem dX11_isTied_120 : decode cX11_isTied 120 = .ok (.lstore 18, 2) := by decide +kernel
theorem dX11_isTied_122 : decode cX11_isTied 122 = .ok (.lload 5, 2) := by decide +kernel
theorem dX11_isTied_124 : decode cX11_isTied 124 = .ok (.lload 16, 2) := by decide +kernel
theorem dX11_isTied_126 : decode cX11_isTied 126 = .ok (.invokestatic 248, 3) := by decide +kernel
theorem dX11_isTied_129 : decode cX11_isTied 129 = .ok (.lstore 20, 2) := by decide +kernel
theorem dX11_isTied_131 : decode cX11_isTied 131 = .ok (.iload 12, 2) := by decide +kernel
theorem dX11_isTied_133 : decode cX11_isTied 133 = .ok (.ifCond .eq 43, 3) := by decide +kernel
theorem dX11_isTied_136 : decode cX11_isTied 136 = .ok (.lload 14, 2) := by decide +kernel
theorem dX11_isTied_138 : decode cX11_isTied 138 = .ok (.lload 18, 2) := by decide +kernel
theorem dX11_isTied_140 : decode cX11_isTied 140 = .ok (.ldiv, 1) := by decide +kernel
theorem dX11_isTied_141 : decode cX11_isTied 141 = .ok (.ldc2_w 252, 3) := by decide +kernel
theorem dX11_isTied_144 : decode cX11_isTied 144 = .ok (.lload 5, 2) := by decide +kernel
theorem dX11_isTied_146 : decode cX11_isTied 146 = .ok (.lload 20, 2) := by decide +kernel
theorem dX11_isTied_148 : decode cX11_isTied 148 = .ok (.ldiv, 1) := by decide +kernel
theorem dX11_isTied_149 : decode cX11_isTied 149 = .ok (.ldiv, 1) := by decide +kernel
theorem dX11_isTied_150 : decode cX11_isTied 150 = .ok (.lcmp, 1) := by decide +kernel
theorem dX11_isTied_151 : decode cX11_isTied 151 = .ok (.ifCond .gt 25, 3) := by decide +kernel
theorem dX11_isTied_154 : decode cX11_isTied 154 = .ok (.lload 16, 2) := by decide +kernel
theorem dX11_isTied_156 : decode cX11_isTied 156 = .ok (.lload 20, 2) := by decide +kernel
theorem dX11_isTied_158 : decode cX11_isTied 158 = .ok (.ldiv, 1) := by decide +kernel
theorem dX11_isTied_159 : decode cX11_isTied 159 = .ok (.ldc2_w 252, 3) := by decide +kernel
theorem dX11_isTied_162 : decode cX11_isTied 162 = .ok (.lload 7, 2) := by decide +kernel
theorem dX11_isTied_164 : decode cX11_isTied 164 = .ok (.lload 18, 2) := by decide +kernel
theorem dX11_isTied_166 : decode cX11_isTied 166 = .ok (.ldiv, 1) := by decide +kernel
theorem dX11_isTied_167 : decode cX11_isTied 167 = .ok (.ldiv, 1) := by decide +kernel
theorem dX11_isTied_168 : decode cX11_isTied 168 = .ok (.lcmp, 1) := by decide +kernel
theorem dX11_isTied_169 : decode cX11_isTied 169 = .ok (.ifCond .gt 7, 3) := by decide +kernel
theorem dX11_isTied_172 : decode cX11_isTied 172 = .ok (.iconst 1, 1) := by decide +kernel
theorem dX11_isTied_173 : decode cX11_isTied 173 = .ok (.goto 4, 3) := by decide +kernel
theorem dX11_isTied_176 : decode cX11_isTied 176 = .ok (.iconst 0, 1) := by decide +kernel
theorem dX11_isTied_177 : decode cX11_isTied 177 = .ok (.istore 12, 2) := by decide +kernel
theorem dX11_isTied_179 : decode cX11_isTied 179 = .ok (.aload_n 0, 1) := by decide +kernel
theorem dX11_isTied_180 : decode cX11_isTied 180 = .ok (.getfield 89, 3) := by decide +kernel
theorem dX11_isTied_183 : decode cX11_isTied 183 = .ok (.iload 13, 2) := by decide +kernel
theorem dX11_isTied_185 : decode cX11_isTied 185 = .ok (.iload 12, 2) := by decide +kernel
theorem dX11_isTied_187 : decode cX11_isTied 187 = .ok (.ifCond .eq 17, 3) := by decide +kernel
theorem dX11_isTied_190 : decode cX11_isTied 190 = .ok (.lload 14, 2) := by decide +kernel
theorem dX11_isTied_192 : decode cX11_isTied 192 = .ok (.lload 18, 2) := by decide +kernel
theorem dX11_isTied_194 : decode cX11_isTied 194 = .ok (.ldiv, 1) := by decide +kernel
theorem dX11_isTied_195 : decode cX11_isTied 195 = .ok (.lload 5, 2) := by decide +kernel
theorem dX11_isTied_197 : decode cX11_isTied 197 = .ok (.lload 20, 2) := by decide +kernel
theorem dX11_isTied_199 : decode cX11_isTied 199 = .ok (.ldiv, 1) := by decide +kernel
theorem dX11_isTied_200 : decode cX11_isTied 200 = .ok (.lmul, 1) := by decide +kernel
theorem dX11_isTied_201 : decode cX11_isTied 201 = .ok (.goto 4, 3) := by decide +kernel
theorem dX11_isTied_204 : decode cX11_isTied 204 = .ok (.lconst 1, 1) := by decide +kernel
theorem dX11_isTied_205 : decode cX11_isTied 205 = .ok (.lastore, 1) := by decide +kernel
theorem dX11_isTied_206 : decode cX11_isTied 206 = .ok (.aload_n 0, 1) := by decide +kernel
theorem dX11_isTied_207 : decode cX11_isTied 207 = .ok (.getfield 92, 3) := by decide +kernel
theorem dX11_isTied_210 : decode cX11_isTied 210 = .ok (.iload 13, 2) := by decide +kernel
theorem dX11_isTied_212 : decode cX11_isTied 212 = .ok (.iload 12, 2) := by decide +kernel
theorem dX11_isTied_214 : decode cX11_isTied 214 = .ok (.ifCond .eq 17, 3) := by decide +kernel
theorem dX11_isTied_217 : decode cX11_isTied 217 = .ok (.lload 16, 2) := by decide +kernel
theorem dX11_isTied_219 : decode cX11_isTied 219 = .ok (.lload 20, 2) := by decide +kernel
theorem dX11_isTied_221 : decode cX11_isTied 221 = .ok (.ldiv, 1) := by decide +kernel
theorem dX11_isTied_222 : decode cX11_isTied 222 = .ok (.lload 7, 2) := by decide +kernel
theorem dX11_isTied_224 : decode cX11_isTied 224 = .ok (.lload 18, 2) := by decide +kernel
theorem dX11_isTied_226 : decode cX11_isTied 226 = .ok (.ldiv, 1) := by decide +kernel
theorem dX11_isTied_227 : decode cX11_isTied 227 = .ok (.lmul, 1) := by decide +kernel
theorem dX11_isTied_228 : decode cX11_isTied 228 = .ok (.goto 4, 3) := by decide +kernel
theorem dX11_isTied_231 : decode cX11_isTied 231 = .ok (.lconst 1, 1) := by decide +kernel
theorem dX11_isTied_232 : decode cX11_isTied 232 = .ok (.lastore, 1) := by decide +kernel
theorem dX11_isTied_233 : decode cX11_isTied 233 = .ok (.aload_n 0, 1) := by decide +kernel
theorem dX11_isTied_234 : decode cX11_isTied 234 = .ok (.getfield 86, 3) := by decide +kernel
theorem dX11_isTied_237 : decode cX11_isTied 237 = .ok (.iload 13, 2) := by decide +kernel
theorem dX11_isTied_239 : decode cX11_isTied 239 = .ok (.aload_n 0, 1) := by decide +kernel
theorem dX11_isTied_240 : decode cX11_isTied 240 = .ok (.getfield 86, 3) := by decide +kernel
theorem dX11_isTied_243 : decode cX11_isTied 243 = .ok (.iload_n 1, 1) := by decide +kernel
theorem dX11_isTied_244 : decode cX11_isTied 244 = .ok (.iaload, 1) := by decide +kernel
theorem dX11_isTied_245 : decode cX11_isTied 245 = .ok (.iastore, 1) := by decide +kernel
theorem dX11_isTied_246 : decode cX11_isTied 246 = .ok (.iinc 13 1, 3) := by decide +kernel
theorem dX11_isTied_249 : decode cX11_isTied 249 = .ok (.goto (-175), 3) := by decide +kernel
theorem dX11_isTied_252 : decode cX11_isTied 252 = .ok (.iconst 0, 1) := by decide +kernel
theorem dX11_isTied_253 : decode cX11_isTied 253 = .ok (.istore 13, 2) := by decide +kernel
theorem dX11_isTied_255 : decode cX11_isTied 255 = .ok (.iload 13, 2) := by decide +kernel
theorem dX11_isTied_257 : decode cX11_isTied 257 = .ok (.aload_n 0, 1) := by decide +kernel
theorem dX11_isTied_258 : decode cX11_isTied 258 = .ok (.getfield 202, 3) := by decide +kernel
theorem dX11_isTied_261 : decode cX11_isTied 261 = .ok (.if_icmp .ge 85, 3) := by decide +kernel
theorem dX11_isTied_264 : decode cX11_isTied 264 = .ok (.iload 12, 2) := by decide +kernel
theorem dX11_isTied_266 : decode cX11_isTied 266 = .ok (.ifCond .eq 80, 3) := by decide +kernel
theorem dX11_isTied_269 : decode cX11_isTied 269 = .ok (.iconst 0, 1) := by decide +kernel
theorem dX11_isTied_270 : decode cX11_isTied 270 = .ok (.istore 14, 2) := by decide +kernel
theorem dX11_isTied_272 : decode cX11_isTied 272 = .ok (.iload 14, 2) := by decide +kernel
theorem dX11_isTied_274 : decode cX11_isTied 274 = .ok (.iload 13, 2) := by decide +kernel
theorem dX11_isTied_276 : decode cX11_isTied 276 = .ok (.if_icmp .ge 64, 3) := by decide +kernel
theorem dX11_isTied_279 : decode cX11_isTied 279 = .ok (.iload 12, 2) := by decide +kernel
theorem dX11_isTied_281 : decode cX11_isTied 281 = .ok (.ifCond .eq 59, 3) := by decide +kernel
theorem dX11_isTied_284 : decode cX11_isTied 284 = .ok (.aload_n 0, 1) := by decide +kernel
theorem dX11_isTied_285 : decode cX11_isTied 285 = .ok (.getfield 86, 3) := by decide +kernel
theorem dX11_isTied_288 : decode cX11_isTied 288 = .ok (.iload 13, 2) := by decide +kernel
theorem dX11_isTied_290 : decode cX11_isTied 290 = .ok (.iaload, 1) := by decide +kernel
theorem dX11_isTied_291 : decode cX11_isTied 291 = .ok (.aload_n 0, 1) := by decide +kernel
theorem dX11_isTied_292 : decode cX11_isTied 292 = .ok (.getfield 86, 3) := by decide +kernel
theorem dX11_isTied_295 : decode cX11_isTied 295 = .ok (.iload_n 1, 1) := by decide +kernel
theorem dX11_isTied_296 : decode cX11_isTied 296 = .ok (.iaload, 1) := by decide +kernel
theorem dX11_isTied_297 : decode cX11_isTied 297 = .ok (.if_icmp .ne 30, 3) := by decide +kernel
theorem dX11_isTied_300 : decode cX11_isTied 300 = .ok (.aload_n 0, 1) := by decide +kernel
theorem dX11_isTied_301 : decode cX11_isTied 301 = .ok (.getfield 86, 3) := by decide +kernel
theorem dX11_isTied_304 : decode cX11_isTied 304 = .ok (.iload 14, 2) := by decide +kernel
theorem dX11_isTied_306 : decode cX11_isTied 306 = .ok (.iaload, 1) := by decide +kernel
theorem dX11_isTied_307 : decode cX11_isTied 307 = .ok (.aload_n 0, 1) := by decide +kernel
theorem dX11_isTied_308 : decode cX11_isTied 308 = .ok (.getfield 86, 3) := by decide +kernel
theorem dX11_isTied_311 : decode cX11_isTied 311 = .ok (.iload_n 1, 1) := by decide +kernel
theorem dX11_isTied_312 : decode cX11_isTied 312 = .ok (.iaload, 1) := by decide +kernel
theorem dX11_isTied_313 : decode cX11_isTied 313 = .ok (.if_icmp .ne 14, 3) := by decide +kernel
theorem dX11_isTied_316 : decode cX11_isTied 316 = .ok (.aload_n 0, 1) := by decide +kernel
theorem dX11_isTied_317 : decode cX11_isTied 317 = .ok (.iload 13, 2) := by decide +kernel
theorem dX11_isTied_319 : decode cX11_isTied 319 = .ok (.iload 14, 2) := by decide +kernel
theorem dX11_isTied_321 : decode cX11_isTied 321 = .ok (.invokevirtual 254, 3) := by decide +kernel
theorem dX11_isTied_324 : decode cX11_isTied 324 = .ok (.ifCond .eq 7, 3) := by decide +kernel
theorem dX11_isTied_327 : decode cX11_isTied 327 = .ok (.iconst 1, 1) := by decide +kernel
theorem dX11_isTied_328 : decode cX11_isTied 328 = .ok (.goto 4, 3) := by decide +kernel
theorem dX11_isTied_331 : decode cX11_isTied 331 = .ok (.iconst 0, 1) := by decide +kernel
theorem dX11_isTied_332 : decode cX11_isTied 332 = .ok (.istore 12, 2) := by decide +kernel
theorem dX11_isTied_334 : decode cX11_isTied 334 = .ok (.iinc 14 1, 3) := by decide +kernel
theorem dX11_isTied_337 : decode cX11_isTied 337 = .ok (.goto (-65), 3) := by decide +kernel
theorem dX11_isTied_340 : decode cX11_isTied 340 = .ok (.iinc 13 1, 3) := by decide +kernel
theorem dX11_isTied_343 : decode cX11_isTied 343 = .ok (.goto (-88), 3) := by decide +kernel
theorem dX11_isTied_346 : decode cX11_isTied 346 = .ok (.iload 12, 2) := by decide +kernel
theorem dX11_isTied_348 : decode cX11_isTied 348 = .ok (.ireturn, 1) := by decide +kernel
theorem dX11_balance_0 : decode cX11_balance 0 = .ok (.aload_n 0, 1) := by decide +kernel
theorem dX11_balance_1 : decode cX11_balance 1 = .ok (.bipush (-9), 2) := by decide +kernel
theorem dX11_balance_3 : decode cX11_balance 3 = .ok (.putfield 258, 3) := by decide +kernel
theorem dX11_balance_6 : decode cX11_balance 6 = .ok (.iconst 0, 1) := by decide +kernel
theorem dX11_balance_7 : decode cX11_balance 7 = .ok (.istore_n 1, 1) := by decide +kernel
theorem dX11_balance_8 : decode cX11_balance 8 = .ok (.iload_n 1, 1) := by decide +kernel
theorem dX11_balance_9 : decode cX11_balance 9 = .ok (.aload_n 0, 1) := by decide +kernel
theorem dX11_balance_10 : decode cX11_balance 10 = .ok (.getfield 202, 3) := by decide +kernel
theorem dX11_balance_13 : decode cX11_balance 13 = .ok (.if_icmp .ge 30, 3) := by decide +kernel
theorem dX11_balance_16 : decode cX11_balance 16 = .ok (.aload_n 0, 1) := by decide +kernel
theorem dX11_balance_17 : decode cX11_balance 17 = .ok (.getfield 86, 3) := by decide +kernel
theorem dX11_balance_20 : decode cX11_balance 20 = .ok (.iload_n 1, 1) := by decide +kernel
theorem dX11_balance_21 : decode cX11_balance 21 = .ok (.iload_n 1, 1) := by decide +kernel
theorem dX11_balance_22 : decode cX11_balance 22 = .ok (.iastore, 1) := by decide +kernel
theorem dX11_balance_23 : decode cX11_balance 23 = .ok (.aload_n 0, 1) := by decide +kernel
theorem dX11_balance_24 : decode cX11_balance 24 = .ok (.getfield 89, 3) := by decide +kernel
theorem dX11_balance_27 : decode cX11_balance 27 = .ok (.iload_n 1, 1) := by decide +kernel
theorem dX11_balance_28 : decode cX11_balance 28 = .ok (.lconst 1, 1) := by decide +kernel
theorem dX11_balance_29 : decode cX11_balance 29 = .ok (.lastore, 1) := by decide +kernel
theorem dX11_balance_30 : decode cX11_balance 30 = .ok (.aload_n 0, 1) := by decide +kernel
theorem dX11_balance_31 : decode cX11_balance 31 = .ok (.getfield 92, 3) := by decide +kernel
theorem dX11_balance_34 : decode cX11_balance 34 = .ok (.iload_n 1, 1) := by decide +kernel
theorem dX11_balance_35 : decode cX11_balance 35 = .ok (.lconst 1, 1) := by decide +kernel
theorem dX11_balance_36 : decode cX11_balance 36 = .ok (.lastore, 1) := by decide +kernel
theorem dX11_balance_37 : decode cX11_balance 37 = .ok (.iinc 1 1, 3) := by decide +kernel
theorem dX11_balance_40 : decode cX11_balance 40 = .ok (.goto (-32), 3) := by decide +kernel
theorem dX11_balance_43 : decode cX11_balance 43 = .ok (.iconst 0, 1) := by decide +kernel
theorem dX11_balance_44 : decode cX11_balance 44 = .ok (.istore_n 1, 1) := by decide +kernel
theorem dX11_balance_45 : decode cX11_balance 45 = .ok (.iload_n 1, 1) := by decide +kernel
theorem dX11_balance_46 : decode cX11_balance 46 = .ok (.aload_n 0, 1) := by decide +kernel
theorem dX11_balance_47 : decode cX11_balance 47 = .ok (.getfield 209, 3) := by decide +kernel
theorem dX11_balance_50 : decode cX11_balance 50 = .ok (.if_icmp .ge 179, 3) := by decide +kernel
theorem dX11_balance_53 : decode cX11_balance 53 = .ok (.aload_n 0, 1) := by decide +kernel
theorem dX11_balance_54 : decode cX11_balance 54 = .ok (.getfield 41, 3) := by decide +kernel
theorem dX11_balance_57 : decode cX11_balance 57 = .ok (.iload_n 1, 1) := by decide +kernel
theorem dX11_balance_58 : decode cX11_balance 58 = .ok (.iaload, 1) := by decide +kernel
theorem dX11_balance_59 : decode cX11_balance 59 = .ok (.istore_n 2, 1) := by decide +kernel
theorem dX11_balance_60 : decode cX11_balance 60 = .ok (.aload_n 0, 1) := by decide +kernel
theorem dX11_balance_61 : decode cX11_balance 61 = .ok (.getfield 44, 3) := by decide +kernel
theorem dX11_balance_64 : decode cX11_balance 64 = .ok (.iload_n 1, 1) := by decide +kernel
theorem dX11_balance_65 : decode cX11_balance 65 = .ok (.iaload, 1) := by decide +kernel
theorem dX11_balance_66 : decode cX11_balance 66 = .ok (.istore_n 3, 1) := by decide +kernel
theorem dX11_balance_67 : decode cX11_balance 67 = .ok (.aload_n 0, 1) := by decide +kernel
theorem dX11_balance_68 : decode cX11_balance 68 = .ok (.aload_n 0, 1) := by decide +kernel
theorem dX11_balance_69 : decode cX11_balance 69 = .ok (.getfield 47, 3) := by decide +kernel
theorem dX11_balance_72 : decode cX11_balance 72 = .ok (.iload_n 1, 1) := by decide +kernel
theorem dX11_balance_73 : decode cX11_balance 73 = .ok (.iload_n 2, 1) := by decide +kernel
theorem dX11_balance_74 : decode cX11_balance 74 = .ok (.invokevirtual 261, 3) := by decide +kernel
theorem dX11_balance_77 : decode cX11_balance 77 = .ok (.istore 4, 2) := by decide +kernel
theorem dX11_balance_79 : decode cX11_balance 79 = .ok (.aload_n 0, 1) := by decide +kernel
theorem dX11_balance_80 : decode cX11_balance 80 = .ok (.aload_n 0, 1) := by decide +kernel
theorem dX11_balance_81 : decode cX11_balance 81 = .ok (.getfield 50, 3) := by decide +kernel
theorem dX11_balance_84 : decode cX11_balance 84 = .ok (.iload_n 1, 1) := by decide +kernel
theorem dX11_balance_85 : decode cX11_balance 85 = .ok (.iload_n 3, 1) := by decide +kernel
theorem dX11_balance_86 : decode cX11_balance 86 = .ok (.invokevirtual 261, 3) := by decide +kernel
theorem dX11_balance_89 : decode cX11_balance 89 = .ok (.istore 5, 2) := by decide +kernel
theorem dX11_balance_91 : decode cX11_balance 91 = .ok (.iload 4, 2) := by decide +kernel
theorem dX11_balance_93 : decode cX11_balance 93 = .ok (.ifCond .ne 11, 3) := by decide +kernel
theorem dX11_balance_96 : decode cX11_balance 96 = .ok (.iload 5, 2) := by decide +kernel
theorem dX11_balance_98 : decode cX11_balance 98 = .ok (.ifCond .ne 6, 3) := by decide +kernel
theorem dX11_balance_101 : decode cX11_balance 101 = .ok (.goto 122, 3) := by decide +kernel
theorem dX11_balance_104 : decode cX11_balance 104 = .ok (.iload 4, 2) := by decide +kernel
theorem dX11_balance_106 : decode cX11_balance 106 = .ok (.ifCond .le 12, 3) := by decide +kernel
theorem dX11_balance_109 : decode cX11_balance 109 = .ok (.iload 5, 2) := by decide +kernel
theorem dX11_balance_111 : decode cX11_balance 111 = .ok (.ifCond .le 7, 3) := by decide +kernel
theorem dX11_balance_114 : decode cX11_balance 114 = .ok (.iconst 1, 1) := by decide +kernel
theorem dX11_balance_115 : decode cX11_balance 115 = .ok (.goto 4, 3) := by decide +kernel
theorem dX11_balance_118 : decode cX11_balance 118 = .ok (.iconst 0, 1) := by decide +kernel
theorem dX11_balance_119 : decode cX11_balance 119 = .ok (.istore 6, 2) := by decide +kernel
theorem dX11_balance_121 : decode cX11_balance 121 = .ok (.iload 6, 2) := by decide +kernel
theorem dX11_balance_123 : decode cX11_balance 123 = .ok (.ifCond .eq 66, 3) := by decide +kernel
theorem dX11_balance_126 : decode cX11_balance 126 = .ok (.aload_n 0, 1) := by decide +kernel
theorem dX11_balance_127 : decode cX11_balance 127 = .ok (.getfield 86, 3) := by decide +kernel
theorem dX11_balance_130 : decode cX11_balance 130 = .ok (.iload_n 2, 1) := by decide +kernel
theorem dX11_balance_131 : decode cX11_balance 131 = .ok (.iaload, 1) := by decide +kernel
theorem dX11_balance_132 : decode cX11_balance 132 = .ok (.aload_n 0, 1) := by decide +kernel
theorem dX11_balance_133 : decode cX11_balance 133 = .ok (.getfield 86, 3) := by decide +kernel
theorem dX11_balance_136 : decode cX11_balance 136 = .ok (.iload_n 3, 1) := by decide +kernel
theorem dX11_balance_137 : decode cX11_balance 137 = .ok (.iaload, 1) := by decide +kernel
theorem dX11_balance_138 : decode cX11_balance 138 = .ok (.if_icmp .ne 51, 3) := by decide +kernel
theorem dX11_balance_141 : decode cX11_balance 141 = .ok (.aload_n 0, 1) := by decide +kernel
theorem dX11_balance_142 : decode cX11_balance 142 = .ok (.getfield 89, 3) := by decide +kernel
theorem dX11_balance_145 : decode cX11_balance 145 = .ok (.iload_n 2, 1) := by decide +kernel
theorem dX11_balance_146 : decode cX11_balance 146 = .ok (.laload, 1) := by decide +kernel
theorem dX11_balance_147 : decode cX11_balance 147 = .ok (.iload 4, 2) := by decide +kernel
theorem dX11_balance_149 : decode cX11_balance 149 = .ok (.i2l, 1) := by decide +kernel
theorem dX11_balance_150 : decode cX11_balance 150 = .ok (.lmul, 1) := by decide +kernel
theorem dX11_balance_151 : decode cX11_balance 151 = .ok (.aload_n 0, 1) := by decide +kernel
theorem dX11_balance_152 : decode cX11_balance 152 = .ok (.getfield 92, 3) := by decide +kernel
theorem dX11_balance_155 : decode cX11_balance 155 = .ok (.iload_n 3, 1) := by decide +kernel
theorem dX11_balance_156 : decode cX11_balance 156 = .ok (.laload, 1) := by decide +kernel
theorem dX11_balance_157 : decode cX11_balance 157 = .ok (.lmul, 1) := by decide +kernel
theorem dX11_balance_158 : decode cX11_balance 158 = .ok (.aload_n 0, 1) := by decide +kernel
theorem dX11_balance_159 : decode cX11_balance 159 = .ok (.getfield 89, 3) := by decide +kernel
theorem dX11_balance_162 : decode cX11_balance 162 = .ok (.iload_n 3, 1) := by decide +kernel
theorem dX11_balance_163 : decode cX11_balance 163 = .ok (.laload, 1) := by decide +kernel
theorem dX11_balance_164 : decode cX11_balance 164 = .ok (.iload 5, 2) := by decide +kernel
theorem dX11_balance_166 : decode cX11_balance 166 = .ok (.i2l, 1) := by decide +kernel
theorem dX11_balance_167 : decode cX11_balance 167 = .ok (.lmul, 1) := by decide +kernel
theorem dX11_balance_168 : decode cX11_balance 168 = .ok (.aload_n 0, 1) := by decide +kernel
theorem dX11_balance_169 : decode cX11_balance 169 = .ok (.getfield 92, 3) := by decide +kernel
theorem dX11_balance_172 : decode cX11_balance 172 = .ok (.iload_n 2, 1) := by decide +kernel
theorem dX11_balance_173 : decode cX11_balance 173 = .ok (.laload, 1) := by decide +kernel
theorem dX11_balance_174 : decode cX11_balance 174 = .ok (.lmul, 1) := by decide +kernel
theorem dX11_balance_175 : decode cX11_balance 175 = .ok (.lcmp, 1) := by decide +kernel
theorem dX11_balance_176 : decode cX11_balance 176 = .ok (.ifCond .ne 7, 3) := by decide +kernel
theorem dX11_balance_179 : decode cX11_balance 179 = .ok (.iconst 1, 1) := by decide +kernel
theorem dX11_balance_180 : decode cX11_balance 180 = .ok (.goto 4, 3) := by decide +kernel
theorem dX11_balance_183 : decode cX11_balance 183 = .ok (.iconst 0, 1) := by decide +kernel
theorem dX11_balance_184 : decode cX11_balance 184 = .ok (.istore 6, 2) := by decide +kernel
theorem dX11_balance_186 : decode cX11_balance 186 = .ok (.goto 24, 3) := by decide +kernel
theorem dX11_balance_189 : decode cX11_balance 189 = .ok (.iload 6, 2) := by decide +kernel
theorem dX11_balance_191 : decode cX11_balance 191 = .ok (.ifCond .eq 19, 3) := by decide +kernel
theorem dX11_balance_194 : decode cX11_balance 194 = .ok (.aload_n 0, 1) := by decide +kernel
theorem dX11_balance_195 : decode cX11_balance 195 = .ok (.iload_n 2, 1) := by decide +kernel
theorem dX11_balance_196 : decode cX11_balance 196 = .ok (.iload 4, 2) := by decide +kernel
theorem dX11_balance_198 : decode cX11_balance 198 = .ok (.iload_n 3, 1) := by decide +kernel
theorem dX11_balance_199 : decode cX11_balance 199 = .ok (.iload 5, 2) := by decide +kernel
theorem dX11_balance_201 : decode cX11_balance 201 = .ok (.invokevirtual 265, 3) := by decide +kernel
theorem dX11_balance_204 : decode cX11_balance 204 = .ok (.ifCond .ne 6, 3) := by decide +kernel
theorem dX11_balance_207 : decode cX11_balance 207 = .ok (.bipush (-6), 2) := by decide +kernel
theorem dX11_balance_209 : decode cX11_balance 209 = .ok (.ireturn, 1) := by decide +kernel
theorem dX11_balance_210 : decode cX11_balance 210 = .ok (.iload 6, 2) := by decide +kernel
theorem dX11_balance_212 : decode cX11_balance 212 = .ok (.ifCond .ne 11, 3) := by decide +kernel
theorem dX11_balance_215 : decode cX11_balance 215 = .ok (.aload_n 0, 1) := by decide +kernel
theorem dX11_balance_216 : decode cX11_balance 216 = .ok (.iload_n 1, 1) := by decide +kernel
theorem dX11_balance_217 : decode cX11_balance 217 = .ok (.putfield 258, 3) := by decide +kernel
theorem dX11_balance_220 : decode cX11_balance 220 = .ok (.bipush (-9), 2) := by decide +kernel
theorem dX11_balance_222 : decode cX11_balance 222 = .ok (.ireturn, 1) := by decide +kernel
theorem dX11_balance_223 : decode cX11_balance 223 = .ok (.iinc 1 1, 3) := by decide +kernel
theorem dX11_balance_226 : decode cX11_balance 226 = .ok (.goto (-181), 3) := by decide +kernel
theorem dX11_balance_229 : decode cX11_balance 229 = .ok (.aload_n 0, 1) := by decide +kernel
theorem dX11_balance_230 : decode cX11_balance 230 = .ok (.invokevirtual 269, 3) := by decide +kernel
theorem dX11_balance_233 : decode cX11_balance 233 = .ok (.ireturn, 1) := by decide +kernel
theorem dX11_counts_0 : decode cX11_counts 0 = .ok (.aload_n 0, 1) := by decide +kernel
theorem dX11_counts_1 : decode cX11_counts 1 = .ok (.iconst 0, 1) := by decide +kernel
theorem dX11_counts_2 : decode cX11_counts 2 = .ok (.putfield 273, 3) := by decide +kernel
theorem dX11_counts_5 : decode cX11_counts 5 = .ok (.iconst 1, 1) := by decide +kernel
theorem dX11_counts_6 : decode cX11_counts 6 = .ok (.istore_n 1, 1) := by decide +kernel
theorem dX11_counts_7 : decode cX11_counts 7 = .ok (.iconst 0, 1) := by decide +kernel
theorem dX11_counts_8 : decode cX11_counts 8 = .ok (.istore_n 2, 1) := by decide +kernel
theorem dX11_counts_9 : decode cX11_counts 9 = .ok (.iload_n 2, 1) := by decide +kernel
theorem dX11_counts_10 : decode cX11_counts 10 = .ok (.aload_n 0, 1) := by decide +kernel
theorem dX11_counts_11 : decode cX11_counts 11 = .ok (.getfield 202, 3) := by decide +kernel
theorem dX11_counts_14 : decode cX11_counts 14 = .ok (.if_icmp .ge 169, 3) := by decide +kernel
theorem dX11_counts_17 : decode cX11_counts 17 = .ok (.lconst 1, 1) := by decide +kernel
theorem dX11_counts_18 : decode cX11_counts 18 = .ok (.lstore_n 3, 1) := by decide +kernel
theorem dX11_counts_19 : decode cX11_counts 19 = .ok (.iconst 0, 1) := by decide +kernel
theorem dX11_counts_20 : decode cX11_counts 20 = .ok (.istore 5, 2) := by decide +kernel
theorem dX11_counts_22 : decode cX11_counts 22 = .ok (.iload 5, 2) := by decide +kernel
theorem dX11_counts_24 : decode cX11_counts 24 = .ok (.aload_n 0, 1) := by decide +kernel
theorem dX11_counts_25 : decode cX11_counts 25 = .ok (.getfield 202, 3) := by decide +kernel
theorem dX11_counts_28 : decode cX11_counts 28 = .ok (.if_icmp .ge 59, 3) := by decide +kernel
theorem dX11_counts_31 : decode cX11_counts 31 = .ok (.lload_n 3, 1) := by decide +kernel
theorem dX11_counts_32 : decode cX11_counts 32 = .ok (.ldc2_w 276, 3) := by decide +kernel
theorem dX11_counts_35 : decode cX11_counts 35 = .ok (.lcmp, 1) := by decide +kernel
theorem dX11_counts_36 : decode cX11_counts 36 = .ok (.ifCond .gt 51, 3) := by decide +kernel
theorem dX11_counts_39 : decode cX11_counts 39 = .ok (.aload_n 0, 1) := by decide +kernel
theorem dX11_counts_40 : decode cX11_counts 40 = .ok (.getfield 86, 3) := by decide +kernel
theorem dX11_counts_43 : decode cX11_counts 43 = .ok (.iload 5, 2) := by decide +kernel
theorem dX11_counts_45 : decode cX11_counts 45 = .ok (.iaload, 1) := by decide +kernel
theorem dX11_counts_46 : decode cX11_counts 46 = .ok (.aload_n 0, 1) := by decide +kernel
theorem dX11_counts_47 : decode cX11_counts 47 = .ok (.getfield 86, 3) := by decide +kernel
theorem dX11_counts_50 : decode cX11_counts 50 = .ok (.iload_n 2, 1) := by decide +kernel
theorem dX11_counts_51 : decode cX11_counts 51 = .ok (.iaload, 1) := by decide +kernel
theorem dX11_counts_52 : decode cX11_counts 52 = .ok (.if_icmp .ne 27, 3) := by decide +kernel
theorem dX11_counts_55 : decode cX11_counts 55 = .ok (.lload_n 3, 1) := by decide +kernel
theorem dX11_counts_56 : decode cX11_counts 56 = .ok (.lload_n 3, 1) := by decide +kernel
theorem dX11_counts_57 : decode cX11_counts 57 = .ok (.aload_n 0, 1) := by decide +kernel
theorem dX11_counts_58 : decode cX11_counts 58 = .ok (.getfield 92, 3) := by decide +kernel
theorem dX11_counts_61 : decode cX11_counts 61 = .ok (.iload 5, 2) := by decide +kernel
theorem dX11_counts_63 : decode cX11_counts 63 = .ok (.laload, 1) := by decide +kernel
theorem dX11_counts_64 : decode cX11_counts 64 = .ok (.invokestatic 248, 3) := by decide +kernel
theorem dX11_counts_67 : decode cX11_counts 67 = .ok (.ldiv, 1) := by decide +kernel
theorem dX11_counts_68 : decode cX11_counts 68 = .ok (.aload_n 0, 1) := by decide +kernel
theorem dX11_counts_69 : decode cX11_counts 69 = .ok (.getfield 92, 3) := by decide +kernel
theorem dX11_counts_72 : decode cX11_counts 72 = .ok (.iload 5, 2) := by decide +kernel
theorem dX11_counts_74 : decode cX11_counts 74 = .ok (.laload, 1) := by decide +kernel
theorem dX11_counts_75 : decode cX11_counts 75 = .ok (.lmul, 1) := by decide +kernel
theorem dX11_counts_76 : decode cX11_counts 76 = .ok (.goto 4, 3) := by decide +kernel
theorem dX11_counts_79 : decode cX11_counts 79 = .ok (.lload_n 3, 1) := by decide +kernel
theorem dX11_counts_80 : decode cX11_counts 80 = .ok (.lstore_n 3, 1) := by decide +kernel
theorem dX11_counts_81 : decode cX11_counts 81 = .ok (.iinc 5 1, 3) := by decide +kernel
theorem dX11_counts_84 : decode cX11_counts 84 = .ok (.goto (-62), 3) := by decide +kernel
theorem dX11_counts_87 : decode cX11_counts 87 = .ok (.lload_n 3, 1) := by decide +kernel
theorem dX11_counts_88 : decode cX11_counts 88 = .ok (.ldc2_w 276, 3) := by decide +kernel
theorem dX11_counts_91 : decode cX11_counts 91 = .ok (.lcmp, 1) := by decide +kernel
theorem dX11_counts_92 : decode cX11_counts 92 = .ok (.ifCond .gt 29, 3) := by decide +kernel
theorem dX11_counts_95 : decode cX11_counts 95 = .ok (.lload_n 3, 1) := by decide +kernel
theorem dX11_counts_96 : decode cX11_counts 96 = .ok (.aload_n 0, 1) := by decide +kernel
theorem dX11_counts_97 : decode cX11_counts 97 = .ok (.getfield 89, 3) := by decide +kernel
theorem dX11_counts_100 : decode cX11_counts 100 = .ok (.iload_n 2, 1) := by decide +kernel
theorem dX11_counts_101 : decode cX11_counts 101 = .ok (.laload, 1) := by decide +kernel
theorem dX11_counts_102 : decode cX11_counts 102 = .ok (.lmul, 1) := by decide +kernel
theorem dX11_counts_103 : decode cX11_counts 103 = .ok (.aload_n 0, 1) := by decide +kernel
theorem dX11_counts_104 : decode cX11_counts 104 = .ok (.getfield 92, 3) := by decide +kernel
theorem dX11_counts_107 : decode cX11_counts 107 = .ok (.iload_n 2, 1) := by decide +kernel
theorem dX11_counts_108 : decode cX11_counts 108 = .ok (.laload, 1) := by decide +kernel
theorem dX11_counts_109 : decode cX11_counts 109 = .ok (.ldiv, 1) := by decide +kernel
theorem dX11_counts_110 : decode cX11_counts 110 = .ok (.aload_n 0, 1) := by decide +kernel
theorem dX11_counts_111 : decode cX11_counts 111 = .ok (.getfield 20, 3) := by decide +kernel
theorem dX11_counts_114 : decode cX11_counts 114 = .ok (.iload_n 2, 1) := by decide +kernel
theorem dX11_counts_115 : decode cX11_counts 115 = .ok (.iaload, 1) := by decide +kernel
theorem dX11_counts_116 : decode cX11_counts 116 = .ok (.i2l, 1) := by decide +kernel
theorem dX11_counts_117 : decode cX11_counts 117 = .ok (.lmul, 1) := by decide +kernel
theorem dX11_counts_118 : decode cX11_counts 118 = .ok (.goto 6, 3) := by decide +kernel
theorem dX11_counts_121 : decode cX11_counts 121 = .ok (.ldc2_w 278, 3) := by decide +kernel
theorem dX11_counts_124 : decode cX11_counts 124 = .ok (.lstore 5, 2) := by decide +kernel
theorem dX11_counts_126 : decode cX11_counts 126 = .ok (.iload_n 1, 1) := by decide +kernel
theorem dX11_counts_127 : decode cX11_counts 127 = .ok (.ifCond .eq 16, 3) := by decide +kernel
theorem dX11_counts_130 : decode cX11_counts 130 = .ok (.lload 5, 2) := by decide +kernel
theorem dX11_counts_132 : decode cX11_counts 132 = .ok (.ldc2_w 276, 3) := by decide +kernel
theorem dX11_counts_135 : decode cX11_counts 135 = .ok (.lcmp, 1) := by decide +kernel
theorem dX11_counts_136 : decode cX11_counts 136 = .ok (.ifCond .gt 7, 3) := by decide +kernel
theorem dX11_counts_139 : decode cX11_counts 139 = .ok (.iconst 1, 1) := by decide +kernel
theorem dX11_counts_140 : decode cX11_counts 140 = .ok (.goto 4, 3) := by decide +kernel
theorem dX11_counts_143 : decode cX11_counts 143 = .ok (.iconst 0, 1) := by decide +kernel
theorem dX11_counts_144 : decode cX11_counts 144 = .ok (.istore_n 1, 1) := by decide +kernel
theorem dX11_counts_145 : decode cX11_counts 145 = .ok (.aload_n 0, 1) := by decide +kernel
theorem dX11_counts_146 : decode cX11_counts 146 = .ok (.getfield 95, 3) := by decide +kernel
theorem dX11_counts_149 : decode cX11_counts 149 = .ok (.iload_n 2, 1) := by decide +kernel
theorem dX11_counts_150 : decode cX11_counts 150 = .ok (.iload_n 1, 1) := by decide +kernel
theorem dX11_counts_151 : decode cX11_counts 151 = .ok (.ifCond .eq 9, 3) := by decide +kernel
theorem dX11_counts_154 : decode cX11_counts 154 = .ok (.lload 5, 2) := by decide +kernel
theorem dX11_counts_156 : decode cX11_counts 156 = .ok (.l2i, 1) := by decide +kernel
theorem dX11_counts_157 : decode cX11_counts 157 = .ok (.goto 4, 3) := by decide +kernel
theorem dX11_counts_160 : decode cX11_counts 160 = .ok (.iconst 0, 1) := by decide +kernel
theorem dX11_counts_161 : decode cX11_counts 161 = .ok (.iastore, 1) := by decide +kernel
theorem dX11_counts_162 : decode cX11_counts 162 = .ok (.aload_n 0, 1) := by decide +kernel
theorem dX11_counts_163 : decode cX11_counts 163 = .ok (.dup, 1) := by decide +kernel
theorem dX11_counts_164 : decode cX11_counts 164 = .ok (.getfield 273, 3) := by decide +kernel
theorem dX11_counts_167 : decode cX11_counts 167 = .ok (.aload_n 0, 1) := by decide +kernel
theorem dX11_counts_168 : decode cX11_counts 168 = .ok (.getfield 95, 3) := by decide +kernel
theorem dX11_counts_171 : decode cX11_counts 171 = .ok (.iload_n 2, 1) := by decide +kernel
theorem dX11_counts_172 : decode cX11_counts 172 = .ok (.iaload, 1) := by decide +kernel
theorem dX11_counts_173 : decode cX11_counts 173 = .ok (.iadd, 1) := by decide +kernel
theorem dX11_counts_174 : decode cX11_counts 174 = .ok (.putfield 273, 3) := by decide +kernel
theorem dX11_counts_177 : decode cX11_counts 177 = .ok (.iinc 2 1, 3) := by decide +kernel
theorem dX11_counts_180 : decode cX11_counts 180 = .ok (.goto (-171), 3) := by decide +kernel
theorem dX11_counts_183 : decode cX11_counts 183 = .ok (.iload_n 1, 1) := by decide +kernel
theorem dX11_counts_184 : decode cX11_counts 184 = .ok (.ifCond .eq 17, 3) := by decide +kernel
theorem dX11_counts_187 : decode cX11_counts 187 = .ok (.aload_n 0, 1) := by decide +kernel
theorem dX11_counts_188 : decode cX11_counts 188 = .ok (.getfield 273, 3) := by decide +kernel
theorem dX11_counts_191 : decode cX11_counts 191 = .ok (.sipush 2000, 3) := by decide +kernel
theorem dX11_counts_194 : decode cX11_counts 194 = .ok (.if_icmp .gt 7, 3) := by decide +kernel
theorem dX11_counts_197 : decode cX11_counts 197 = .ok (.iconst 1, 1) := by decide +kernel
theorem dX11_counts_198 : decode cX11_counts 198 = .ok (.goto 5, 3) := by decide +kernel
theorem dX11_counts_201 : decode cX11_counts 201 = .ok (.bipush (-6), 2) := by decide +kernel
theorem dX11_counts_203 : decode cX11_counts 203 = .ok (.ireturn, 1) := by decide +kernel
theorem dX11_round_0 : decode cX11_round 0 = .ok (.aload_n 0, 1) := by decide +kernel
theorem dX11_round_1 : decode cX11_round 1 = .ok (.getfield 202, 3) := by decide +kernel
theorem dX11_round_4 : decode cX11_round 4 = .ok (.ifCond .ne 6, 3) := by decide +kernel
theorem dX11_round_7 : decode cX11_round 7 = .ok (.bipush (-4), 2) := by decide +kernel
theorem dX11_round_9 : decode cX11_round 9 = .ok (.ireturn, 1) := by decide +kernel
theorem dX11_round_10 : decode cX11_round 10 = .ok (.aload_n 0, 1) := by decide +kernel
theorem dX11_round_11 : decode cX11_round 11 = .ok (.invokevirtual 280, 3) := by decide +kernel
theorem dX11_round_14 : decode cX11_round 14 = .ok (.istore_n 1, 1) := by decide +kernel
theorem dX11_round_15 : decode cX11_round 15 = .ok (.iload_n 1, 1) := by decide +kernel
theorem dX11_round_16 : decode cX11_round 16 = .ok (.iconst 1, 1) := by decide +kernel
theorem dX11_round_17 : decode cX11_round 17 = .ok (.if_icmp .ne 10, 3) := by decide +kernel
theorem dX11_round_20 : decode cX11_round 20 = .ok (.aload_n 0, 1) := by decide +kernel
theorem dX11_round_21 : decode cX11_round 21 = .ok (.getfield 273, 3) := by decide +kernel
theorem dX11_round_24 : decode cX11_round 24 = .ok (.goto 4, 3) := by decide +kernel
theorem dX11_round_27 : decode cX11_round 27 = .ok (.iload_n 1, 1) := by decide +kernel
theorem dX11_round_28 : decode cX11_round 28 = .ok (.ireturn, 1) := by decide +kernel
theorem dX11_firings_0 : decode cX11_firings 0 = .ok (.aload_n 0, 1) := by decide +kernel
theorem dX11_firings_1 : decode cX11_firings 1 = .ok (.iload_n 1, 1) := by decide +kernel
theorem dX11_firings_2 : decode cX11_firings 2 = .ok (.invokevirtual 228, 3) := by decide +kernel
theorem dX11_firings_5 : decode cX11_firings 5 = .ok (.ifCond .ne 5, 3) := by decide +kernel
theorem dX11_firings_8 : decode cX11_firings 8 = .ok (.iconst (-1), 1) := by decide +kernel
theorem dX11_firings_9 : decode cX11_firings 9 = .ok (.ireturn, 1) := by decide +kernel
theorem dX11_firings_10 : decode cX11_firings 10 = .ok (.aload_n 0, 1) := by decide +kernel
theorem dX11_firings_11 : decode cX11_firings 11 = .ok (.invokevirtual 280, 3) := by decide +kernel
theorem dX11_firings_14 : decode cX11_firings 14 = .ok (.istore_n 2, 1) := by decide +kernel
theorem dX11_firings_15 : decode cX11_firings 15 = .ok (.iload_n 2, 1) := by decide +kernel
theorem dX11_firings_16 : decode cX11_firings 16 = .ok (.iconst 1, 1) := by decide +kernel
theorem dX11_firings_17 : decode cX11_firings 17 = .ok (.if_icmp .ne 12, 3) := by decide +kernel
theorem dX11_firings_20 : decode cX11_firings 20 = .ok (.aload_n 0, 1) := by decide +kernel
theorem dX11_firings_21 : decode cX11_firings 21 = .ok (.getfield 95, 3) := by decide +kernel
theorem dX11_firings_24 : decode cX11_firings 24 = .ok (.iload_n 1, 1) := by decide +kernel
theorem dX11_firings_25 : decode cX11_firings 25 = .ok (.iaload, 1) := by decide +kernel
theorem dX11_firings_26 : decode cX11_firings 26 = .ok (.goto 4, 3) := by decide +kernel
theorem dX11_firings_29 : decode cX11_firings 29 = .ok (.iload_n 2, 1) := by decide +kernel
theorem dX11_firings_30 : decode cX11_firings 30 = .ok (.ireturn, 1) := by decide +kernel
theorem dX11_uneven_0 : decode cX11_uneven 0 = .ok (.aload_n 0, 1) := by decide +kernel
theorem dX11_uneven_1 : decode cX11_uneven 1 = .ok (.getfield 202, 3) := by decide +kernel
theorem dX11_uneven_4 : decode cX11_uneven 4 = .ok (.ifCond .ne 6, 3) := by decide +kernel
theorem dX11_uneven_7 : decode cX11_uneven 7 = .ok (.bipush (-4), 2) := by decide +kernel
theorem dX11_uneven_9 : decode cX11_uneven 9 = .ok (.ireturn, 1) := by decide +kernel
theorem dX11_uneven_10 : decode cX11_uneven 10 = .ok (.aload_n 0, 1) := by decide +kernel
theorem dX11_uneven_11 : decode cX11_uneven 11 = .ok (.invokevirtual 280, 3) := by decide +kernel
theorem dX11_uneven_14 : decode cX11_uneven 14 = .ok (.istore_n 1, 1) := by decide +kernel
theorem dX11_uneven_15 : decode cX11_uneven 15 = .ok (.aload_n 0, 1) := by decide +kernel
theorem dX11_uneven_16 : decode cX11_uneven 16 = .ok (.getfield 258, 3) := by decide +kernel
theorem dX11_uneven_19 : decode cX11_uneven 19 = .ok (.ireturn, 1) := by decide +kernel
theorem dX11_markFirst_0 : decode cX11_markFirst 0 = .ok (.iconst 0, 1) := by decide +kernel
theorem dX11_markFirst_1 : decode cX11_markFirst 1 = .ok (.istore_n 2, 1) := by decide +kernel
theorem dX11_markFirst_2 : decode cX11_markFirst 2 = .ok (.iload_n 2, 1) := by decide +kernel
theorem dX11_markFirst_3 : decode cX11_markFirst 3 = .ok (.aload_n 0, 1) := by decide +kernel
theorem dX11_markFirst_4 : decode cX11_markFirst 4 = .ok (.getfield 209, 3) := by decide +kernel
theorem dX11_markFirst_7 : decode cX11_markFirst 7 = .ok (.if_icmp .ge 36, 3) := by decide +kernel
theorem dX11_markFirst_10 : decode cX11_markFirst 10 = .ok (.aload_n 0, 1) := by decide +kernel
theorem dX11_markFirst_11 : decode cX11_markFirst 11 = .ok (.getfield 98, 3) := by decide +kernel
theorem dX11_markFirst_14 : decode cX11_markFirst 14 = .ok (.iload_n 2, 1) := by decide +kernel
theorem dX11_markFirst_15 : decode cX11_markFirst 15 = .ok (.aload_n 0, 1) := by decide +kernel
theorem dX11_markFirst_16 : decode cX11_markFirst 16 = .ok (.getfield 53, 3) := by decide +kernel
theorem dX11_markFirst_19 : decode cX11_markFirst 19 = .ok (.iload_n 2, 1) := by decide +kernel
theorem dX11_markFirst_20 : decode cX11_markFirst 20 = .ok (.iaload, 1) := by decide +kernel
theorem dX11_markFirst_21 : decode cX11_markFirst 21 = .ok (.iload_n 1, 1) := by decide +kernel
theorem dX11_markFirst_22 : decode cX11_markFirst 22 = .ok (.ifCond .eq 12, 3) := by decide +kernel
