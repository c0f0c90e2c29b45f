theorem dX11_init_0 : decode cX11_init 0 = .ok (.aload_n 0, 1) := by decide +kernel
theorem dX11_init_1 : decode cX11_init 1 = .ok (.invokespecial 1, 3) := by decide +kernel
theorem dX11_init_4 : decode cX11_init 4 = .ok (.aload_n 0, 1) := by decide +kernel
theorem dX11_init_5 : decode cX11_init 5 = .ok (.sipush 800, 3) := by decide +kernel
theorem dX11_init_8 : decode cX11_init 8 = .ok (.newarray .int, 2) := by decide +kernel
theorem dX11_init_10 : decode cX11_init 10 = .ok (.putfield 7, 3) := by decide +kernel
theorem dX11_init_13 : decode cX11_init 13 = .ok (.aload_n 0, 1) := by decide +kernel
theorem dX11_init_14 : decode cX11_init 14 = .ok (.sipush 802, 3) := by decide +kernel
theorem dX11_init_17 : decode cX11_init 17 = .ok (.newarray .int, 2) := by decide +kernel
theorem dX11_init_19 : decode cX11_init 19 = .ok (.putfield 13, 3) := by decide +kernel
theorem dX11_init_22 : decode cX11_init 22 = .ok (.aload_n 0, 1) := by decide +kernel
theorem dX11_init_23 : decode cX11_init 23 = .ok (.sipush 802, 3) := by decide +kernel
theorem dX11_init_26 : decode cX11_init 26 = .ok (.newarray .int, 2) := by decide +kernel
theorem dX11_init_28 : decode cX11_init 28 = .ok (.putfield 16, 3) := by decide +kernel
theorem dX11_init_31 : decode cX11_init 31 = .ok (.aload_n 0, 1) := by decide +kernel
theorem dX11_init_32 : decode cX11_init 32 = .ok (.sipush 802, 3) := by decide +kernel
theorem dX11_init_35 : decode cX11_init 35 = .ok (.newarray .long, 2) := by decide +kernel
theorem dX11_init_37 : decode cX11_init 37 = .ok (.putfield 19, 3) := by decide +kernel
theorem dX11_init_40 : decode cX11_init 40 = .ok (.aload_n 0, 1) := by decide +kernel
theorem dX11_init_41 : decode cX11_init 41 = .ok (.iconst 4, 1) := by decide +kernel
theorem dX11_init_42 : decode cX11_init 42 = .ok (.newarray .int, 2) := by decide +kernel
theorem dX11_init_44 : decode cX11_init 44 = .ok (.putfield 23, 3) := by decide +kernel
theorem dX11_init_47 : decode cX11_init 47 = .ok (.aload_n 0, 1) := by decide +kernel
theorem dX11_init_48 : decode cX11_init 48 = .ok (.iconst 4, 1) := by decide +kernel
theorem dX11_init_49 : decode cX11_init 49 = .ok (.newarray .int, 2) := by decide +kernel
theorem dX11_init_51 : decode cX11_init 51 = .ok (.putfield 26, 3) := by decide +kernel
theorem dX11_init_54 : decode cX11_init 54 = .ok (.aload_n 0, 1) := by decide +kernel
theorem dX11_init_55 : decode cX11_init 55 = .ok (.iconst 4, 1) := by decide +kernel
theorem dX11_init_56 : decode cX11_init 56 = .ok (.newarray .int, 2) := by decide +kernel
theorem dX11_init_58 : decode cX11_init 58 = .ok (.putfield 29, 3) := by decide +kernel
theorem dX11_init_61 : decode cX11_init 61 = .ok (.aload_n 0, 1) := by decide +kernel
theorem dX11_init_62 : decode cX11_init 62 = .ok (.bipush 64, 2) := by decide +kernel
theorem dX11_init_64 : decode cX11_init 64 = .ok (.newarray .long, 2) := by decide +kernel
theorem dX11_init_66 : decode cX11_init 66 = .ok (.putfield 32, 3) := by decide +kernel
theorem dX11_init_69 : decode cX11_init 69 = .ok (.aload_n 0, 1) := by decide +kernel
theorem dX11_init_70 : decode cX11_init 70 = .ok (.bipush 64, 2) := by decide +kernel
theorem dX11_init_72 : decode cX11_init 72 = .ok (.newarray .int, 2) := by decide +kernel
theorem dX11_init_74 : decode cX11_init 74 = .ok (.putfield 35, 3) := by decide +kernel
theorem dX11_init_77 : decode cX11_init 77 = .ok (.aload_n 0, 1) := by decide +kernel
theorem dX11_init_78 : decode cX11_init 78 = .ok (.bipush 64, 2) := by decide +kernel
theorem dX11_init_80 : decode cX11_init 80 = .ok (.newarray .int, 2) := by decide +kernel
theorem dX11_init_82 : decode cX11_init 82 = .ok (.putfield 38, 3) := by decide +kernel
theorem dX11_init_85 : decode cX11_init 85 = .ok (.aload_n 0, 1) := by decide +kernel
theorem dX11_init_86 : decode cX11_init 86 = .ok (.bipush 64, 2) := by decide +kernel
theorem dX11_init_88 : decode cX11_init 88 = .ok (.newarray .boolean, 2) := by decide +kernel
theorem dX11_init_90 : decode cX11_init 90 = .ok (.putfield 41, 3) := by decide +kernel
theorem dX11_init_93 : decode cX11_init 93 = .ok (.aload_n 0, 1) := by decide +kernel
theorem dX11_init_94 : decode cX11_init 94 = .ok (.bipush 16, 2) := by decide +kernel
theorem dX11_init_96 : decode cX11_init 96 = .ok (.newarray .int, 2) := by decide +kernel
theorem dX11_init_98 : decode cX11_init 98 = .ok (.putfield 45, 3) := by decide +kernel
theorem dX11_init_101 : decode cX11_init 101 = .ok (.aload_n 0, 1) := by decide +kernel
theorem dX11_init_102 : decode cX11_init 102 = .ok (.bipush 24, 2) := by decide +kernel
theorem dX11_init_104 : decode cX11_init 104 = .ok (.newarray .long, 2) := by decide +kernel
theorem dX11_init_106 : decode cX11_init 106 = .ok (.putfield 48, 3) := by decide +kernel
theorem dX11_init_109 : decode cX11_init 109 = .ok (.aload_n 0, 1) := by decide +kernel
theorem dX11_init_110 : decode cX11_init 110 = .ok (.bipush 24, 2) := by decide +kernel
theorem dX11_init_112 : decode cX11_init 112 = .ok (.newarray .long, 2) := by decide +kernel
theorem dX11_init_114 : decode cX11_init 114 = .ok (.putfield 51, 3) := by decide +kernel
theorem dX11_init_117 : decode cX11_init 117 = .ok (.aload_n 0, 1) := by decide +kernel
theorem dX11_init_118 : decode cX11_init 118 = .ok (.iconst 4, 1) := by decide +kernel
theorem dX11_init_119 : decode cX11_init 119 = .ok (.newarray .int, 2) := by decide +kernel
theorem dX11_init_121 : decode cX11_init 121 = .ok (.putfield 54, 3) := by decide +kernel
theorem dX11_init_124 : decode cX11_init 124 = .ok (.aload_n 0, 1) := by decide +kernel
theorem dX11_init_125 : decode cX11_init 125 = .ok (.sipush 1640, 3) := by decide +kernel
theorem dX11_init_128 : decode cX11_init 128 = .ok (.newarray .int, 2) := by decide +kernel
theorem dX11_init_130 : decode cX11_init 130 = .ok (.putfield 57, 3) := by decide +kernel
theorem dX11_init_133 : decode cX11_init 133 = .ok (.aload_n 0, 1) := by decide +kernel
theorem dX11_init_134 : decode cX11_init 134 = .ok (.sipush 1640, 3) := by decide +kernel
theorem dX11_init_137 : decode cX11_init 137 = .ok (.newarray .int, 2) := by decide +kernel
theorem dX11_init_139 : decode cX11_init 139 = .ok (.putfield 60, 3) := by decide +kernel
theorem dX11_init_142 : decode cX11_init 142 = .ok (.aload_n 0, 1) := by decide +kernel
theorem dX11_init_143 : decode cX11_init 143 = .ok (.sipush 1640, 3) := by decide +kernel
theorem dX11_init_146 : decode cX11_init 146 = .ok (.newarray .int, 2) := by decide +kernel
theorem dX11_init_148 : decode cX11_init 148 = .ok (.putfield 63, 3) := by decide +kernel
theorem dX11_init_151 : decode cX11_init 151 = .ok (.aload_n 0, 1) := by decide +kernel
theorem dX11_init_152 : decode cX11_init 152 = .ok (.iconst 4, 1) := by decide +kernel
theorem dX11_init_153 : decode cX11_init 153 = .ok (.newarray .int, 2) := by decide +kernel
theorem dX11_init_155 : decode cX11_init 155 = .ok (.putfield 66, 3) := by decide +kernel
theorem dX11_init_158 : decode cX11_init 158 = .ok (.aload_n 0, 1) := by decide +kernel
theorem dX11_init_159 : decode cX11_init 159 = .ok (.sipush 3240, 3) := by decide +kernel
theorem dX11_init_162 : decode cX11_init 162 = .ok (.newarray .int, 2) := by decide +kernel
theorem dX11_init_164 : decode cX11_init 164 = .ok (.putfield 69, 3) := by decide +kernel
theorem dX11_init_167 : decode cX11_init 167 = .ok (.aload_n 0, 1) := by decide +kernel
theorem dX11_init_168 : decode cX11_init 168 = .ok (.sipush 3240, 3) := by decide +kernel
theorem dX11_init_171 : decode cX11_init 171 = .ok (.newarray .long, 2) := by decide +kernel
theorem dX11_init_173 : decode cX11_init 173 = .ok (.putfield 72, 3) := by decide +kernel
theorem dX11_init_176 : decode cX11_init 176 = .ok (.aload_n 0, 1) := by decide +kernel
theorem dX11_init_177 : decode cX11_init 177 = .ok (.sipush 3240, 3) := by decide +kernel
theorem dX11_init_180 : decode cX11_init 180 = .ok (.newarray .int, 2) := by decide +kernel
theorem dX11_init_182 : decode cX11_init 182 = .ok (.putfield 75, 3) := by decide +kernel
theorem dX11_init_185 : decode cX11_init 185 = .ok (.aload_n 0, 1) := by decide +kernel
theorem dX11_init_186 : decode cX11_init 186 = .ok (.sipush 900, 3) := by decide +kernel
theorem dX11_init_189 : decode cX11_init 189 = .ok (.newarray .int, 2) := by decide +kernel
theorem dX11_init_191 : decode cX11_init 191 = .ok (.putfield 78, 3) := by decide +kernel
theorem dX11_init_194 : decode cX11_init 194 = .ok (.aload_n 0, 1) := by decide +kernel
theorem dX11_init_195 : decode cX11_init 195 = .ok (.sipush 900, 3) := by decide +kernel
theorem dX11_init_198 : decode cX11_init 198 = .ok (.newarray .int, 2) := by decide +kernel
theorem dX11_init_200 : decode cX11_init 200 = .ok (.putfield 81, 3) := by decide +kernel
theorem dX11_init_203 : decode cX11_init 203 = .ok (.aload_n 0, 1) := by decide +kernel
theorem dX11_init_204 : decode cX11_init 204 = .ok (.iconst 4, 1) := by decide +kernel
theorem dX11_init_205 : decode cX11_init 205 = .ok (.newarray .int, 2) := by decide +kernel
theorem dX11_init_207 : decode cX11_init 207 = .ok (.putfield 84, 3) := by decide +kernel
theorem dX11_init_210 : decode cX11_init 210 = .ok (.aload_n 0, 1) := by decide +kernel
theorem dX11_init_211 : decode cX11_init 211 = .ok (.iconst 4, 1) := by decide +kernel
theorem dX11_init_212 : decode cX11_init 212 = .ok (.newarray .int, 2) := by decide +kernel
theorem dX11_init_214 : decode cX11_init 214 = .ok (.putfield 87, 3) := by decide +kernel
theorem dX11_init_217 : decode cX11_init 217 = .ok (.aload_n 0, 1) := by decide +kernel
theorem dX11_init_218 : decode cX11_init 218 = .ok (.iconst 4, 1) := by decide +kernel
theorem dX11_init_219 : decode cX11_init 219 = .ok (.newarray .int, 2) := by decide +kernel
theorem dX11_init_221 : decode cX11_init 221 = .ok (.putfield 90, 3) := by decide +kernel
theorem dX11_init_224 : decode cX11_init 224 = .ok (.aload_n 0, 1) := by decide +kernel
theorem dX11_init_225 : decode cX11_init 225 = .ok (.iconst 4, 1) := by decide +kernel
theorem dX11_init_226 : decode cX11_init 226 = .ok (.newarray .int, 2) := by decide +kernel
theorem dX11_init_228 : decode cX11_init 228 = .ok (.putfield 93, 3) := by decide +kernel
theorem dX11_init_231 : decode cX11_init 231 = .ok (.aload_n 0, 1) := by decide +kernel
theorem dX11_init_232 : decode cX11_init 232 = .ok (.sipush 160, 3) := by decide +kernel
theorem dX11_init_235 : decode cX11_init 235 = .ok (.newarray .int, 2) := by decide +kernel
theorem dX11_init_237 : decode cX11_init 237 = .ok (.putfield 96, 3) := by decide +kernel
theorem dX11_init_240 : decode cX11_init 240 = .ok (.aload_n 0, 1) := by decide +kernel
theorem dX11_init_241 : decode cX11_init 241 = .ok (.sipush 160, 3) := by decide +kernel
theorem dX11_init_244 : decode cX11_init 244 = .ok (.newarray .int, 2) := by decide +kernel
theorem dX11_init_246 : decode cX11_init 246 = .ok (.putfield 99, 3) := by decide +kernel
theorem dX11_init_249 : decode cX11_init 249 = .ok (.aload_n 0, 1) := by decide +kernel
theorem dX11_init_250 : decode cX11_init 250 = .ok (.sipush 160, 3) := by decide +kernel
theorem dX11_init_253 : decode cX11_init 253 = .ok (.newarray .int, 2) := by decide +kernel
theorem dX11_init_255 : decode cX11_init 255 = .ok (.putfield 102, 3) := by decide +kernel
theorem dX11_init_258 : decode cX11_init 258 = .ok (.aload_n 0, 1) := by decide +kernel
theorem dX11_init_259 : decode cX11_init 259 = .ok (.sipush 160, 3) := by decide +kernel
theorem dX11_init_262 : decode cX11_init 262 = .ok (.newarray .boolean, 2) := by decide +kernel
theorem dX11_init_264 : decode cX11_init 264 = .ok (.putfield 105, 3) := by decide +kernel
theorem dX11_init_267 : decode cX11_init 267 = .ok (.aload_n 0, 1) := by decide +kernel
theorem dX11_init_268 : decode cX11_init 268 = .ok (.sipush 160, 3) := by decide +kernel
theorem dX11_init_271 : decode cX11_init 271 = .ok (.newarray .int, 2) := by decide +kernel
theorem dX11_init_273 : decode cX11_init 273 = .ok (.putfield 108, 3) := by decide +kernel
theorem dX11_init_276 : decode cX11_init 276 = .ok (.aload_n 0, 1) := by decide +kernel
theorem dX11_init_277 : decode cX11_init 277 = .ok (.sipush 160, 3) := by decide +kernel
theorem dX11_init_280 : decode cX11_init 280 = .ok (.newarray .int, 2) := by decide +kernel
theorem dX11_init_282 : decode cX11_init 282 = .ok (.putfield 111, 3) := by decide +kernel
theorem dX11_init_285 : decode cX11_init 285 = .ok (.aload_n 0, 1) := by decide +kernel
theorem dX11_init_286 : decode cX11_init 286 = .ok (.sipush 160, 3) := by decide +kernel
theorem dX11_init_289 : decode cX11_init 289 = .ok (.newarray .int, 2) := by decide +kernel
theorem dX11_init_291 : decode cX11_init 291 = .ok (.putfield 114, 3) := by decide +kernel
theorem dX11_init_294 : decode cX11_init 294 = .ok (.aload_n 0, 1) := by decide +kernel
theorem dX11_init_295 : decode cX11_init 295 = .ok (.sipush 160, 3) := by decide +kernel
theorem dX11_init_298 : decode cX11_init 298 = .ok (.newarray .int, 2) := by decide +kernel
theorem dX11_init_300 : decode cX11_init 300 = .ok (.putfield 117, 3) := by decide +kernel
theorem dX11_init_303 : decode cX11_init 303 = .ok (.aload_n 0, 1) := by decide +kernel
theorem dX11_init_304 : decode cX11_init 304 = .ok (.sipush 160, 3) := by decide +kernel
theorem dX11_init_307 : decode cX11_init 307 = .ok (.newarray .int, 2) := by decide +kernel
theorem dX11_init_309 : decode cX11_init 309 = .ok (.putfield 120, 3) := by decide +kernel
theorem dX11_init_312 : decode cX11_init 312 = .ok (.aload_n 0, 1) := by decide +kernel
theorem dX11_init_313 : decode cX11_init 313 = .ok (.sipush 160, 3) := by decide +kernel
theorem dX11_init_316 : decode cX11_init 316 = .ok (.newarray .int, 2) := by decide +kernel
theorem dX11_init_318 : decode cX11_init 318 = .ok (.putfield 123, 3) := by decide +kernel
theorem dX11_init_321 : decode cX11_init 321 = .ok (.aload_n 0, 1) := by decide +kernel
theorem dX11_init_322 : decode cX11_init 322 = .ok (.sipush 160, 3) := by decide +kernel
theorem dX11_init_325 : decode cX11_init 325 = .ok (.newarray .int, 2) := by decide +kernel
theorem dX11_init_327 : decode cX11_init 327 = .ok (.putfield 126, 3) := by decide +kernel
theorem dX11_init_330 : decode cX11_init 330 = .ok (.aload_n 0, 1) := by decide +kernel
theorem dX11_init_331 : decode cX11_init 331 = .ok (.sipush 160, 3) := by decide +kernel
theorem dX11_init_334 : decode cX11_init 334 = .ok (.newarray .int, 2) := by decide +kernel
theorem dX11_init_336 : decode cX11_init 336 = .ok (.putfield 129, 3) := by decide +kernel
theorem dX11_init_339 : decode cX11_init 339 = .ok (.aload_n 0, 1) := by decide +kernel
theorem dX11_init_340 : decode cX11_init 340 = .ok (.sipush 160, 3) := by decide +kernel
theorem dX11_init_343 : decode cX11_init 343 = .ok (.newarray .int, 2) := by decide +kernel
theorem dX11_init_345 : decode cX11_init 345 = .ok (.putfield 132, 3) := by decide +kernel
theorem dX11_init_348 : decode cX11_init 348 = .ok (.aload_n 0, 1) := by decide +kernel
theorem dX11_init_349 : decode cX11_init 349 = .ok (.sipush 160, 3) := by decide +kernel
theorem dX11_init_352 : decode cX11_init 352 = .ok (.newarray .int, 2) := by decide +kernel
theorem dX11_init_354 : decode cX11_init 354 = .ok (.putfield 135, 3) := by decide +kernel
theorem dX11_init_357 : decode cX11_init 357 = .ok (.aload_n 0, 1) := by decide +kernel
theorem dX11_init_358 : decode cX11_init 358 = .ok (.sipush 160, 3) := by decide +kernel
theorem dX11_init_361 : decode cX11_init 361 = .ok (.newarray .long, 2) := by decide +kernel
theorem dX11_init_363 : decode cX11_init 363 = .ok (.putfield 138, 3) := by decide +kernel
theorem dX11_init_366 : decode cX11_init 366 = .ok (.aload_n 0, 1) := by decide +kernel
theorem dX11_init_367 : decode cX11_init 367 = .ok (.bipush 100, 2) := by decide +kernel
theorem dX11_init_369 : decode cX11_init 369 = .ok (.newarray .int, 2) := by decide +kernel
theorem dX11_init_371 : decode cX11_init 371 = .ok (.putfield 141, 3) := by decide +kernel
theorem dX11_init_374 : decode cX11_init 374 = .ok (.aload_n 0, 1) := by decide +kernel
theorem dX11_init_375 : decode cX11_init 375 = .ok (.bipush 100, 2) := by decide +kernel
theorem dX11_init_377 : decode cX11_init 377 = .ok (.newarray .int, 2) := by decide +kernel
theorem dX11_init_379 : decode cX11_init 379 = .ok (.putfield 144, 3) := by decide +kernel
theorem dX11_init_382 : decode cX11_init 382 = .ok (.aload_n 0, 1) := by decide +kernel
theorem dX11_init_383 : decode cX11_init 383 = .ok (.bipush 100, 2) := by decide +kernel
theorem dX11_init_385 : decode cX11_init 385 = .ok (.newarray .int, 2) := by decide +kernel
theorem dX11_init_387 : decode cX11_init 387 = .ok (.putfield 147, 3) := by decide +kernel
theorem dX11_init_390 : decode cX11_init 390 = .ok (.aload_n 0, 1) := by decide +kernel
theorem dX11_init_391 : decode cX11_init 391 = .ok (.bipush 17, 2) := by decide +kernel
theorem dX11_init_393 : decode cX11_init 393 = .ok (.newarray .int, 2) := by decide +kernel
theorem dX11_init_395 : decode cX11_init 395 = .ok (.putfield 150, 3) := by decide +kernel
theorem dX11_init_398 : decode cX11_init 398 = .ok (.aload_n 0, 1) := by decide +kernel
theorem dX11_init_399 : decode cX11_init 399 = .ok (.bipush 17, 2) := by decide +kernel
theorem dX11_init_401 : decode cX11_init 401 = .ok (.newarray .int, 2) := by decide +kernel
theorem dX11_init_403 : decode cX11_init 403 = .ok (.putfield 153, 3) := by decide +kernel
theorem dX11_init_406 : decode cX11_init 406 = .ok (.aload_n 0, 1) := by decide +kernel
theorem dX11_init_407 : decode cX11_init 407 = .ok (.bipush 17, 2) := by decide +kernel
theorem dX11_init_409 : decode cX11_init 409 = .ok (.newarray .int, 2) := by decide +kernel
theorem dX11_init_411 : decode cX11_init 411 = .ok (.putfield 156, 3) := by decide +kernel
theorem dX11_init_414 : decode cX11_init 414 = .ok (.aload_n 0, 1) := by decide +kernel
theorem dX11_init_415 : decode cX11_init 415 = .ok (.iconst 4, 1) := by decide +kernel
theorem dX11_init_416 : decode cX11_init 416 = .ok (.newarray .int, 2) := by decide +kernel
theorem dX11_init_418 : decode cX11_init 418 = .ok (.putfield 159, 3) := by decide +kernel
theorem dX11_init_421 : decode cX11_init 421 = .ok (.aload_n 0, 1) := by decide +kernel
theorem dX11_init_422 : decode cX11_init 422 = .ok (.sipush 2800, 3) := by decide +kernel
theorem dX11_init_425 : decode cX11_init 425 = .ok (.newarray .int, 2) := by decide +kernel
theorem dX11_init_427 : decode cX11_init 427 = .ok (.putfield 162, 3) := by decide +kernel
theorem dX11_init_430 : decode cX11_init 430 = .ok (.aload_n 0, 1) := by decide +kernel
theorem dX11_init_431 : decode cX11_init 431 = .ok (.sipush 2800, 3) := by decide +kernel
theorem dX11_init_434 : decode cX11_init 434 = .ok (.newarray .int, 2) := by decide +kernel
theorem dX11_init_436 : decode cX11_init 436 = .ok (.putfield 165, 3) := by decide +kernel
theorem dX11_init_439 : decode cX11_init 439 = .ok (.aload_n 0, 1) := by decide +kernel
theorem dX11_init_440 : decode cX11_init 440 = .ok (.sipush 2800, 3) := by decide +kernel
theorem dX11_init_443 : decode cX11_init 443 = .ok (.newarray .int, 2) := by decide +kernel
theorem dX11_init_445 : decode cX11_init 445 = .ok (.putfield 168, 3) := by decide +kernel
theorem dX11_init_448 : decode cX11_init 448 = .ok (.aload_n 0, 1) := by decide +kernel
theorem dX11_init_449 : decode cX11_init 449 = .ok (.sipush 2800, 3) := by decide +kernel
theorem dX11_init_452 : decode cX11_init 452 = .ok (.newarray .int, 2) := by decide +kernel
theorem dX11_init_454 : decode cX11_init 454 = .ok (.putfield 171, 3) := by decide +kernel
theorem dX11_init_457 : decode cX11_init 457 = .ok (.aload_n 0, 1) := by decide +kernel
theorem dX11_init_458 : decode cX11_init 458 = .ok (.sipush 2800, 3) := by decide +kernel
theorem dX11_init_461 : decode cX11_init 461 = .ok (.newarray .int, 2) := by decide +kernel
theorem dX11_init_463 : decode cX11_init 463 = .ok (.putfield 174, 3) := by decide +kernel
theorem dX11_init_466 : decode cX11_init 466 = .ok (.aload_n 0, 1) := by decide +kernel
theorem dX11_init_467 : decode cX11_init 467 = .ok (.sipush 2800, 3) := by decide +kernel
theorem dX11_init_470 : decode cX11_init 470 = .ok (.newarray .int, 2) := by decide +kernel
theorem dX11_init_472 : decode cX11_init 472 = .ok (.putfield 177, 3) := by decide +kernel
theorem dX11_init_475 : decode cX11_init 475 = .ok (.aload_n 0, 1) := by decide +kernel
theorem dX11_init_476 : decode cX11_init 476 = .ok (.sipush 2800, 3) := by decide +kernel
theorem dX11_init_479 : decode cX11_init 479 = .ok (.newarray .int, 2) := by decide +kernel
theorem dX11_init_481 : decode cX11_init 481 = .ok (.putfield 180, 3) := by decide +kernel
theorem dX11_init_484 : decode cX11_init 484 = .ok (.aload_n 0, 1) := by decide +kernel
theorem dX11_init_485 : decode cX11_init 485 = .ok (.sipush 2800, 3) := by decide +kernel
theorem dX11_init_488 : decode cX11_init 488 = .ok (.newarray .int, 2) := by decide +kernel
theorem dX11_init_490 : decode cX11_init 490 = .ok (.putfield 183, 3) := by decide +kernel
theorem dX11_init_493 : decode cX11_init 493 = .ok (.aload_n 0, 1) := by decide +kernel
theorem dX11_init_494 : decode cX11_init 494 = .ok (.sipush 2800, 3) := by decide +kernel
theorem dX11_init_497 : decode cX11_init 497 = .ok (.newarray .int, 2) := by decide +kernel
theorem dX11_init_499 : decode cX11_init 499 = .ok (.putfield 186, 3) := by decide +kernel
theorem dX11_init_502 : decode cX11_init 502 = .ok (.aload_n 0, 1) := by decide +kernel
theorem dX11_init_503 : decode cX11_init 503 = .ok (.sipush 2800, 3) := by decide +kernel
theorem dX11_init_506 : decode cX11_init 506 = .ok (.newarray .int, 2) := by decide +kernel
theorem dX11_init_508 : decode cX11_init 508 = .ok (.putfield 189, 3) := by decide +kernel
theorem dX11_init_511 : decode cX11_init 511 = .ok (.aload_n 0, 1) := by decide +kernel
theorem dX11_init_512 : decode cX11_init 512 = .ok (.sipush 160, 3) := by decide +kernel
theorem dX11_init_515 : decode cX11_init 515 = .ok (.newarray .int, 2) := by decide +kernel
theorem dX11_init_517 : decode cX11_init 517 = .ok (.putfield 192, 3) := by decide +kernel
theorem dX11_init_520 : decode cX11_init 520 = .ok (.aload_n 0, 1) := by decide +kernel
theorem dX11_init_521 : decode cX11_init 521 = .ok (.iconst 4, 1) := by decide +kernel
theorem dX11_init_522 : decode cX11_init 522 = .ok (.newarray .int, 2) := by decide +kernel
theorem dX11_init_524 : decode cX11_init 524 = .ok (.putfield 195, 3) := by decide +kernel
theorem dX11_init_527 : decode cX11_init 527 = .ok (.aload_n 0, 1) := by decide +kernel
theorem dX11_init_528 : decode cX11_init 528 = .ok (.iconst 4, 1) := by decide +kernel
theorem dX11_init_529 : decode cX11_init 529 = .ok (.newarray .int, 2) := by decide +kernel
theorem dX11_init_531 : decode cX11_init 531 = .ok (.putfield 198, 3) := by decide +kernel
theorem dX11_init_534 : decode cX11_init 534 = .ok (.aload_n 0, 1) := by decide +kernel
theorem dX11_init_535 : decode cX11_init 535 = .ok (.sipush 5600, 3) := by decide +kernel
theorem dX11_init_538 : decode cX11_init 538 = .ok (.newarray .int, 2) := by decide +kernel
theorem dX11_init_540 : decode cX11_init 540 = .ok (.putfield 201, 3) := by decide +kernel
theorem dX11_init_543 : decode cX11_init 543 = .ok (.aload_n 0, 1) := by decide +kernel
theorem dX11_init_544 : decode cX11_init 544 = .ok (.iconst 4, 1) := by decide +kernel
theorem dX11_init_545 : decode cX11_init 545 = .ok (.newarray .int, 2) := by decide +kernel
theorem dX11_init_547 : decode cX11_init 547 = .ok (.putfield 204, 3) := by decide +kernel
theorem dX11_init_550 : decode cX11_init 550 = .ok (.aload_n 0, 1) := by decide +kernel
theorem dX11_init_551 : decode cX11_init 551 = .ok (.sipush 700, 3) := by decide +kernel
theorem dX11_init_554 : decode cX11_init 554 = .ok (.newarray .int, 2) := by decide +kernel
theorem dX11_init_556 : decode cX11_init 556 = .ok (.putfield 207, 3) := by decide +kernel
theorem dX11_init_559 : decode cX11_init 559 = .ok (.aload_n 0, 1) := by decide +kernel
theorem dX11_init_560 : decode cX11_init 560 = .ok (.sipush 700, 3) := by decide +kernel
theorem dX11_init_563 : decode cX11_init 563 = .ok (.newarray .int, 2) := by decide +kernel
theorem dX11_init_565 : decode cX11_init 565 = .ok (.putfield 210, 3) := by decide +kernel
theorem dX11_init_568 : decode cX11_init 568 = .ok (.aload_n 0, 1) := by decide +kernel
theorem dX11_init_569 : decode cX11_init 569 = .ok (.sipush 700, 3) := by decide +kernel
theorem dX11_init_572 : decode cX11_init 572 = .ok (.newarray .int, 2) := by decide +kernel
theorem dX11_init_574 : decode cX11_init 574 = .ok (.putfield 213, 3) := by decide +kernel
theorem dX11_init_577 : decode cX11_init 577 = .ok (.aload_n 0, 1) := by decide +kernel
theorem dX11_init_578 : decode cX11_init 578 = .ok (.sipush 700, 3) := by decide +kernel
theorem dX11_init_581 : decode cX11_init 581 = .ok (.newarray .int, 2) := by decide +kernel
theorem dX11_init_583 : decode cX11_init 583 = .ok (.putfield 216, 3) := by decide +kernel
theorem dX11_init_586 : decode cX11_init 586 = .ok (.aload_n 0, 1) := by decide +kernel
theorem dX11_init_587 : decode cX11_init 587 = .ok (.sipush 16800, 3) := by decide +kernel
theorem dX11_init_590 : decode cX11_init 590 = .ok (.newarray .int, 2) := by decide +kernel
theorem dX11_init_592 : decode cX11_init 592 = .ok (.putfield 219, 3) := by decide +kernel
theorem dX11_init_595 : decode cX11_init 595 = .ok (.aload_n 0, 1) := by decide +kernel
theorem dX11_init_596 : decode cX11_init 596 = .ok (.bipush 16, 2) := by decide +kernel
theorem dX11_init_598 : decode cX11_init 598 = .ok (.newarray .int, 2) := by decide +kernel
theorem dX11_init_600 : decode cX11_init 600 = .ok (.putfield 222, 3) := by decide +kernel
theorem dX11_init_603 : decode cX11_init 603 = .ok (.aload_n 0, 1) := by decide +kernel
theorem dX11_init_604 : decode cX11_init 604 = .ok (.sipush 1640, 3) := by decide +kernel
theorem dX11_init_607 : decode cX11_init 607 = .ok (.newarray .int, 2) := by decide +kernel
theorem dX11_init_609 : decode cX11_init 609 = .ok (.putfield 225, 3) := by decide +kernel
theorem dX11_init_612 : decode cX11_init 612 = .ok (.aload_n 0, 1) := by decide +kernel
theorem dX11_init_613 : decode cX11_init 613 = .ok (.bipush 8, 2) := by decide +kernel
theorem dX11_init_615 : decode cX11_init 615 = .ok (.newarray .int, 2) := by decide +kernel
theorem dX11_init_617 : decode cX11_init 617 = .ok (.putfield 228, 3) := by decide +kernel
theorem dX11_init_620 : decode cX11_init 620 = .ok (.aload_n 0, 1) := by decide +kernel
theorem dX11_init_621 : decode cX11_init 621 = .ok (.bipush 32, 2) := by decide +kernel
theorem dX11_init_623 : decode cX11_init 623 = .ok (.newarray .boolean, 2) := by decide +kernel
theorem dX11_init_625 : decode cX11_init 625 = .ok (.putfield 231, 3) := by decide +kernel
theorem dX11_init_628 : decode cX11_init 628 = .ok (.aload_n 0, 1) := by decide +kernel
theorem dX11_init_629 : decode cX11_init 629 = .ok (.bipush 32, 2) := by decide +kernel
theorem dX11_init_631 : decode cX11_init 631 = .ok (.newarray .boolean, 2) := by decide +kernel
theorem dX11_init_633 : decode cX11_init 633 = .ok (.putfield 234, 3) := by decide +kernel
theorem dX11_init_636 : decode cX11_init 636 = .ok (.aload_n 0, 1) := by decide +kernel
theorem dX11_init_637 : decode cX11_init 637 = .ok (.bipush 32, 2) := by decide +kernel
theorem dX11_init_639 : decode cX11_init 639 = .ok (.newarray .int, 2) := by decide +kernel
theorem dX11_init_641 : decode cX11_init 641 = .ok (.putfield 237, 3) := by decide +kernel
theorem dX11_init_644 : decode cX11_init 644 = .ok (.aload_n 0, 1) := by decide +kernel
theorem dX11_init_645 : decode cX11_init 645 = .ok (.bipush 32, 2) := by decide +kernel
theorem dX11_init_647 : decode cX11_init 647 = .ok (.newarray .int, 2) := by decide +kernel
theorem dX11_init_649 : decode cX11_init 649 = .ok (.putfield 240, 3) := by decide +kernel
theorem dX11_init_652 : decode cX11_init 652 = .ok (.aload_n 0, 1) := by decide +kernel
theorem dX11_init_653 : decode cX11_init 653 = .ok (.sipush 512, 3) := by decide +kernel
theorem dX11_init_656 : decode cX11_init 656 = .ok (.newarray .long, 2) := by decide +kernel
theorem dX11_init_658 : decode cX11_init 658 = .ok (.putfield 243, 3) := by decide +kernel
theorem dX11_init_661 : decode cX11_init 661 = .ok (.aload_n 0, 1) := by decide +kernel
theorem dX11_init_662 : decode cX11_init 662 = .ok (.sipush 192, 3) := by decide +kernel
theorem dX11_init_665 : decode cX11_init 665 = .ok (.newarray .long, 2) := by decide +kernel
theorem dX11_init_667 : decode cX11_init 667 = .ok (.putfield 246, 3) := by decide +kernel
theorem dX11_init_670 : decode cX11_init 670 = .ok (.aload_n 0, 1) := by decide +kernel
theorem dX11_init_671 : decode cX11_init 671 = .ok (.bipush 32, 2) := by decide +kernel
theorem dX11_init_673 : decode cX11_init 673 = .ok (.newarray .int, 2) := by decide +kernel
theorem dX11_init_675 : decode cX11_init 675 = .ok (.putfield 249, 3) := by decide +kernel
theorem dX11_init_678 : decode cX11_init 678 = .ok (.aload_n 0, 1) := by decide +kernel
theorem dX11_init_679 : decode cX11_init 679 = .ok (.bipush 8, 2) := by decide +kernel
theorem dX11_init_681 : decode cX11_init 681 = .ok (.newarray .int, 2) := by decide +kernel
theorem dX11_init_683 : decode cX11_init 683 = .ok (.putfield 252, 3) := by decide +kernel
theorem dX11_init_686 : decode cX11_init 686 = .ok (.aload_n 0, 1) := by decide +kernel
theorem dX11_init_687 : decode cX11_init 687 = .ok (.bipush 8, 2) := by decide +kernel
theorem dX11_init_689 : decode cX11_init 689 = .ok (.newarray .int, 2) := by decide +kernel
theorem dX11_init_691 : decode cX11_init 691 = .ok (.putfield 255, 3) := by decide +kernel
theorem dX11_init_694 : decode cX11_init 694 = .ok (.aload_n 0, 1) := by decide +kernel
theorem dX11_init_695 : decode cX11_init 695 = .ok (.bipush 32, 2) := by decide +kernel
theorem dX11_init_697 : decode cX11_init 697 = .ok (.newarray .long, 2) := by decide +kernel
theorem dX11_init_699 : decode cX11_init 699 = .ok (.putfield 258, 3) := by decide +kernel
theorem dX11_init_702 : decode cX11_init 702 = .ok (.aload_n 0, 1) := by decide +kernel
theorem dX11_init_703 : decode cX11_init 703 = .ok (.bipush 8, 2) := by decide +kernel
theorem dX11_init_705 : decode cX11_init 705 = .ok (.newarray .int, 2) := by decide +kernel
theorem dX11_init_707 : decode cX11_init 707 = .ok (.putfield 261, 3) := by decide +kernel
theorem dX11_init_710 : decode cX11_init 710 = .ok (.aload_n 0, 1) := by decide +kernel
theorem dX11_init_711 : decode cX11_init 711 = .ok (.bipush 8, 2) := by decide +kernel
theorem dX11_init_713 : decode cX11_init 713 = .ok (.newarray .int, 2) := by decide +kernel
theorem dX11_init_715 : decode cX11_init 715 = .ok (.putfield 264, 3) := by decide +kernel
theorem dX11_init_718 : decode cX11_init 718 = .ok (.aload_n 0, 1) := by decide +kernel
theorem dX11_init_719 : decode cX11_init 719 = .ok (.bipush 8, 2) := by decide +kernel
theorem dX11_init_721 : decode cX11_init 721 = .ok (.newarray .int, 2) := by decide +kernel
theorem dX11_init_723 : decode cX11_init 723 = .ok (.putfield 267, 3) := by decide +kernel
theorem dX11_init_726 : decode cX11_init 726 = .ok (.aload_n 0, 1) := by decide +kernel
theorem dX11_init_727 : decode cX11_init 727 = .ok (.bipush 8, 2) := by decide +kernel
theorem dX11_init_729 : decode cX11_init 729 = .ok (.newarray .int, 2) := by decide +kernel
theorem dX11_init_731 : decode cX11_init 731 = .ok (.putfield 270, 3) := by decide +kernel
theorem dX11_init_734 : decode cX11_init 734 = .ok (.aload_n 0, 1) := by decide +kernel
theorem dX11_init_735 : decode cX11_init 735 = .ok (.sipush 1600, 3) := by decide +kernel
theorem dX11_init_738 : decode cX11_init 738 = .ok (.newarray .int, 2) := by decide +kernel
theorem dX11_init_740 : decode cX11_init 740 = .ok (.putfield 273, 3) := by decide +kernel
theorem dX11_init_743 : decode cX11_init 743 = .ok (.aload_n 0, 1) := by decide +kernel
theorem dX11_init_744 : decode cX11_init 744 = .ok (.sipush 3240, 3) := by decide +kernel
theorem dX11_init_747 : decode cX11_init 747 = .ok (.newarray .long, 2) := by decide +kernel
theorem dX11_init_749 : decode cX11_init 749 = .ok (.putfield 276, 3) := by decide +kernel
theorem dX11_init_752 : decode cX11_init 752 = .ok (.aload_n 0, 1) := by decide +kernel
theorem dX11_init_753 : decode cX11_init 753 = .ok (.bipush 16, 2) := by decide +kernel
theorem dX11_init_755 : decode cX11_init 755 = .ok (.newarray .long, 2) := by decide +kernel
theorem dX11_init_757 : decode cX11_init 757 = .ok (.putfield 279, 3) := by decide +kernel
theorem dX11_init_760 : decode cX11_init 760 = .ok (.aload_n 0, 1) := by decide +kernel
theorem dX11_init_761 : decode cX11_init 761 = .ok (.bipush 6, 2) := by decide +kernel
theorem dX11_init_763 : decode cX11_init 763 = .ok (.newarray .long, 2) := by decide +kernel
theorem dX11_init_765 : decode cX11_init 765 = .ok (.putfield 282, 3) := by decide +kernel
theorem dX11_init_768 : decode cX11_init 768 = .ok (.aload_n 0, 1) := by decide +kernel
theorem dX11_init_769 : decode cX11_init 769 = .ok (.bipush 40, 2) := by decide +kernel
theorem dX11_init_771 : decode cX11_init 771 = .ok (.newarray .int, 2) := by decide +kernel
theorem dX11_init_773 : decode cX11_init 773 = .ok (.putfield 285, 3) := by decide +kernel
theorem dX11_init_776 : decode cX11_init 776 = .ok (.aload_n 0, 1) := by decide +kernel
theorem dX11_init_777 : decode cX11_init 777 = .ok (.iconst 4, 1) := by decide +kernel
theorem dX11_init_778 : decode cX11_init 778 = .ok (.newarray .int, 2) := by decide +kernel
theorem dX11_init_780 : decode cX11_init 780 = .ok (.putfield 288, 3) := by decide +kernel
theorem dX11_init_783 : decode cX11_init 783 = .ok (.aload_n 0, 1) := by decide +kernel
theorem dX11_init_784 : decode cX11_init 784 = .ok (.iconst 4, 1) := by decide +kernel
theorem dX11_init_785 : decode cX11_init 785 = .ok (.newarray .int, 2) := by decide +kernel
theorem dX11_init_787 : decode cX11_init 787 = .ok (.putfield 291, 3) := by decide +kernel
theorem dX11_init_790 : decode cX11_init 790 = .ok (.aload_n 0, 1) := by decide +kernel
theorem dX11_init_791 : decode cX11_init 791 = .ok (.sipush 192, 3) := by decide +kernel
theorem dX11_init_794 : decode cX11_init 794 = .ok (.newarray .int, 2) := by decide +kernel
theorem dX11_init_796 : decode cX11_init 796 = .ok (.putfield 294, 3) := by decide +kernel
theorem dX11_init_799 : decode cX11_init 799 = .ok (.aload_n 0, 1) := by decide +kernel
theorem dX11_init_800 : decode cX11_init 800 = .ok (.sipush 192, 3) := by decide +kernel
theorem dX11_init_803 : decode cX11_init 803 = .ok (.newarray .int, 2) := by decide +kernel
theorem dX11_init_805 : decode cX11_init 805 = .ok (.putfield 297, 3) := by decide +kernel
theorem dX11_init_808 : decode cX11_init 808 = .ok (.aload_n 0, 1) := by decide +kernel
theorem dX11_init_809 : decode cX11_init 809 = .ok (.sipush 192, 3) := by decide +kernel
theorem dX11_init_812 : decode cX11_init 812 = .ok (.newarray .int, 2) := by decide +kernel
theorem dX11_init_814 : decode cX11_init 814 = .ok (.putfield 300, 3) := by decide +kernel
theorem dX11_init_817 : decode cX11_init 817 = .ok (.aload_n 0, 1) := by decide +kernel
theorem dX11_init_818 : decode cX11_init 818 = .ok (.sipush 192, 3) := by decide +kernel
theorem dX11_init_821 : decode cX11_init 821 = .ok (.newarray .int, 2) := by decide +kernel
theorem dX11_init_823 : decode cX11_init 823 = .ok (.putfield 303, 3) := by decide +kernel
theorem dX11_init_826 : decode cX11_init 826 = .ok (.aload_n 0, 1) := by decide +kernel
theorem dX11_init_827 : decode cX11_init 827 = .ok (.sipush 192, 3) := by decide +kernel
theorem dX11_init_830 : decode cX11_init 830 = .ok (.newarray .int, 2) := by decide +kernel
theorem dX11_init_832 : decode cX11_init 832 = .ok (.putfield 306, 3) := by decide +kernel
theorem dX11_init_835 : decode cX11_init 835 = .ok (.aload_n 0, 1) := by decide +kernel
theorem dX11_init_836 : decode cX11_init 836 = .ok (.sipush 6144, 3) := by decide +kernel
theorem dX11_init_839 : decode cX11_init 839 = .ok (.newarray .int, 2) := by decide +kernel
theorem dX11_init_841 : decode cX11_init 841 = .ok (.putfield 309, 3) := by decide +kernel
theorem dX11_init_844 : decode cX11_init 844 = .ok (.aload_n 0, 1) := by decide +kernel
theorem dX11_init_845 : decode cX11_init 845 = .ok (.sipush 6144, 3) := by decide +kernel
theorem dX11_init_848 : decode cX11_init 848 = .ok (.newarray .int, 2) := by decide +kernel
theorem dX11_init_850 : decode cX11_init 850 = .ok (.putfield 312, 3) := by decide +kernel
theorem dX11_init_853 : decode cX11_init 853 = .ok (.aload_n 0, 1) := by decide +kernel
theorem dX11_init_854 : decode cX11_init 854 = .ok (.iconst (-1), 1) := by decide +kernel
theorem dX11_init_855 : decode cX11_init 855 = .ok (.putfield 315, 3) := by decide +kernel
theorem dX11_init_858 : decode cX11_init 858 = .ok (.aload_n 0, 1) := by decide +kernel
theorem dX11_init_859 : decode cX11_init 859 = .ok (.iconst (-1), 1) := by decide +kernel
theorem dX11_init_860 : decode cX11_init 860 = .ok (.putfield 319, 3) := by decide +kernel
theorem dX11_init_863 : decode cX11_init 863 = .ok (.aload_n 0, 1) := by decide +kernel
theorem dX11_init_864 : decode cX11_init 864 = .ok (.bipush 48, 2) := by decide +kernel
theorem dX11_init_866 : decode cX11_init 866 = .ok (.newarray .int, 2) := by decide +kernel
theorem dX11_init_868 : decode cX11_init 868 = .ok (.putfield 322, 3) := by decide +kernel
theorem dX11_init_871 : decode cX11_init 871 = .ok (.return_, 1) := by decide +kernel
theorem dX11_in_0 : decode cX11_in 0 = .ok (.lload_n 0, 1) := by decide +kernel
theorem dX11_in_1 : decode cX11_in 1 = .ok (.lload_n 2, 1) := by decide +kernel
theorem dX11_in_2 : decode cX11_in 2 = .ok (.lcmp, 1) := by decide +kernel
theorem dX11_in_3 : decode cX11_in 3 = .ok (.ifCond .lt 14, 3) := by decide +kernel
theorem dX11_in_6 : decode cX11_in 6 = .ok (.lload_n 0, 1) := by decide +kernel
theorem dX11_in_7 : decode cX11_in 7 = .ok (.lload 4, 2) := by decide +kernel
theorem dX11_in_9 : decode cX11_in 9 = .ok (.lcmp, 1) := by decide +kernel
theorem dX11_in_10 : decode cX11_in 10 = .ok (.ifCond .gt 7, 3) := by decide +kernel
theorem dX11_in_13 : decode cX11_in 13 = .ok (.iconst 1, 1) := by decide +kernel
theorem dX11_in_14 : decode cX11_in 14 = .ok (.goto 4, 3) := by decide +kernel
theorem dX11_in_17 : decode cX11_in 17 = .ok (.iconst 0, 1) := by decide +kernel
theorem dX11_in_18 : decode cX11_in 18 = .ok (.ireturn, 1) := by decide +kernel
theorem dX11_put_0 : decode cX11_put 0 = .ok (.bipush 24, 2) := by decide +kernel
theorem dX11_put_2 : decode cX11_put 2 = .ok (.istore_n 2, 1) := by decide +kernel
theorem dX11_put_3 : decode cX11_put 3 = .ok (.iload_n 2, 1) := by decide +kernel
theorem dX11_put_4 : decode cX11_put 4 = .ok (.ifCond .lt 35, 3) := by decide +kernel
theorem dX11_put_7 : decode cX11_put 7 = .ok (.aload_n 0, 1) := by decide +kernel
theorem dX11_put_8 : decode cX11_put 8 = .ok (.getfield 7, 3) := by decide +kernel
theorem dX11_put_11 : decode cX11_put 11 = .ok (.aload_n 0, 1) := by decide +kernel
theorem dX11_put_12 : decode cX11_put 12 = .ok (.getfield 325, 3) := by decide +kernel
theorem dX11_put_15 : decode cX11_put 15 = .ok (.iload_n 1, 1) := by decide +kernel
theorem dX11_put_16 : decode cX11_put 16 = .ok (.iload_n 2, 1) := by decide +kernel
theorem dX11_put_17 : decode cX11_put 17 = .ok (.ishr, 1) := by decide +kernel
theorem dX11_put_18 : decode cX11_put 18 = .ok (.sipush 255, 3) := by decide +kernel
theorem dX11_put_21 : decode cX11_put 21 = .ok (.iand, 1) := by decide +kernel
theorem dX11_put_22 : decode cX11_put 22 = .ok (.iastore, 1) := by decide +kernel
theorem dX11_put_23 : decode cX11_put 23 = .ok (.aload_n 0, 1) := by decide +kernel
theorem dX11_put_24 : decode cX11_put 24 = .ok (.dup, 1) := by decide +kernel
theorem dX11_put_25 : decode cX11_put 25 = .ok (.getfield 325, 3) := by decide +kernel
theorem dX11_put_28 : decode cX11_put 28 = .ok (.iconst 1, 1) := by decide +kernel
theorem dX11_put_29 : decode cX11_put 29 = .ok (.iadd, 1) := by decide +kernel
theorem dX11_put_30 : decode cX11_put 30 = .ok (.putfield 325, 3) := by decide +kernel
theorem dX11_put_33 : decode cX11_put 33 = .ok (.iinc 2 (-8), 3) := by decide +kernel
theorem dX11_put_36 : decode cX11_put 36 = .ok (.goto (-33), 3) := by decide +kernel
theorem dX11_put_39 : decode cX11_put 39 = .ok (.return_, 1) := by decide +kernel
theorem dX11_feed_0 : decode cX11_feed 0 = .ok (.aload_n 0, 1) := by decide +kernel
theorem dX11_feed_1 : decode cX11_feed 1 = .ok (.getfield 325, 3) := by decide +kernel
theorem dX11_feed_4 : decode cX11_feed 4 = .ok (.bipush 20, 2) := by decide +kernel
theorem dX11_feed_6 : decode cX11_feed 6 = .ok (.iadd, 1) := by decide +kernel
theorem dX11_feed_7 : decode cX11_feed 7 = .ok (.sipush 800, 3) := by decide +kernel
theorem dX11_feed_10 : decode cX11_feed 10 = .ok (.if_icmp .le 6, 3) := by decide +kernel
theorem dX11_feed_13 : decode cX11_feed 13 = .ok (.bipush (-3), 2) := by decide +kernel
theorem dX11_feed_15 : decode cX11_feed 15 = .ok (.ireturn, 1) := by decide +kernel
theorem dX11_feed_16 : decode cX11_feed 16 = .ok (.aload_n 0, 1) := by decide +kernel
theorem dX11_feed_17 : decode cX11_feed 17 = .ok (.iload_n 1, 1) := by decide +kernel
theorem dX11_feed_18 : decode cX11_feed 18 = .ok (.invokevirtual 328, 3) := by decide +kernel
theorem dX11_feed_21 : decode cX11_feed 21 = .ok (.aload_n 0, 1) := by decide +kernel
theorem dX11_feed_22 : decode cX11_feed 22 = .ok (.iload_n 2, 1) := by decide +kernel
theorem dX11_feed_23 : decode cX11_feed 23 = .ok (.invokevirtual 328, 3) := by decide +kernel
theorem dX11_feed_26 : decode cX11_feed 26 = .ok (.aload_n 0, 1) := by decide +kernel
theorem dX11_feed_27 : decode cX11_feed 27 = .ok (.iload_n 3, 1) := by decide +kernel
theorem dX11_feed_28 : decode cX11_feed 28 = .ok (.invokevirtual 328, 3) := by decide +kernel
theorem dX11_feed_31 : decode cX11_feed 31 = .ok (.aload_n 0, 1) := by decide +kernel
theorem dX11_feed_32 : decode cX11_feed 32 = .ok (.iload 4, 2) := by decide +kernel
theorem dX11_feed_34 : decode cX11_feed 34 = .ok (.invokevirtual 328, 3) := by decide +kernel
theorem dX11_feed_37 : decode cX11_feed 37 = .ok (.aload_n 0, 1) := by decide +kernel
theorem dX11_feed_38 : decode cX11_feed 38 = .ok (.iload 5, 2) := by decide +kernel
theorem dX11_feed_40 : decode cX11_feed 40 = .ok (.invokevirtual 328, 3) := by decide +kernel
theorem dX11_feed_43 : decode cX11_feed 43 = .ok (.aload_n 0, 1) := by decide +kernel
theorem dX11_feed_44 : decode cX11_feed 44 = .ok (.getfield 325, 3) := by decide +kernel
theorem dX11_feed_47 : decode cX11_feed 47 = .ok (.ireturn, 1) := by decide +kernel
theorem dX11_end_0 : decode cX11_end 0 = .ok (.iload_n 1, 1) := by decide +kernel
theorem dX11_end_1 : decode cX11_end 1 = .ok (.i2l, 1) := by decide +kernel
theorem dX11_end_2 : decode cX11_end 2 = .ok (.lconst 0, 1) := by decide +kernel
theorem dX11_end_3 : decode cX11_end 3 = .ok (.aload_n 0, 1) := by decide +kernel
theorem dX11_end_4 : decode cX11_end 4 = .ok (.getfield 325, 3) := by decide +kernel
theorem dX11_end_7 : decode cX11_end 7 = .ok (.i2l, 1) := by decide +kernel
theorem dX11_end_8 : decode cX11_end 8 = .ok (.invokestatic 332, 3) := by decide +kernel
theorem dX11_end_11 : decode cX11_end 11 = .ok (.ifCond .ne 5, 3) := by decide +kernel
theorem dX11_end_14 : decode cX11_end 14 = .ok (.iconst (-1), 1) := by decide +kernel
theorem dX11_end_15 : decode cX11_end 15 = .ok (.ireturn, 1) := by decide +kernel
theorem dX11_end_16 : decode cX11_end 16 = .ok (.aload_n 0, 1) := by decide +kernel
theorem dX11_end_17 : decode cX11_end 17 = .ok (.getfield 325, 3) := by decide +kernel
theorem dX11_end_20 : decode cX11_end 20 = .ok (.istore_n 2, 1) := by decide +kernel
theorem dX11_end_21 : decode cX11_end 21 = .ok (.aload_n 0, 1) := by decide +kernel
theorem dX11_end_22 : decode cX11_end 22 = .ok (.iload_n 1, 1) := by decide +kernel
theorem dX11_end_23 : decode cX11_end 23 = .ok (.putfield 325, 3) := by decide +kernel
theorem dX11_end_26 : decode cX11_end 26 = .ok (.iload_n 2, 1) := by decide +kernel
theorem dX11_end_27 : decode cX11_end 27 = .ok (.ireturn, 1) := by decide +kernel
theorem dX11_byteAt_0 : decode cX11_byteAt 0 = .ok (.iload_n 1, 1) := by decide +kernel
theorem dX11_byteAt_1 : decode cX11_byteAt 1 = .ok (.aload_n 0, 1) := by decide +kernel
theorem dX11_byteAt_2 : decode cX11_byteAt 2 = .ok (.getfield 325, 3) := by decide +kernel
theorem dX11_byteAt_5 : decode cX11_byteAt 5 = .ok (.if_icmp .ge 12, 3) := by decide +kernel
theorem dX11_byteAt_8 : decode cX11_byteAt 8 = .ok (.aload_n 0, 1) := by decide +kernel
theorem dX11_byteAt_9 : decode cX11_byteAt 9 = .ok (.getfield 7, 3) := by decide +kernel
theorem dX11_byteAt_12 : decode cX11_byteAt 12 = .ok (.iload_n 1, 1) := by decide +kernel
theorem dX11_byteAt_13 : decode cX11_byteAt 13 = .ok (.iaload, 1) := by decide +kernel
theorem dX11_byteAt_14 : decode cX11_byteAt 14 = .ok (.goto 4, 3) := by decide +kernel
theorem dX11_byteAt_17 : decode cX11_byteAt 17 = .ok (.iconst 0, 1) := by decide +kernel
theorem dX11_byteAt_18 : decode cX11_byteAt 18 = .ok (.ireturn, 1) := by decide +kernel
theorem dX11_isLetter_0 : decode cX11_isLetter 0 = .ok (.iload_n 0, 1) := by decide +kernel
theorem dX11_isLetter_1 : decode cX11_isLetter 1 = .ok (.bipush 97, 2) := by decide +kernel
theorem dX11_isLetter_3 : decode cX11_isLetter 3 = .ok (.if_icmp .lt 13, 3) := by decide +kernel
theorem dX11_isLetter_6 : decode cX11_isLetter 6 = .ok (.iload_n 0, 1) := by decide +kernel
theorem dX11_isLetter_7 : decode cX11_isLetter 7 = .ok (.bipush 122, 2) := by decide +kernel
theorem dX11_isLetter_9 : decode cX11_isLetter 9 = .ok (.if_icmp .gt 7, 3) := by decide +kernel
theorem dX11_isLetter_12 : decode cX11_isLetter 12 = .ok (.iconst 1, 1) := by decide +kernel
theorem dX11_isLetter_13 : decode cX11_isLetter 13 = .ok (.goto 4, 3) := by decide +kernel
theorem dX11_isLetter_16 : decode cX11_isLetter 16 = .ok (.iconst 0, 1) := by decide +kernel
theorem dX11_isLetter_17 : decode cX11_isLetter 17 = .ok (.ireturn, 1) := by decide +kernel
theorem dX11_isFigure_0 : decode cX11_isFigure 0 = .ok (.iload_n 0, 1) := by decide +kernel
theorem dX11_isFigure_1 : decode cX11_isFigure 1 = .ok (.bipush 48, 2) := by decide +kernel
theorem dX11_isFigure_3 : decode cX11_isFigure 3 = .ok (.if_icmp .lt 13, 3) := by decide +kernel
theorem dX11_isFigure_6 : decode cX11_isFigure 6 = .ok (.iload_n 0, 1) := by decide +kernel
theorem dX11_isFigure_7 : decode cX11_isFigure 7 = .ok (.bipush 57, 2) := by decide +kernel
theorem dX11_isFigure_9 : decode cX11_isFigure 9 = .ok (.if_icmp .gt 7, 3) := by decide +kernel
theorem dX11_isFigure_12 : decode cX11_isFigure 12 = .ok (.iconst 1, 1) := by decide +kernel
theorem dX11_isFigure_13 : decode cX11_isFigure 13 = .ok (.goto 4, 3) := by decide +kernel
theorem dX11_isFigure_16 : decode cX11_isFigure 16 = .ok (.iconst 0, 1) := by decide +kernel
theorem dX11_isFigure_17 : decode cX11_isFigure 17 = .ok (.ireturn, 1) := by decide +kernel
theorem dX11_isSign_0 : decode cX11_isSign 0 = .ok (.iload_n 0, 1) := by decide +kernel
theorem dX11_isSign_1 : decode cX11_isSign 1 = .ok (.bipush 59, 2) := by decide +kernel
theorem dX11_isSign_3 : decode cX11_isSign 3 = .ok (.if_icmp .eq 93, 3) := by decide +kernel
theorem dX11_isSign_6 : decode cX11_isSign 6 = .ok (.iload_n 0, 1) := by decide +kernel
theorem dX11_isSign_7 : decode cX11_isSign 7 = .ok (.bipush 44, 2) := by decide +kernel
theorem dX11_isSign_9 : decode cX11_isSign 9 = .ok (.if_icmp .eq 87, 3) := by decide +kernel
theorem dX11_isSign_12 : decode cX11_isSign 12 = .ok (.iload_n 0, 1) := by decide +kernel
theorem dX11_isSign_13 : decode cX11_isSign 13 = .ok (.bipush 58, 2) := by decide +kernel
theorem dX11_isSign_15 : decode cX11_isSign 15 = .ok (.if_icmp .eq 81, 3) := by decide +kernel
theorem dX11_isSign_18 : decode cX11_isSign 18 = .ok (.iload_n 0, 1) := by decide +kernel
theorem dX11_isSign_19 : decode cX11_isSign 19 = .ok (.bipush 40, 2) := by decide +kernel
theorem dX11_isSign_21 : decode cX11_isSign 21 = .ok (.if_icmp .eq 75, 3) := by decide +kernel
theorem dX11_isSign_24 : decode cX11_isSign 24 = .ok (.iload_n 0, 1) := by decide +kernel
theorem dX11_isSign_25 : decode cX11_isSign 25 = .ok (.bipush 41, 2) := by decide +kernel
theorem dX11_isSign_27 : decode cX11_isSign 27 = .ok (.if_icmp .eq 69, 3) := by decide +kernel
theorem dX11_isSign_30 : decode cX11_isSign 30 = .ok (.iload_n 0, 1) := by decide +kernel
theorem dX11_isSign_31 : decode cX11_isSign 31 = .ok (.bipush 91, 2) := by decide +kernel
theorem dX11_isSign_33 : decode cX11_isSign 33 = .ok (.if_icmp .eq 63, 3) := by decide +kernel
theorem dX11_isSign_36 : decode cX11_isSign 36 = .ok (.iload_n 0, 1) := by decide +kernel
theorem dX11_isSign_37 : decode cX11_isSign 37 = .ok (.bipush 93, 2) := by decide +kernel
theorem dX11_isSign_39 : decode cX11_isSign 39 = .ok (.if_icmp .eq 57, 3) := by decide +kernel
theorem dX11_isSign_42 : decode cX11_isSign 42 = .ok (.iload_n 0, 1) := by decide +kernel
theorem dX11_isSign_43 : decode cX11_isSign 43 = .ok (.bipush 63, 2) := by decide +kernel
theorem dX11_isSign_45 : decode cX11_isSign 45 = .ok (.if_icmp .eq 51, 3) := by decide +kernel
theorem dX11_isSign_48 : decode cX11_isSign 48 = .ok (.iload_n 0, 1) := by decide +kernel
theorem dX11_isSign_49 : decode cX11_isSign 49 = .ok (.bipush 43, 2) := by decide +kernel
theorem dX11_isSign_51 : decode cX11_isSign 51 = .ok (.if_icmp .eq 45, 3) := by decide +kernel
theorem dX11_isSign_54 : decode cX11_isSign 54 = .ok (.iload_n 0, 1) := by decide +kernel
theorem dX11_isSign_55 : decode cX11_isSign 55 = .ok (.bipush 45, 2) := by decide +kernel
theorem dX11_isSign_57 : decode cX11_isSign 57 = .ok (.if_icmp .eq 39, 3) := by decide +kernel
theorem dX11_isSign_60 : decode cX11_isSign 60 = .ok (.iload_n 0, 1) := by decide +kernel
theorem dX11_isSign_61 : decode cX11_isSign 61 = .ok (.bipush 42, 2) := by decide +kernel
theorem dX11_isSign_63 : decode cX11_isSign 63 = .ok (.if_icmp .eq 33, 3) := by decide +kernel
theorem dX11_isSign_66 : decode cX11_isSign 66 = .ok (.iload_n 0, 1) := by decide +kernel
theorem dX11_isSign_67 : decode cX11_isSign 67 = .ok (.bipush 47, 2) := by decide +kernel
theorem dX11_isSign_69 : decode cX11_isSign 69 = .ok (.if_icmp .eq 27, 3) := by decide +kernel
theorem dX11_isSign_72 : decode cX11_isSign 72 = .ok (.iload_n 0, 1) := by decide +kernel
theorem dX11_isSign_73 : decode cX11_isSign 73 = .ok (.bipush 37, 2) := by decide +kernel
theorem dX11_isSign_75 : decode cX11_isSign 75 = .ok (.if_icmp .eq 21, 3) := by decide +kernel
theorem dX11_isSign_78 : decode cX11_isSign 78 = .ok (.iload_n 0, 1) := by decide +kernel
theorem dX11_isSign_79 : decode cX11_isSign 79 = .ok (.bipush 61, 2) := by decide +kernel
theorem dX11_isSign_81 : decode cX11_isSign 81 = .ok (.if_icmp .eq 15, 3) := by decide +kernel
theorem dX11_isSign_84 : decode cX11_isSign 84 = .ok (.iload_n 0, 1) := by decide +kernel
theorem dX11_isSign_85 : decode cX11_isSign 85 = .ok (.bipush 60, 2) := by decide +kernel
theorem dX11_isSign_87 : decode cX11_isSign 87 = .ok (.if_icmp .eq 9, 3) := by decide +kernel
theorem dX11_isSign_90 : decode cX11_isSign 90 = .ok (.iload_n 0, 1) := by decide +kernel
theorem dX11_isSign_91 : decode cX11_isSign 91 = .ok (.bipush 62, 2) := by decide +kernel
theorem dX11_isSign_93 : decode cX11_isSign 93 = .ok (.if_icmp .ne 7, 3) := by decide +kernel
theorem dX11_isSign_96 : decode cX11_isSign 96 = .ok (.iconst 1, 1) := by decide +kernel
theorem dX11_isSign_97 : decode cX11_isSign 97 = .ok (.goto 4, 3) := by decide +kernel
theorem dX11_isSign_100 : decode cX11_isSign 100 = .ok (.iconst 0, 1) := by decide +kernel
theorem dX11_isSign_101 : decode cX11_isSign 101 = .ok (.ireturn, 1) := by decide +kernel
theorem dX11_cut_0 : decode cX11_cut 0 = .ok (.iconst 0, 1) := by decide +kernel
theorem dX11_cut_1 : decode cX11_cut 1 = .ok (.istore_n 1, 1) := by decide +kernel
theorem dX11_cut_2 : decode cX11_cut 2 = .ok (.iconst 0, 1) := by decide +kernel
theorem dX11_cut_3 : decode cX11_cut 3 = .ok (.istore_n 2, 1) := by decide +kernel
theorem dX11_cut_4 : decode cX11_cut 4 = .ok (.iconst 1, 1) := by decide +kernel
theorem dX11_cut_5 : decode cX11_cut 5 = .ok (.istore_n 3, 1) := by decide +kernel
theorem dX11_cut_6 : decode cX11_cut 6 = .ok (.iload_n 3, 1) := by decide +kernel
theorem dX11_cut_7 : decode cX11_cut 7 = .ok (.ifCond .eq 401, 3) := by decide +kernel
theorem dX11_cut_10 : decode cX11_cut 10 = .ok (.aload_n 0, 1) := by decide +kernel
theorem dX11_cut_11 : decode cX11_cut 11 = .ok (.iload_n 2, 1) := by decide +kernel
theorem dX11_cut_12 : decode cX11_cut 12 = .ok (.invokevirtual 336, 3) := by decide +kernel
theorem dX11_cut_15 : decode cX11_cut 15 = .ok (.bipush 32, 2) := by decide +kernel
theorem dX11_cut_17 : decode cX11_cut 17 = .ok (.if_icmp .eq 13, 3) := by decide +kernel
theorem dX11_cut_20 : decode cX11_cut 20 = .ok (.aload_n 0, 1) := by decide +kernel
theorem dX11_cut_21 : decode cX11_cut 21 = .ok (.iload_n 2, 1) := by decide +kernel
theorem dX11_cut_22 : decode cX11_cut 22 = .ok (.invokevirtual 336, 3) := by decide +kernel
theorem dX11_cut_25 : decode cX11_cut 25 = .ok (.bipush 10, 2) := by decide +kernel
theorem dX11_cut_27 : decode cX11_cut 27 = .ok (.if_icmp .ne 9, 3) := by decide +kernel
theorem dX11_cut_30 : decode cX11_cut 30 = .ok (.iinc 2 1, 3) := by decide +kernel
theorem dX11_cut_33 : decode cX11_cut 33 = .ok (.goto (-23), 3) := by decide +kernel
theorem dX11_cut_36 : decode cX11_cut 36 = .ok (.iload_n 2, 1) := by decide +kernel
theorem dX11_cut_37 : decode cX11_cut 37 = .ok (.istore 4, 2) := by decide +kernel
theorem dX11_cut_39 : decode cX11_cut 39 = .ok (.aload_n 0, 1) := by decide +kernel
theorem dX11_cut_40 : decode cX11_cut 40 = .ok (.iload_n 2, 1) := by decide +kernel
theorem dX11_cut_41 : decode cX11_cut 41 = .ok (.invokevirtual 336, 3) := by decide +kernel
theorem dX11_cut_44 : decode cX11_cut 44 = .ok (.istore 5, 2) := by decide +kernel
theorem dX11_cut_46 : decode cX11_cut 46 = .ok (.aload_n 0, 1) := by decide +kernel
theorem dX11_cut_47 : decode cX11_cut 47 = .ok (.iload_n 2, 1) := by decide +kernel
theorem dX11_cut_48 : decode cX11_cut 48 = .ok (.iconst 1, 1) := by decide +kernel
theorem dX11_cut_49 : decode cX11_cut 49 = .ok (.iadd, 1) := by decide +kernel
theorem dX11_cut_50 : decode cX11_cut 50 = .ok (.invokevirtual 336, 3) := by decide +kernel
theorem dX11_cut_53 : decode cX11_cut 53 = .ok (.istore 6, 2) := by decide +kernel
theorem dX11_cut_55 : decode cX11_cut 55 = .ok (.aload_n 0, 1) := by decide +kernel
theorem dX11_cut_56 : decode cX11_cut 56 = .ok (.getfield 16, 3) := by decide +kernel
theorem dX11_cut_59 : decode cX11_cut 59 = .ok (.iload_n 1, 1) := by decide +kernel
theorem dX11_cut_60 : decode cX11_cut 60 = .ok (.iload_n 2, 1) := by decide +kernel
theorem dX11_cut_61 : decode cX11_cut 61 = .ok (.iastore, 1) := by decide +kernel
theorem dX11_cut_62 : decode cX11_cut 62 = .ok (.lconst 0, 1) := by decide +kernel
theorem dX11_cut_63 : decode cX11_cut 63 = .ok (.lstore 7, 2) := by decide +kernel
theorem dX11_cut_65 : decode cX11_cut 65 = .ok (.iload_n 2, 1) := by decide +kernel
theorem dX11_cut_66 : decode cX11_cut 66 = .ok (.aload_n 0, 1) := by decide +kernel
theorem dX11_cut_67 : decode cX11_cut 67 = .ok (.getfield 325, 3) := by decide +kernel
theorem dX11_cut_70 : decode cX11_cut 70 = .ok (.if_icmp .lt 25, 3) := by decide +kernel
theorem dX11_cut_73 : decode cX11_cut 73 = .ok (.aload_n 0, 1) := by decide +kernel
theorem dX11_cut_74 : decode cX11_cut 74 = .ok (.getfield 13, 3) := by decide +kernel
theorem dX11_cut_77 : decode cX11_cut 77 = .ok (.iload_n 1, 1) := by decide +kernel
theorem dX11_cut_78 : decode cX11_cut 78 = .ok (.iconst 0, 1) := by decide +kernel
theorem dX11_cut_79 : decode cX11_cut 79 = .ok (.iastore, 1) := by decide +kernel
theorem dX11_cut_80 : decode cX11_cut 80 = .ok (.aload_n 0, 1) := by decide +kernel
theorem dX11_cut_81 : decode cX11_cut 81 = .ok (.getfield 16, 3) := by decide +kernel
theorem dX11_cut_84 : decode cX11_cut 84 = .ok (.iload_n 1, 1) := by decide +kernel
theorem dX11_cut_85 : decode cX11_cut 85 = .ok (.aload_n 0, 1) := by decide +kernel
theorem dX11_cut_86 : decode cX11_cut 86 = .ok (.getfield 325, 3) := by decide +kernel
theorem dX11_cut_89 : decode cX11_cut 89 = .ok (.iastore, 1) := by decide +kernel
theorem dX11_cut_90 : decode cX11_cut 90 = .ok (.iconst 0, 1) := by decide +kernel
theorem dX11_cut_91 : decode cX11_cut 91 = .ok (.istore_n 3, 1) := by decide +kernel
theorem dX11_cut_92 : decode cX11_cut 92 = .ok (.goto 282, 3) := by decide +kernel
theorem dX11_cut_95 : decode cX11_cut 95 = .ok (.iload 5, 2) := by decide +kernel
theorem dX11_cut_97 : decode cX11_cut 97 = .ok (.invokestatic 340, 3) := by decide +kernel
theorem dX11_cut_100 : decode cX11_cut 100 = .ok (.ifCond .eq 76, 3) := by decide +kernel
theorem dX11_cut_103 : decode cX11_cut 103 = .ok (.aload_n 0, 1) := by decide +kernel
theorem dX11_cut_104 : decode cX11_cut 104 = .ok (.iload_n 2, 1) := by decide +kernel
theorem dX11_cut_105 : decode cX11_cut 105 = .ok (.invokevirtual 336, 3) := by decide +kernel
theorem dX11_cut_108 : decode cX11_cut 108 = .ok (.invokestatic 340, 3) := by decide +kernel
theorem dX11_cut_111 : decode cX11_cut 111 = .ok (.ifCond .eq 42, 3) := by decide +kernel
theorem dX11_cut_114 : decode cX11_cut 114 = .ok (.iload_n 2, 1) := by decide +kernel
theorem dX11_cut_115 : decode cX11_cut 115 = .ok (.iload 4, 2) := by decide +kernel
theorem dX11_cut_117 : decode cX11_cut 117 = .ok (.isub, 1) := by decide +kernel
theorem dX11_cut_118 : decode cX11_cut 118 = .ok (.bipush 10, 2) := by decide +kernel
theorem dX11_cut_120 : decode cX11_cut 120 = .ok (.if_icmp .ge 23, 3) := by decide +kernel
theorem dX11_cut_123 : decode cX11_cut 123 = .ok (.ldc2_w 344, 3) := by decide +kernel
theorem dX11_cut_126 : decode cX11_cut 126 = .ok (.lload 7, 2) := by decide +kernel
theorem dX11_cut_128 : decode cX11_cut 128 = .ok (.lmul, 1) := by decide +kernel
theorem dX11_cut_129 : decode cX11_cut 129 = .ok (.aload_n 0, 1) := by decide +kernel
theorem dX11_cut_130 : decode cX11_cut 130 = .ok (.iload_n 2, 1) := by decide +kernel
theorem dX11_cut_131 : decode cX11_cut 131 = .ok (.invokevirtual 336, 3) := by decide +kernel
theorem dX11_cut_134 : decode cX11_cut 134 = .ok (.i2l, 1) := by decide +kernel
theorem dX11_cut_135 : decode cX11_cut 135 = .ok (.ladd, 1) := by decide +kernel
theorem dX11_cut_136 : decode cX11_cut 136 = .ok (.ldc2_w 346, 3) := by decide +kernel
theorem dX11_cut_139 : decode cX11_cut 139 = .ok (.lsub, 1) := by decide +kernel
theorem dX11_cut_140 : decode cX11_cut 140 = .ok (.goto 5, 3) := by decide +kernel
theorem dX11_cut_143 : decode cX11_cut 143 = .ok (.lload 7, 2) := by decide +kernel
theorem dX11_cut_145 : decode cX11_cut 145 = .ok (.lstore 7, 2) := by decide +kernel
theorem dX11_cut_147 : decode cX11_cut 147 = .ok (.iinc 2 1, 3) := by decide +kernel
theorem dX11_cut_150 : decode cX11_cut 150 = .ok (.goto (-47), 3) := by decide +kernel
theorem dX11_cut_153 : decode cX11_cut 153 = .ok (.aload_n 0, 1) := by decide +kernel
theorem dX11_cut_154 : decode cX11_cut 154 = .ok (.getfield 13, 3) := by decide +kernel
theorem dX11_cut_157 : decode cX11_cut 157 = .ok (.iload_n 1, 1) := by decide +kernel
theorem dX11_cut_158 : decode cX11_cut 158 = .ok (.iload_n 2, 1) := by decide +kernel
theorem dX11_cut_159 : decode cX11_cut 159 = .ok (.iload 4, 2) := by decide +kernel
theorem dX11_cut_161 : decode cX11_cut 161 = .ok (.isub, 1) := by decide +kernel
theorem dX11_cut_162 : decode cX11_cut 162 = .ok (.bipush 10, 2) := by decide +kernel
theorem dX11_cut_164 : decode cX11_cut 164 = .ok (.if_icmp .le 7, 3) := by decide +kernel
theorem dX11_cut_167 : decode cX11_cut 167 = .ok (.iconst 4, 1) := by decide +kernel
theorem dX11_cut_168 : decode cX11_cut 168 = .ok (.goto 4, 3) := by decide +kernel
theorem dX11_cut_171 : decode cX11_cut 171 = .ok (.iconst 1, 1) := by decide +kernel
theorem dX11_cut_172 : decode cX11_cut 172 = .ok (.iastore, 1) := by decide +kernel
theorem dX11_cut_173 : decode cX11_cut 173 = .ok (.goto 201, 3) := by decide +kernel
theorem dX11_cut_176 : decode cX11_cut 176 = .ok (.iload 5, 2) := by decide +kernel
theorem dX11_cut_178 : decode cX11_cut 178 = .ok (.invokestatic 348, 3) := by decide +kernel
theorem dX11_cut_181 : decode cX11_cut 181 = .ok (.ifCond .eq 76, 3) := by decide +kernel
theorem dX11_cut_184 : decode cX11_cut 184 = .ok (.aload_n 0, 1) := by decide +kernel
theorem dX11_cut_185 : decode cX11_cut 185 = .ok (.iload_n 2, 1) := by decide +kernel
theorem dX11_cut_186 : decode cX11_cut 186 = .ok (.invokevirtual 336, 3) := by decide +kernel
theorem dX11_cut_189 : decode cX11_cut 189 = .ok (.invokestatic 348, 3) := by decide +kernel
theorem dX11_cut_192 : decode cX11_cut 192 = .ok (.ifCond .eq 42, 3) := by decide +kernel
theorem dX11_cut_195 : decode cX11_cut 195 = .ok (.iload_n 2, 1) := by decide +kernel
theorem dX11_cut_196 : decode cX11_cut 196 = .ok (.iload 4, 2) := by decide +kernel
theorem dX11_cut_198 : decode cX11_cut 198 = .ok (.isub, 1) := by decide +kernel
theorem dX11_cut_199 : decode cX11_cut 199 = .ok (.bipush 6, 2) := by decide +kernel
theorem dX11_cut_201 : decode cX11_cut 201 = .ok (.if_icmp .ge 23, 3) := by decide +kernel
theorem dX11_cut_204 : decode cX11_cut 204 = .ok (.ldc2_w 351, 3) := by decide +kernel
theorem dX11_cut_207 : decode cX11_cut 207 = .ok (.lload 7, 2) := by decide +kernel
theorem dX11_cut_209 : decode cX11_cut 209 = .ok (.lmul, 1) := by decide +kernel
theorem dX11_cut_210 : decode cX11_cut 210 = .ok (.aload_n 0, 1) := by decide +kernel
theorem dX11_cut_211 : decode cX11_cut 211 = .ok (.iload_n 2, 1) := by decide +kernel
theorem dX11_cut_212 : decode cX11_cut 212 = .ok (.invokevirtual 336, 3) := by decide +kernel
theorem dX11_cut_215 : decode cX11_cut 215 = .ok (.i2l, 1) := by decide +kernel
theorem dX11_cut_216 : decode cX11_cut 216 = .ok (.ladd, 1) := by decide +kernel
theorem dX11_cut_217 : decode cX11_cut 217 = .ok (.ldc2_w 353, 3) := by decide +kernel
theorem dX11_cut_220 : decode cX11_cut 220 = .ok (.lsub, 1) := by decide +kernel
theorem dX11_cut_221 : decode cX11_cut 221 = .ok (.goto 5, 3) := by decide +kernel
theorem dX11_cut_224 : decode cX11_cut 224 = .ok (.lload 7, 2) := by decide +kernel
theorem dX11_cut_226 : decode cX11_cut 226 = .ok (.lstore 7, 2) := by decide +kernel
theorem dX11_cut_228 : decode cX11_cut 228 = .ok (.iinc 2 1, 3) := by decide +kernel
theorem dX11_cut_231 : decode cX11_cut 231 = .ok (.goto (-47), 3) := by decide +kernel
theorem dX11_cut_234 : decode cX11_cut 234 = .ok (.aload_n 0, 1) := by decide +kernel
theorem dX11_cut_235 : decode cX11_cut 235 = .ok (.getfield 13, 3) := by decide +kernel
theorem dX11_cut_238 : decode cX11_cut 238 = .ok (.iload_n 1, 1) := by decide +kernel
theorem dX11_cut_239 : decode cX11_cut 239 = .ok (.iload_n 2, 1) := by decide +kernel
theorem dX11_cut_240 : decode cX11_cut 240 = .ok (.iload 4, 2) := by decide +kernel
theorem dX11_cut_242 : decode cX11_cut 242 = .ok (.isub, 1) := by decide +kernel
theorem dX11_cut_243 : decode cX11_cut 243 = .ok (.bipush 6, 2) := by decide +kernel
theorem dX11_cut_245 : decode cX11_cut 245 = .ok (.if_icmp .le 7, 3) := by decide +kernel
theorem dX11_cut_248 : decode cX11_cut 248 = .ok (.iconst 4, 1) := by decide +kernel
theorem dX11_cut_249 : decode cX11_cut 249 = .ok (.goto 4, 3) := by decide +kernel
theorem dX11_cut_252 : decode cX11_cut 252 = .ok (.iconst 2, 1) := by decide +kernel
theorem dX11_cut_253 : decode cX11_cut 253 = .ok (.iastore, 1) := by decide +kernel
theorem dX11_cut_254 : decode cX11_cut 254 = .ok (.goto 120, 3) := by decide +kernel
theorem dX11_cut_257 : decode cX11_cut 257 = .ok (.iload 5, 2) := by decide +kernel
theorem dX11_cut_259 : decode cX11_cut 259 = .ok (.bipush 124, 2) := by decide +kernel
theorem dX11_cut_261 : decode cX11_cut 261 = .ok (.if_icmp .ne 10, 3) := by decide +kernel
theorem dX11_cut_264 : decode cX11_cut 264 = .ok (.iload 6, 2) := by decide +kernel
theorem dX11_cut_266 : decode cX11_cut 266 = .ok (.bipush 124, 2) := by decide +kernel
theorem dX11_cut_268 : decode cX11_cut 268 = .ok (.if_icmp .eq 38, 3) := by decide +kernel
theorem dX11_cut_271 : decode cX11_cut 271 = .ok (.iload 5, 2) := by decide +kernel
theorem dX11_cut_273 : decode cX11_cut 273 = .ok (.bipush 58, 2) := by decide +kernel
theorem dX11_cut_275 : decode cX11_cut 275 = .ok (.if_icmp .eq 24, 3) := by decide +kernel
theorem dX11_cut_278 : decode cX11_cut 278 = .ok (.iload 5, 2) := by decide +kernel
theorem dX11_cut_280 : decode cX11_cut 280 = .ok (.bipush 33, 2) := by decide +kernel
theorem dX11_cut_282 : decode cX11_cut 282 = .ok (.if_icmp .eq 17, 3) := by decide +kernel
theorem dX11_cut_285 : decode cX11_cut 285 = .ok (.iload 5, 2) := by decide +kernel
theorem dX11_cut_287 : decode cX11_cut 287 = .ok (.bipush 60, 2) := by decide +kernel
theorem dX11_cut_289 : decode cX11_cut 289 = .ok (.if_icmp .eq 10, 3) := by decide +kernel
theorem dX11_cut_292 : decode cX11_cut 292 = .ok (.iload 5, 2) := by decide +kernel
theorem dX11_cut_294 : decode cX11_cut 294 = .ok (.bipush 62, 2) := by decide +kernel
theorem dX11_cut_296 : decode cX11_cut 296 = .ok (.if_icmp .ne 14, 3) := by decide +kernel
theorem dX11_cut_299 : decode cX11_cut 299 = .ok (.iload 6, 2) := by decide +kernel
theorem dX11_cut_301 : decode cX11_cut 301 = .ok (.bipush 61, 2) := by decide +kernel
theorem dX11_cut_303 : decode cX11_cut 303 = .ok (.if_icmp .ne 7, 3) := by decide +kernel
theorem dX11_cut_306 : decode cX11_cut 306 = .ok (.iconst 1, 1) := by decide +kernel
theorem dX11_cut_307 : decode cX11_cut 307 = .ok (.goto 4, 3) := by decide +kernel
theorem dX11_cut_310 : decode cX11_cut 310 = .ok (.iconst 0, 1) := by decide +kernel
theorem dX11_cut_311 : decode cX11_cut 311 = .ok (.istore 9, 2) := by decide +kernel
theorem dX11_cut_313 : decode cX11_cut 313 = .ok (.aload_n 0, 1) := by decide +kernel
theorem dX11_cut_314 : decode cX11_cut 314 = .ok (.getfield 13, 3) := by decide +kernel
theorem dX11_cut_317 : decode cX11_cut 317 = .ok (.iload_n 1, 1) := by decide +kernel
theorem dX11_cut_318 : decode cX11_cut 318 = .ok (.iload 9, 2) := by decide +kernel
theorem dX11_cut_320 : decode cX11_cut 320 = .ok (.ifCond .ne 11, 3) := by decide +kernel
theorem dX11_cut_323 : decode cX11_cut 323 = .ok (.iload 5, 2) := by decide +kernel
theorem dX11_cut_325 : decode cX11_cut 325 = .ok (.invokestatic 355, 3) := by decide +kernel
theorem dX11_cut_328 : decode cX11_cut 328 = .ok (.ifCond .eq 7, 3) := by decide +kernel
theorem dX11_cut_331 : decode cX11_cut 331 = .ok (.iconst 3, 1) := by decide +kernel
theorem dX11_cut_332 : decode cX11_cut 332 = .ok (.goto 4, 3) := by decide +kernel
theorem dX11_cut_335 : decode cX11_cut 335 = .ok (.iconst 4, 1) := by decide +kernel
theorem dX11_cut_336 : decode cX11_cut 336 = .ok (.iastore, 1) := by decide +kernel
theorem dX11_cut_337 : decode cX11_cut 337 = .ok (.iload 9, 2) := by decide +kernel
theorem dX11_cut_339 : decode cX11_cut 339 = .ok (.ifCond .eq 17, 3) := by decide +kernel
theorem dX11_cut_342 : decode cX11_cut 342 = .ok (.ldc2_w 358, 3) := by decide +kernel
theorem dX11_cut_345 : decode cX11_cut 345 = .ok (.iload 5, 2) := by decide +kernel
theorem dX11_cut_347 : decode cX11_cut 347 = .ok (.i2l, 1) := by decide +kernel
theorem dX11_cut_348 : decode cX11_cut 348 = .ok (.lmul, 1) := by decide +kernel
theorem dX11_cut_349 : decode cX11_cut 349 = .ok (.iload 6, 2) := by decide +kernel
theorem dX11_cut_351 : decode cX11_cut 351 = .ok (.i2l, 1) := by decide +kernel
theorem dX11_cut_352 : decode cX11_cut 352 = .ok (.ladd, 1) := by decide +kernel
theorem dX11_cut_353 : decode cX11_cut 353 = .ok (.goto 6, 3) := by decide +kernel
theorem dX11_cut_356 : decode cX11_cut 356 = .ok (.iload 5, 2) := by decide +kernel
theorem dX11_cut_358 : decode cX11_cut 358 = .ok (.i2l, 1) := by decide +kernel
theorem dX11_cut_359 : decode cX11_cut 359 = .ok (.lstore 7, 2) := by decide +kernel
theorem dX11_cut_361 : decode cX11_cut 361 = .ok (.iload_n 2, 1) := by decide +kernel
theorem dX11_cut_362 : decode cX11_cut 362 = .ok (.iload 9, 2) := by decide +kernel
theorem dX11_cut_364 : decode cX11_cut 364 = .ok (.ifCond .eq 7, 3) := by decide +kernel
theorem dX11_cut_367 : decode cX11_cut 367 = .ok (.iconst 2, 1) := by decide +kernel
theorem dX11_cut_368 : decode cX11_cut 368 = .ok (.goto 4, 3) := by decide +kernel
theorem dX11_cut_371 : decode cX11_cut 371 = .ok (.iconst 1, 1) := by decide +kernel
theorem dX11_cut_372 : decode cX11_cut 372 = .ok (.iadd, 1) := by decide +kernel
theorem dX11_cut_373 : decode cX11_cut 373 = .ok (.istore_n 2, 1) := by decide +kernel
theorem dX11_cut_374 : decode cX11_cut 374 = .ok (.aload_n 0, 1) := by decide +kernel
theorem dX11_cut_375 : decode cX11_cut 375 = .ok (.getfield 19, 3) := by decide +kernel
theorem dX11_cut_378 : decode cX11_cut 378 = .ok (.iload_n 1, 1) := by decide +kernel
theorem dX11_cut_379 : decode cX11_cut 379 = .ok (.lload 7, 2) := by decide +kernel
theorem dX11_cut_381 : decode cX11_cut 381 = .ok (.lastore, 1) := by decide +kernel
theorem dX11_cut_382 : decode cX11_cut 382 = .ok (.iload_n 3, 1) := by decide +kernel
theorem dX11_cut_383 : decode cX11_cut 383 = .ok (.ifCond .eq 17, 3) := by decide +kernel
theorem dX11_cut_386 : decode cX11_cut 386 = .ok (.aload_n 0, 1) := by decide +kernel
theorem dX11_cut_387 : decode cX11_cut 387 = .ok (.getfield 13, 3) := by decide +kernel
theorem dX11_cut_390 : decode cX11_cut 390 = .ok (.iload_n 1, 1) := by decide +kernel
theorem dX11_cut_391 : decode cX11_cut 391 = .ok (.iaload, 1) := by decide +kernel
theorem dX11_cut_392 : decode cX11_cut 392 = .ok (.iconst 4, 1) := by decide +kernel
theorem dX11_cut_393 : decode cX11_cut 393 = .ok (.if_icmp .eq 7, 3) := by decide +kernel
theorem dX11_cut_396 : decode cX11_cut 396 = .ok (.iconst 1, 1) := by decide +kernel
theorem dX11_cut_397 : decode cX11_cut 397 = .ok (.goto 4, 3) := by decide +kernel
theorem dX11_cut_400 : decode cX11_cut 400 = .ok (.iconst 0, 1) := by decide +kernel
theorem dX11_cut_401 : decode cX11_cut 401 = .ok (.istore_n 3, 1) := by decide +kernel
theorem dX11_cut_402 : decode cX11_cut 402 = .ok (.iinc 1 1, 3) := by decide +kernel
theorem dX11_cut_405 : decode cX11_cut 405 = .ok (.goto (-399), 3) := by decide +kernel
theorem dX11_cut_408 : decode cX11_cut 408 = .ok (.return_, 1) := by decide +kernel
theorem dX11_fails_0 : decode cX11_fails 0 = .ok (.aload_n 0, 1) := by decide +kernel
theorem dX11_fails_1 : decode cX11_fails 1 = .ok (.getfield 360, 3) := by decide +kernel
theorem dX11_fails_4 : decode cX11_fails 4 = .ok (.ifCond .ne 13, 3) := by decide +kernel
theorem dX11_fails_7 : decode cX11_fails 7 = .ok (.aload_n 0, 1) := by decide +kernel
theorem dX11_fails_8 : decode cX11_fails 8 = .ok (.iload_n 1, 1) := by decide +kernel
theorem dX11_fails_9 : decode cX11_fails 9 = .ok (.putfield 360, 3) := by decide +kernel
theorem dX11_fails_12 : decode cX11_fails 12 = .ok (.aload_n 0, 1) := by decide +kernel
theorem dX11_fails_13 : decode cX11_fails 13 = .ok (.iload_n 2, 1) := by decide +kernel
theorem dX11_fails_14 : decode cX11_fails 14 = .ok (.putfield 363, 3) := by decide +kernel
theorem dX11_fails_17 : decode cX11_fails 17 = .ok (.return_, 1) := by decide +kernel
theorem dX11_take_0 : decode cX11_take 0 = .ok (.aload_n 0, 1) := by decide +kernel
theorem dX11_take_1 : decode cX11_take 1 = .ok (.dup, 1) := by decide +kernel
theorem dX11_take_2 : decode cX11_take 2 = .ok (.getfield 366, 3) := by decide +kernel
theorem dX11_take_5 : decode cX11_take 5 = .ok (.iconst 1, 1) := by decide +kernel
theorem dX11_take_6 : decode cX11_take 6 = .ok (.iadd, 1) := by decide +kernel
theorem dX11_take_7 : decode cX11_take 7 = .ok (.putfield 366, 3) := by decide +kernel
theorem dX11_take_10 : decode cX11_take 10 = .ok (.aload_n 0, 1) := by decide +kernel
theorem dX11_take_11 : decode cX11_take 11 = .ok (.getfield 13, 3) := by decide +kernel
theorem dX11_take_14 : decode cX11_take 14 = .ok (.aload_n 0, 1) := by decide +kernel
theorem dX11_take_15 : decode cX11_take 15 = .ok (.getfield 366, 3) := by decide +kernel
theorem dX11_take_18 : decode cX11_take 18 = .ok (.iaload, 1) := by decide +kernel
theorem dX11_take_19 : decode cX11_take 19 = .ok (.iconst 4, 1) := by decide +kernel
theorem dX11_take_20 : decode cX11_take 20 = .ok (.if_icmp .ne 17, 3) := by decide +kernel
theorem dX11_take_23 : decode cX11_take 23 = .ok (.aload_n 0, 1) := by decide +kernel
theorem dX11_take_24 : decode cX11_take 24 = .ok (.iconst 1, 1) := by decide +kernel
theorem dX11_take_25 : decode cX11_take 25 = .ok (.aload_n 0, 1) := by decide +kernel
theorem dX11_take_26 : decode cX11_take 26 = .ok (.getfield 16, 3) := by decide +kernel
theorem dX11_take_29 : decode cX11_take 29 = .ok (.aload_n 0, 1) := by decide +kernel
theorem dX11_take_30 : decode cX11_take 30 = .ok (.getfield 366, 3) := by decide +kernel
theorem dX11_take_33 : decode cX11_take 33 = .ok (.iaload, 1) := by decide +kernel
theorem dX11_take_34 : decode cX11_take 34 = .ok (.invokevirtual 369, 3) := by decide +kernel
theorem dX11_take_37 : decode cX11_take 37 = .ok (.return_, 1) := by decide +kernel
theorem dX11_isSaid_0 : decode cX11_isSaid 0 = .ok (.aload_n 0, 1) := by decide +kernel
theorem dX11_isSaid_1 : decode cX11_isSaid 1 = .ok (.getfield 13, 3) := by decide +kernel
theorem dX11_isSaid_4 : decode cX11_isSaid 4 = .ok (.aload_n 0, 1) := by decide +kernel
theorem dX11_isSaid_5 : decode cX11_isSaid 5 = .ok (.getfield 366, 3) := by decide +kernel
theorem dX11_isSaid_8 : decode cX11_isSaid 8 = .ok (.iaload, 1) := by decide +kernel
theorem dX11_isSaid_9 : decode cX11_isSaid 9 = .ok (.iload_n 1, 1) := by decide +kernel
theorem dX11_isSaid_10 : decode cX11_isSaid 10 = .ok (.if_icmp .ne 21, 3) := by decide +kernel
theorem dX11_isSaid_13 : decode cX11_isSaid 13 = .ok (.aload_n 0, 1) := by decide +kernel
theorem dX11_isSaid_14 : decode cX11_isSaid 14 = .ok (.getfield 19, 3) := by decide +kernel
theorem dX11_isSaid_17 : decode cX11_isSaid 17 = .ok (.aload_n 0, 1) := by decide +kernel
theorem dX11_isSaid_18 : decode cX11_isSaid 18 = .ok (.getfield 366, 3) := by decide +kernel
theorem dX11_isSaid_21 : decode cX11_isSaid 21 = .ok (.laload, 1) := by decide +kernel
theorem dX11_isSaid_22 : decode cX11_isSaid 22 = .ok (.lload_n 2, 1) := by decide +kernel
theorem dX11_isSaid_23 : decode cX11_isSaid 23 = .ok (.lcmp, 1) := by decide +kernel
theorem dX11_isSaid_24 : decode cX11_isSaid 24 = .ok (.ifCond .ne 7, 3) := by decide +kernel
theorem dX11_isSaid_27 : decode cX11_isSaid 27 = .ok (.iconst 1, 1) := by decide +kernel
theorem dX11_isSaid_28 : decode cX11_isSaid 28 = .ok (.goto 4, 3) := by decide +kernel
theorem dX11_isSaid_31 : decode cX11_isSaid 31 = .ok (.iconst 0, 1) := by decide +kernel
theorem dX11_isSaid_32 : decode cX11_isSaid 32 = .ok (.ireturn, 1) := by decide +kernel
theorem dX11_want_0 : decode cX11_want 0 = .ok (.aload_n 0, 1) := by decide +kernel
theorem dX11_want_1 : decode cX11_want 1 = .ok (.getfield 360, 3) := by decide +kernel
theorem dX11_want_4 : decode cX11_want 4 = .ok (.ifCond .ne 33, 3) := by decide +kernel
theorem dX11_want_7 : decode cX11_want 7 = .ok (.aload_n 0, 1) := by decide +kernel
theorem dX11_want_8 : decode cX11_want 8 = .ok (.iload_n 1, 1) := by decide +kernel
theorem dX11_want_9 : decode cX11_want 9 = .ok (.lload_n 2, 1) := by decide +kernel
theorem dX11_want_10 : decode cX11_want 10 = .ok (.invokevirtual 373, 3) := by decide +kernel
theorem dX11_want_13 : decode cX11_want 13 = .ok (.ifCond .eq 10, 3) := by decide +kernel
theorem dX11_want_16 : decode cX11_want 16 = .ok (.aload_n 0, 1) := by decide +kernel
theorem dX11_want_17 : decode cX11_want 17 = .ok (.invokevirtual 377, 3) := by decide +kernel
theorem dX11_want_20 : decode cX11_want 20 = .ok (.goto 17, 3) := by decide +kernel
theorem dX11_want_23 : decode cX11_want 23 = .ok (.aload_n 0, 1) := by decide +kernel
theorem dX11_want_24 : decode cX11_want 24 = .ok (.iconst 2, 1) := by decide +kernel
theorem dX11_want_25 : decode cX11_want 25 = .ok (.aload_n 0, 1) := by decide +kernel
theorem dX11_want_26 : decode cX11_want 26 = .ok (.getfield 16, 3) := by decide +kernel
theorem dX11_want_29 : decode cX11_want 29 = .ok (.aload_n 0, 1) := by decide +kernel
theorem dX11_want_30 : decode cX11_want 30 = .ok (.getfield 366, 3) := by decide +kernel
theorem dX11_want_33 : decode cX11_want 33 = .ok (.iaload, 1) := by decide +kernel
theorem dX11_want_34 : decode cX11_want 34 = .ok (.invokevirtual 369, 3) := by decide +kernel
theorem dX11_want_37 : decode cX11_want 37 = .ok (.return_, 1) := by decide +kernel
theorem dX11_isKey_0 : decode cX11_isKey 0 = .ok (.aload_n 0, 1) := by decide +kernel
theorem dX11_isKey_1 : decode cX11_isKey 1 = .ok (.getfield 19, 3) := by decide +kernel
theorem dX11_isKey_4 : decode cX11_isKey 4 = .ok (.aload_n 0, 1) := by decide +kernel
theorem dX11_isKey_5 : decode cX11_isKey 5 = .ok (.getfield 366, 3) := by decide +kernel
theorem dX11_isKey_8 : decode cX11_isKey 8 = .ok (.laload, 1) := by decide +kernel
theorem dX11_isKey_9 : decode cX11_isKey 9 = .ok (.lstore_n 1, 1) := by decide +kernel
theorem dX11_isKey_10 : decode cX11_isKey 10 = .ok (.lload_n 1, 1) := by decide +kernel
theorem dX11_isKey_11 : decode cX11_isKey 11 = .ok (.ldc2_w 380, 3) := by decide +kernel
theorem dX11_isKey_14 : decode cX11_isKey 14 = .ok (.lcmp, 1) := by decide +kernel
theorem dX11_isKey_15 : decode cX11_isKey 15 = .ok (.ifCond .eq 51, 3) := by decide +kernel
theorem dX11_isKey_18 : decode cX11_isKey 18 = .ok (.lload_n 1, 1) := by decide +kernel
theorem dX11_isKey_19 : decode cX11_isKey 19 = .ok (.ldc2_w 382, 3) := by decide +kernel
theorem dX11_isKey_22 : decode cX11_isKey 22 = .ok (.lcmp, 1) := by decide +kernel
theorem dX11_isKey_23 : decode cX11_isKey 23 = .ok (.ifCond .eq 43, 3) := by decide +kernel
theorem dX11_isKey_26 : decode cX11_isKey 26 = .ok (.lload_n 1, 1) := by decide +kernel
theorem dX11_isKey_27 : decode cX11_isKey 27 = .ok (.ldc2_w 384, 3) := by decide +kernel
theorem dX11_isKey_30 : decode cX11_isKey 30 = .ok (.lcmp, 1) := by decide +kernel
theorem dX11_isKey_31 : decode cX11_isKey 31 = .ok (.ifCond .eq 35, 3) := by decide +kernel
theorem dX11_isKey_34 : decode cX11_isKey 34 = .ok (.lload_n 1, 1) := by decide +kernel
theorem dX11_isKey_35 : decode cX11_isKey 35 = .ok (.ldc2_w 386, 3) := by decide +kernel
theorem dX11_isKey_38 : decode cX11_isKey 38 = .ok (.lcmp, 1) := by decide +kernel
theorem dX11_isKey_39 : decode cX11_isKey 39 = .ok (.ifCond .eq 27, 3) := by decide +kernel
theorem dX11_isKey_42 : decode cX11_isKey 42 = .ok (.lload_n 1, 1) := by decide +kernel
theorem dX11_isKey_43 : decode cX11_isKey 43 = .ok (.ldc2_w 388, 3) := by decide +kernel
theorem dX11_isKey_46 : decode cX11_isKey 46 = .ok (.lcmp, 1) := by decide +kernel
theorem dX11_isKey_47 : decode cX11_isKey 47 = .ok (.ifCond .eq 19, 3) := by decide +kernel
theorem dX11_isKey_50 : decode cX11_isKey 50 = .ok (.lload_n 1, 1) := by decide +kernel
theorem dX11_isKey_51 : decode cX11_isKey 51 = .ok (.ldc2_w 390, 3) := by decide +kernel
theorem dX11_isKey_54 : decode cX11_isKey 54 = .ok (.lcmp, 1) := by decide +kernel
theorem dX11_isKey_55 : decode cX11_isKey 55 = .ok (.ifCond .eq 11, 3) := by decide +kernel
theorem dX11_isKey_58 : decode cX11_isKey 58 = .ok (.lload_n 1, 1) := by decide +kernel
theorem dX11_isKey_59 : decode cX11_isKey 59 = .ok (.ldc2_w 392, 3) := by decide +kernel
theorem dX11_isKey_62 : decode cX11_isKey 62 = .ok (.lcmp, 1) := by decide +kernel
theorem dX11_isKey_63 : decode cX11_isKey 63 = .ok (.ifCond .ne 7, 3) := by decide +kernel
theorem dX11_isKey_66 : decode cX11_isKey 66 = .ok (.iconst 1, 1) := by decide +kernel
theorem dX11_isKey_67 : decode cX11_isKey 67 = .ok (.goto 4, 3) := by decide +kernel
theorem dX11_isKey_70 : decode cX11_isKey 70 = .ok (.iconst 0, 1) := by decide +kernel
theorem dX11_isKey_71 : decode cX11_isKey 71 = .ok (.istore_n 3, 1) := by decide +kernel
theorem dX11_isKey_72 : decode cX11_isKey 72 = .ok (.lload_n 1, 1) := by decide +kernel
theorem dX11_isKey_73 : decode cX11_isKey 73 = .ok (.ldc2_w 394, 3) := by decide +kernel
theorem dX11_isKey_76 : decode cX11_isKey 76 = .ok (.lcmp, 1) := by decide +kernel
theorem dX11_isKey_77 : decode cX11_isKey 77 = .ok (.ifCond .eq 59, 3) := by decide +kernel
theorem dX11_isKey_80 : decode cX11_isKey 80 = .ok (.lload_n 1, 1) := by decide +kernel
theorem dX11_isKey_81 : decode cX11_isKey 81 = .ok (.ldc2_w 396, 3) := by decide +kernel
theorem dX11_isKey_84 : decode cX11_isKey 84 = .ok (.lcmp, 1) := by decide +kernel
theorem dX11_isKey_85 : decode cX11_isKey 85 = .ok (.ifCond .eq 51, 3) := by decide +kernel
theorem dX11_isKey_88 : decode cX11_isKey 88 = .ok (.lload_n 1, 1) := by decide +kernel
theorem dX11_isKey_89 : decode cX11_isKey 89 = .ok (.ldc2_w 398, 3) := by decide +kernel
theorem dX11_isKey_92 : decode cX11_isKey 92 = .ok (.lcmp, 1) := by decide +kernel
theorem dX11_isKey_93 : decode cX11_isKey 93 = .ok (.ifCond .eq 43, 3) := by decide +kernel
theorem dX11_isKey_96 : decode cX11_isKey 96 = .ok (.lload_n 1, 1) := by decide +kernel
theorem dX11_isKey_97 : decode cX11_isKey 97 = .ok (.ldc2_w 400, 3) := by decide +kernel
theorem dX11_isKey_100 : decode cX11_isKey 100 = .ok (.lcmp, 1) := by decide +kernel
theorem dX11_isKey_101 : decode cX11_isKey 101 = .ok (.ifCond .eq 35, 3) := by decide +kernel
theorem dX11_isKey_104 : decode cX11_isKey 104 = .ok (.lload_n 1, 1) := by decide +kernel
theorem dX11_isKey_105 : decode cX11_isKey 105 = .ok (.ldc2_w 402, 3) := by decide +kernel
theorem dX11_isKey_108 : decode cX11_isKey 108 = .ok (.lcmp, 1) := by decide +kernel
theorem dX11_isKey_109 : decode cX11_isKey 109 = .ok (.ifCond .eq 27, 3) := by decide +kernel
theorem dX11_isKey_112 : decode cX11_isKey 112 = .ok (.lload_n 1, 1) := by decide +kernel
theorem dX11_isKey_113 : decode cX11_isKey 113 = .ok (.ldc2_w 404, 3) := by decide +kernel
theorem dX11_isKey_116 : decode cX11_isKey 116 = .ok (.lcmp, 1) := by decide +kernel
theorem dX11_isKey_117 : decode cX11_isKey 117 = .ok (.ifCond .eq 19, 3) := by decide +kernel
theorem dX11_isKey_120 : decode cX11_isKey 120 = .ok (.lload_n 1, 1) := by decide +kernel
theorem dX11_isKey_121 : decode cX11_isKey 121 = .ok (.ldc2_w 406, 3) := by decide +kernel
theorem dX11_isKey_124 : decode cX11_isKey 124 = .ok (.lcmp, 1) := by decide +kernel
theorem dX11_isKey_125 : decode cX11_isKey 125 = .ok (.ifCond .eq 11, 3) := by decide +kernel
theorem dX11_isKey_128 : decode cX11_isKey 128 = .ok (.lload_n 1, 1) := by decide +kernel
theorem dX11_isKey_129 : decode cX11_isKey 129 = .ok (.ldc2_w 408, 3) := by decide +kernel
theorem dX11_isKey_132 : decode cX11_isKey 132 = .ok (.lcmp, 1) := by decide +kernel
theorem dX11_isKey_133 : decode cX11_isKey 133 = .ok (.ifCond .ne 7, 3) := by decide +kernel
theorem dX11_isKey_136 : decode cX11_isKey 136 = .ok (.iconst 1, 1) := by decide +kernel
theorem dX11_isKey_137 : decode cX11_isKey 137 = .ok (.goto 4, 3) := by decide +kernel
theorem dX11_isKey_140 : decode cX11_isKey 140 = .ok (.iconst 0, 1) := by decide +kernel
theorem dX11_isKey_141 : decode cX11_isKey 141 = .ok (.istore 4, 2) := by decide +kernel
theorem dX11_isKey_143 : decode cX11_isKey 143 = .ok (.lload_n 1, 1) := by decide +kernel
theorem dX11_isKey_144 : decode cX11_isKey 144 = .ok (.ldc2_w 410, 3) := by decide +kernel
theorem dX11_isKey_147 : decode cX11_isKey 147 = .ok (.lcmp, 1) := by decide +kernel
theorem dX11_isKey_148 : decode cX11_isKey 148 = .ok (.ifCond .eq 51, 3) := by decide +kernel
theorem dX11_isKey_151 : decode cX11_isKey 151 = .ok (.lload_n 1, 1) := by decide +kernel
theorem dX11_isKey_152 : decode cX11_isKey 152 = .ok (.ldc2_w 412, 3) := by decide +kernel
theorem dX11_isKey_155 : decode cX11_isKey 155 = .ok (.lcmp, 1) := by decide +kernel
theorem dX11_isKey_156 : decode cX11_isKey 156 = .ok (.ifCond .eq 43, 3) := by decide +kernel
theorem dX11_isKey_159 : decode cX11_isKey 159 = .ok (.lload_n 1, 1) := by decide +kernel
theorem dX11_isKey_160 : decode cX11_isKey 160 = .ok (.ldc2_w 414, 3) := by decide +kernel
theorem dX11_isKey_163 : decode cX11_isKey 163 = .ok (.lcmp, 1) := by decide +kernel
theorem dX11_isKey_164 : decode cX11_isKey 164 = .ok (.ifCond .eq 35, 3) := by decide +kernel
theorem dX11_isKey_167 : decode cX11_isKey 167 = .ok (.lload_n 1, 1) := by decide +kernel
theorem dX11_isKey_168 : decode cX11_isKey 168 = .ok (.ldc2_w 416, 3) := by decide +kernel
theorem dX11_isKey_171 : decode cX11_isKey 171 = .ok (.lcmp, 1) := by decide +kernel
theorem dX11_isKey_172 : decode cX11_isKey 172 = .ok (.ifCond .eq 27, 3) := by decide +kernel
theorem dX11_isKey_175 : decode cX11_isKey 175 = .ok (.lload_n 1, 1) := by decide +kernel
theorem dX11_isKey_176 : decode cX11_isKey 176 = .ok (.ldc2_w 418, 3) := by decide +kernel
theorem dX11_isKey_179 : decode cX11_isKey 179 = .ok (.lcmp, 1) := by decide +kernel
theorem dX11_isKey_180 : decode cX11_isKey 180 = .ok (.ifCond .eq 19, 3) := by decide +kernel
theorem dX11_isKey_183 : decode cX11_isKey 183 = .ok (.lload_n 1, 1) := by decide +kernel
theorem dX11_isKey_184 : decode cX11_isKey 184 = .ok (.ldc2_w 420, 3) := by decide +kernel
theorem dX11_isKey_187 : decode cX11_isKey 187 = .ok (.lcmp, 1) := by decide +kernel
theorem dX11_isKey_188 : decode cX11_isKey 188 = .ok (.ifCond .eq 11, 3) := by decide +kernel
theorem dX11_isKey_191 : decode cX11_isKey 191 = .ok (.lload_n 1, 1) := by decide +kernel
theorem dX11_isKey_192 : decode cX11_isKey 192 = .ok (.ldc2_w 422, 3) := by decide +kernel
theorem dX11_isKey_195 : decode cX11_isKey 195 = .ok (.lcmp, 1) := by decide +kernel
theorem dX11_isKey_196 : decode cX11_isKey 196 = .ok (.ifCond .ne 7, 3) := by decide +kernel
theorem dX11_isKey_199 : decode cX11_isKey 199 = .ok (.iconst 1, 1) := by decide +kernel
theorem dX11_isKey_200 : decode cX11_isKey 200 = .ok (.goto 4, 3) := by decide +kernel
theorem dX11_isKey_203 : decode cX11_isKey 203 = .ok (.iconst 0, 1) := by decide +kernel
theorem dX11_isKey_204 : decode cX11_isKey 204 = .ok (.istore 5, 2) := by decide +kernel
theorem dX11_isKey_206 : decode cX11_isKey 206 = .ok (.iload_n 3, 1) := by decide +kernel
theorem dX11_isKey_207 : decode cX11_isKey 207 = .ok (.ifCond .ne 101, 3) := by decide +kernel
theorem dX11_isKey_210 : decode cX11_isKey 210 = .ok (.iload 4, 2) := by decide +kernel
theorem dX11_isKey_212 : decode cX11_isKey 212 = .ok (.ifCond .ne 96, 3) := by decide +kernel
theorem dX11_isKey_215 : decode cX11_isKey 215 = .ok (.iload 5, 2) := by decide +kernel
theorem dX11_isKey_217 : decode cX11_isKey 217 = .ok (.ifCond .ne 91, 3) := by decide +kernel
theorem dX11_isKey_220 : decode cX11_isKey 220 = .ok (.lload_n 1, 1) := by decide +kernel
theorem dX11_isKey_221 : decode cX11_isKey 221 = .ok (.ldc2_w 424, 3) := by decide +kernel
theorem dX11_isKey_224 : decode cX11_isKey 224 = .ok (.lcmp, 1) := by decide +kernel
theorem dX11_isKey_225 : decode cX11_isKey 225 = .ok (.ifCond .eq 83, 3) := by decide +kernel
theorem dX11_isKey_228 : decode cX11_isKey 228 = .ok (.lload_n 1, 1) := by decide +kernel
theorem dX11_isKey_229 : decode cX11_isKey 229 = .ok (.ldc2_w 426, 3) := by decide +kernel
theorem dX11_isKey_232 : decode cX11_isKey 232 = .ok (.lcmp, 1) := by decide +kernel
theorem dX11_isKey_233 : decode cX11_isKey 233 = .ok (.ifCond .eq 75, 3) := by decide +kernel
theorem dX11_isKey_236 : decode cX11_isKey 236 = .ok (.lload_n 1, 1) := by decide +kernel
theorem dX11_isKey_237 : decode cX11_isKey 237 = .ok (.ldc2_w 428, 3) := by decide +kernel
theorem dX11_isKey_240 : decode cX11_isKey 240 = .ok (.lcmp, 1) := by decide +kernel
theorem dX11_isKey_241 : decode cX11_isKey 241 = .ok (.ifCond .eq 67, 3) := by decide +kernel
theorem dX11_isKey_244 : decode cX11_isKey 244 = .ok (.lload_n 1, 1) := by decide +kernel
theorem dX11_isKey_245 : decode cX11_isKey 245 = .ok (.ldc2_w 430, 3) := by decide +kernel
theorem dX11_isKey_248 : decode cX11_isKey 248 = .ok (.lcmp, 1) := by decide +kernel
theorem dX11_isKey_249 : decode cX11_isKey 249 = .ok (.ifCond .eq 59, 3) := by decide +kernel
theorem dX11_isKey_252 : decode cX11_isKey 252 = .ok (.lload_n 1, 1) := by decide +kernel
theorem dX11_isKey_253 : decode cX11_isKey 253 = .ok (.ldc2_w 432, 3) := by decide +kernel
theorem dX11_isKey_256 : decode cX11_isKey 256 = .ok (.lcmp, 1) := by decide +kernel
theorem dX11_isKey_257 : decode cX11_isKey 257 = .ok (.ifCond .eq 51, 3) := by decide +kernel
theorem dX11_isKey_260 : decode cX11_isKey 260 = .ok (.lload_n 1, 1) := by decide +kernel
theorem dX11_isKey_261 : decode cX11_isKey 261 = .ok (.ldc2_w 434, 3) := by decide +kernel
theorem dX11_isKey_264 : decode cX11_isKey 264 = .ok (.lcmp, 1) := by decide +kernel
theorem dX11_isKey_265 : decode cX11_isKey 265 = .ok (.ifCond .eq 43, 3) := by decide +kernel
theorem dX11_isKey_268 : decode cX11_isKey 268 = .ok (.lload_n 1, 1) := by decide +kernel
theorem dX11_isKey_269 : decode cX11_isKey 269 = .ok (.ldc2_w 436, 3) := by decide +kernel
theorem dX11_isKey_272 : decode cX11_isKey 272 = .ok (.lcmp, 1) := by decide +kernel
theorem dX11_isKey_273 : decode cX11_isKey 273 = .ok (.ifCond .eq 35, 3) := by decide +kernel
theorem dX11_isKey_276 : decode cX11_isKey 276 = .ok (.lload_n 1, 1) := by decide +kernel
theorem dX11_isKey_277 : decode cX11_isKey 277 = .ok (.ldc2_w 438, 3) := by decide +kernel
theorem dX11_isKey_280 : decode cX11_isKey 280 = .ok (.lcmp, 1) := by decide +kernel
theorem dX11_isKey_281 : decode cX11_isKey 281 = .ok (.ifCond .eq 27, 3) := by decide +kernel
theorem dX11_isKey_284 : decode cX11_isKey 284 = .ok (.lload_n 1, 1) := by decide +kernel
theorem dX11_isKey_285 : decode cX11_isKey 285 = .ok (.ldc2_w 440, 3) := by decide +kernel
theorem dX11_isKey_288 : decode cX11_isKey 288 = .ok (.lcmp, 1) := by decide +kernel
theorem dX11_isKey_289 : decode cX11_isKey 289 = .ok (.ifCond .eq 19, 3) := by decide +kernel
theorem dX11_isKey_292 : decode cX11_isKey 292 = .ok (.lload_n 1, 1) := by decide +kernel
theorem dX11_isKey_293 : decode cX11_isKey 293 = .ok (.ldc2_w 442, 3) := by decide +kernel
theorem dX11_isKey_296 : decode cX11_isKey 296 = .ok (.lcmp, 1) := by decide +kernel
theorem dX11_isKey_297 : decode cX11_isKey 297 = .ok (.ifCond .eq 11, 3) := by decide +kernel
theorem dX11_isKey_300 : decode cX11_isKey 300 = .ok (.lload_n 1, 1) := by decide +kernel
theorem dX11_isKey_301 : decode cX11_isKey 301 = .ok (.ldc2_w 444, 3) := by decide +kernel
theorem dX11_isKey_304 : decode cX11_isKey 304 = .ok (.lcmp, 1) := by decide +kernel
theorem dX11_isKey_305 : decode cX11_isKey 305 = .ok (.ifCond .ne 7, 3) := by decide +kernel
theorem dX11_isKey_308 : decode cX11_isKey 308 = .ok (.iconst 1, 1) := by decide +kernel
theorem dX11_isKey_309 : decode cX11_isKey 309 = .ok (.goto 4, 3) := by decide +kernel
theorem dX11_isKey_312 : decode cX11_isKey 312 = .ok (.iconst 0, 1) := by decide +kernel
theorem dX11_isKey_313 : decode cX11_isKey 313 = .ok (.ireturn, 1) := by decide +kernel
theorem dX11_isName_0 : decode cX11_isName 0 = .ok (.aload_n 0, 1) := by decide +kernel
theorem dX11_isName_1 : decode cX11_isName 1 = .ok (.getfield 13, 3) := by decide +kernel
theorem dX11_isName_4 : decode cX11_isName 4 = .ok (.aload_n 0, 1) := by decide +kernel
theorem dX11_isName_5 : decode cX11_isName 5 = .ok (.getfield 366, 3) := by decide +kernel
theorem dX11_isName_8 : decode cX11_isName 8 = .ok (.iaload, 1) := by decide +kernel
theorem dX11_isName_9 : decode cX11_isName 9 = .ok (.iconst 1, 1) := by decide +kernel
theorem dX11_isName_10 : decode cX11_isName 10 = .ok (.if_icmp .ne 14, 3) := by decide +kernel
theorem dX11_isName_13 : decode cX11_isName 13 = .ok (.aload_n 0, 1) := by decide +kernel
theorem dX11_isName_14 : decode cX11_isName 14 = .ok (.invokevirtual 446, 3) := by decide +kernel
theorem dX11_isName_17 : decode cX11_isName 17 = .ok (.ifCond .ne 7, 3) := by decide +kernel
theorem dX11_isName_20 : decode cX11_isName 20 = .ok (.iconst 1, 1) := by decide +kernel
theorem dX11_isName_21 : decode cX11_isName 21 = .ok (.goto 4, 3) := by decide +kernel
theorem dX11_isName_24 : decode cX11_isName 24 = .ok (.iconst 0, 1) := by decide +kernel
theorem dX11_isName_25 : decode cX11_isName 25 = .ok (.ireturn, 1) := by decide +kernel
theorem dX11_signalNamed_0 : decode cX11_signalNamed 0 = .ok (.iconst 0, 1) := by decide +kernel
theorem dX11_signalNamed_1 : decode cX11_signalNamed 1 = .ok (.istore_n 3, 1) := by decide +kernel
theorem dX11_signalNamed_2 : decode cX11_signalNamed 2 = .ok (.iload_n 3, 1) := by decide +kernel
theorem dX11_signalNamed_3 : decode cX11_signalNamed 3 = .ok (.aload_n 0, 1) := by decide +kernel
theorem dX11_signalNamed_4 : decode cX11_signalNamed 4 = .ok (.getfield 23, 3) := by decide +kernel
theorem dX11_signalNamed_7 : decode cX11_signalNamed 7 = .ok (.aload_n 0, 1) := by decide +kernel
theorem dX11_signalNamed_8 : decode cX11_signalNamed 8 = .ok (.getfield 450, 3) := by decide +kernel
theorem dX11_signalNamed_11 : decode cX11_signalNamed 11 = .ok (.iaload, 1) := by decide +kernel
theorem dX11_signalNamed_12 : decode cX11_signalNamed 12 = .ok (.if_icmp .ge 30, 3) := by decide +kernel
theorem dX11_signalNamed_15 : decode cX11_signalNamed 15 = .ok (.aload_n 0, 1) := by decide +kernel
theorem dX11_signalNamed_16 : decode cX11_signalNamed 16 = .ok (.getfield 32, 3) := by decide +kernel
theorem dX11_signalNamed_19 : decode cX11_signalNamed 19 = .ok (.bipush 16, 2) := by decide +kernel
theorem dX11_signalNamed_21 : decode cX11_signalNamed 21 = .ok (.aload_n 0, 1) := by decide +kernel
theorem dX11_signalNamed_22 : decode cX11_signalNamed 22 = .ok (.getfield 450, 3) := by decide +kernel
theorem dX11_signalNamed_25 : decode cX11_signalNamed 25 = .ok (.imul, 1) := by decide +kernel
theorem dX11_signalNamed_26 : decode cX11_signalNamed 26 = .ok (.iload_n 3, 1) := by decide +kernel
theorem dX11_signalNamed_27 : decode cX11_signalNamed 27 = .ok (.iadd, 1) := by decide +kernel
theorem dX11_signalNamed_28 : decode cX11_signalNamed 28 = .ok (.laload, 1) := by decide +kernel
theorem dX11_signalNamed_29 : decode cX11_signalNamed 29 = .ok (.lload_n 1, 1) := by decide +kernel
theorem dX11_signalNamed_30 : decode cX11_signalNamed 30 = .ok (.lcmp, 1) := by decide +kernel
theorem dX11_signalNamed_31 : decode cX11_signalNamed 31 = .ok (.ifCond .ne 5, 3) := by decide +kernel
theorem dX11_signalNamed_34 : decode cX11_signalNamed 34 = .ok (.iload_n 3, 1) := by decide +kernel
theorem dX11_signalNamed_35 : decode cX11_signalNamed 35 = .ok (.ireturn, 1) := by decide +kernel
theorem dX11_signalNamed_36 : decode cX11_signalNamed 36 = .ok (.iinc 3 1, 3) := by decide +kernel
theorem dX11_signalNamed_39 : decode cX11_signalNamed 39 = .ok (.goto (-37), 3) := by decide +kernel
theorem dX11_signalNamed_42 : decode cX11_signalNamed 42 = .ok (.iconst (-1), 1) := by decide +kernel
theorem dX11_signalNamed_43 : decode cX11_signalNamed 43 = .ok (.ireturn, 1) := by decide +kernel
theorem dX11_variableNamed_0 : decode cX11_variableNamed 0 = .ok (.iconst 0, 1) := by decide +kernel
theorem dX11_variableNamed_1 : decode cX11_variableNamed 1 = .ok (.istore_n 3, 1) := by decide +kernel
theorem dX11_variableNamed_2 : decode cX11_variableNamed 2 = .ok (.iload_n 3, 1) := by decide +kernel
theorem dX11_variableNamed_3 : decode cX11_variableNamed 3 = .ok (.aload_n 0, 1) := by decide +kernel
theorem dX11_variableNamed_4 : decode cX11_variableNamed 4 = .ok (.getfield 29, 3) := by decide +kernel
theorem dX11_variableNamed_7 : decode cX11_variableNamed 7 = .ok (.aload_n 0, 1) := by decide +kernel
theorem dX11_variableNamed_8 : decode cX11_variableNamed 8 = .ok (.getfield 450, 3) := by decide +kernel
theorem dX11_variableNamed_11 : decode cX11_variableNamed 11 = .ok (.iaload, 1) := by decide +kernel
theorem dX11_variableNamed_12 : decode cX11_variableNamed 12 = .ok (.if_icmp .ge 30, 3) := by decide +kernel
theorem dX11_variableNamed_15 : decode cX11_variableNamed 15 = .ok (.aload_n 0, 1) := by decide +kernel
theorem dX11_variableNamed_16 : decode cX11_variableNamed 16 = .ok (.getfield 48, 3) := by decide +kernel
theorem dX11_variableNamed_19 : decode cX11_variableNamed 19 = .ok (.bipush 6, 2) := by decide +kernel
theorem dX11_variableNamed_21 : decode cX11_variableNamed 21 = .ok (.aload_n 0, 1) := by decide +kernel
theorem dX11_variableNamed_22 : decode cX11_variableNamed 22 = .ok (.getfield 450, 3) := by decide +kernel
theorem dX11_variableNamed_25 : decode cX11_variableNamed 25 = .ok (.imul, 1) := by decide +kernel
theorem dX11_variableNamed_26 : decode cX11_variableNamed 26 = .ok (.iload_n 3, 1) := by decide +kernel
theorem dX11_variableNamed_27 : decode cX11_variableNamed 27 = .ok (.iadd, 1) := by decide +kernel
theorem dX11_variableNamed_28 : decode cX11_variableNamed 28 = .ok (.laload, 1) := by decide +kernel
theorem dX11_variableNamed_29 : decode cX11_variableNamed 29 = .ok (.lload_n 1, 1) := by decide +kernel
theorem dX11_variableNamed_30 : decode cX11_variableNamed 30 = .ok (.lcmp, 1) := by decide +kernel
theorem dX11_variableNamed_31 : decode cX11_variableNamed 31 = .ok (.ifCond .ne 5, 3) := by decide +kernel
theorem dX11_variableNamed_34 : decode cX11_variableNamed 34 = .ok (.iload_n 3, 1) := by decide +kernel
theorem dX11_variableNamed_35 : decode cX11_variableNamed 35 = .ok (.ireturn, 1) := by decide +kernel
theorem dX11_variableNamed_36 : decode cX11_variableNamed 36 = .ok (.iinc 3 1, 3) := by decide +kernel
theorem dX11_variableNamed_39 : decode cX11_variableNamed 39 = .ok (.goto (-37), 3) := by decide +kernel
theorem dX11_variableNamed_42 : decode cX11_variableNamed 42 = .ok (.iconst (-1), 1) := by decide +kernel
theorem dX11_variableNamed_43 : decode cX11_variableNamed 43 = .ok (.ireturn, 1) := by decide +kernel
theorem dX11_readTold_0 : decode cX11_readTold 0 = .ok (.iconst 1, 1) := by decide +kernel
theorem dX11_readTold_1 : decode cX11_readTold 1 = .ok (.istore_n 1, 1) := by decide +kernel
theorem dX11_readTold_2 : decode cX11_readTold 2 = .ok (.iload_n 1, 1) := by decide +kernel
theorem dX11_readTold_3 : decode cX11_readTold 3 = .ok (.ifCond .eq 141, 3) := by decide +kernel
theorem dX11_readTold_6 : decode cX11_readTold 6 = .ok (.aload_n 0, 1) := by decide +kernel
theorem dX11_readTold_7 : decode cX11_readTold 7 = .ok (.getfield 360, 3) := by decide +kernel
theorem dX11_readTold_10 : decode cX11_readTold 10 = .ok (.ifCond .ne 134, 3) := by decide +kernel
theorem dX11_readTold_13 : decode cX11_readTold 13 = .ok (.aload_n 0, 1) := by decide +kernel
theorem dX11_readTold_14 : decode cX11_readTold 14 = .ok (.iconst 1, 1) := by decide +kernel
theorem dX11_readTold_15 : decode cX11_readTold 15 = .ok (.ldc2_w 380, 3) := by decide +kernel
theorem dX11_readTold_18 : decode cX11_readTold 18 = .ok (.invokevirtual 373, 3) := by decide +kernel
theorem dX11_readTold_21 : decode cX11_readTold 21 = .ok (.ifCond .eq 7, 3) := by decide +kernel
theorem dX11_readTold_24 : decode cX11_readTold 24 = .ok (.iconst 0, 1) := by decide +kernel
theorem dX11_readTold_25 : decode cX11_readTold 25 = .ok (.goto 49, 3) := by decide +kernel
theorem dX11_readTold_28 : decode cX11_readTold 28 = .ok (.aload_n 0, 1) := by decide +kernel
theorem dX11_readTold_29 : decode cX11_readTold 29 = .ok (.iconst 1, 1) := by decide +kernel
theorem dX11_readTold_30 : decode cX11_readTold 30 = .ok (.ldc2_w 382, 3) := by decide +kernel
theorem dX11_readTold_33 : decode cX11_readTold 33 = .ok (.invokevirtual 373, 3) := by decide +kernel
theorem dX11_readTold_36 : decode cX11_readTold 36 = .ok (.ifCond .eq 7, 3) := by decide +kernel
theorem dX11_readTold_39 : decode cX11_readTold 39 = .ok (.iconst 1, 1) := by decide +kernel
theorem dX11_readTold_40 : decode cX11_readTold 40 = .ok (.goto 34, 3) := by decide +kernel
theorem dX11_readTold_43 : decode cX11_readTold 43 = .ok (.aload_n 0, 1) := by decide +kernel
theorem dX11_readTold_44 : decode cX11_readTold 44 = .ok (.iconst 1, 1) := by decide +kernel
theorem dX11_readTold_45 : decode cX11_readTold 45 = .ok (.ldc2_w 384, 3) := by decide +kernel
theorem dX11_readTold_48 : decode cX11_readTold 48 = .ok (.invokevirtual 373, 3) := by decide +kernel
theorem dX11_readTold_51 : decode cX11_readTold 51 = .ok (.ifCond .eq 7, 3) := by decide +kernel
theorem dX11_readTold_54 : decode cX11_readTold 54 = .ok (.iconst 2, 1) := by decide +kernel
theorem dX11_readTold_55 : decode cX11_readTold 55 = .ok (.goto 19, 3) := by decide +kernel
theorem dX11_readTold_58 : decode cX11_readTold 58 = .ok (.aload_n 0, 1) := by decide +kernel
theorem dX11_readTold_59 : decode cX11_readTold 59 = .ok (.iconst 1, 1) := by decide +kernel
theorem dX11_readTold_60 : decode cX11_readTold 60 = .ok (.ldc2_w 392, 3) := by decide +kernel
theorem dX11_readTold_63 : decode cX11_readTold 63 = .ok (.invokevirtual 373, 3) := by decide +kernel
theorem dX11_readTold_66 : decode cX11_readTold 66 = .ok (.ifCond .eq 7, 3) := by decide +kernel
theorem dX11_readTold_69 : decode cX11_readTold 69 = .ok (.iconst 3, 1) := by decide +kernel
theorem dX11_readTold_70 : decode cX11_readTold 70 = .ok (.goto 4, 3) := by decide +kernel
theorem dX11_readTold_73 : decode cX11_readTold 73 = .ok (.iconst 4, 1) := by decide +kernel
theorem dX11_readTold_74 : decode cX11_readTold 74 = .ok (.istore_n 2, 1) := by decide +kernel
theorem dX11_readTold_75 : decode cX11_readTold 75 = .ok (.iload_n 2, 1) := by decide +kernel
theorem dX11_readTold_76 : decode cX11_readTold 76 = .ok (.iconst 4, 1) := by decide +kernel
theorem dX11_readTold_77 : decode cX11_readTold 77 = .ok (.if_icmp .ge 7, 3) := by decide +kernel
theorem dX11_readTold_80 : decode cX11_readTold 80 = .ok (.iconst 1, 1) := by decide +kernel
theorem dX11_readTold_81 : decode cX11_readTold 81 = .ok (.goto 4, 3) := by decide +kernel
theorem dX11_readTold_84 : decode cX11_readTold 84 = .ok (.iconst 0, 1) := by decide +kernel
theorem dX11_readTold_85 : decode cX11_readTold 85 = .ok (.istore_n 1, 1) := by decide +kernel
theorem dX11_readTold_86 : decode cX11_readTold 86 = .ok (.iload_n 1, 1) := by decide +kernel
theorem dX11_readTold_87 : decode cX11_readTold 87 = .ok (.ifCond .eq 54, 3) := by decide +kernel
theorem dX11_readTold_90 : decode cX11_readTold 90 = .ok (.aload_n 0, 1) := by decide +kernel
theorem dX11_readTold_91 : decode cX11_readTold 91 = .ok (.invokevirtual 377, 3) := by decide +kernel
theorem dX11_readTold_94 : decode cX11_readTold 94 = .ok (.aload_n 0, 1) := by decide +kernel
theorem dX11_readTold_95 : decode cX11_readTold 95 = .ok (.getfield 360, 3) := by decide +kernel
theorem dX11_readTold_98 : decode cX11_readTold 98 = .ok (.ifCond .ne 8, 3) := by decide +kernel
theorem dX11_readTold_101 : decode cX11_readTold 101 = .ok (.aload_n 0, 1) := by decide +kernel
theorem dX11_readTold_102 : decode cX11_readTold 102 = .ok (.iload_n 2, 1) := by decide +kernel
theorem dX11_readTold_103 : decode cX11_readTold 103 = .ok (.invokevirtual 453, 3) := by decide +kernel
theorem dX11_readTold_106 : decode cX11_readTold 106 = .ok (.aload_n 0, 1) := by decide +kernel
theorem dX11_readTold_107 : decode cX11_readTold 107 = .ok (.getfield 360, 3) := by decide +kernel
theorem dX11_readTold_110 : decode cX11_readTold 110 = .ok (.ifCond .ne 23, 3) := by decide +kernel
theorem dX11_readTold_113 : decode cX11_readTold 113 = .ok (.aload_n 0, 1) := by decide +kernel
theorem dX11_readTold_114 : decode cX11_readTold 114 = .ok (.invokevirtual 377, 3) := by decide +kernel
theorem dX11_readTold_117 : decode cX11_readTold 117 = .ok (.iload_n 2, 1) := by decide +kernel
theorem dX11_readTold_118 : decode cX11_readTold 118 = .ok (.iconst 3, 1) := by decide +kernel
theorem dX11_readTold_119 : decode cX11_readTold 119 = .ok (.if_icmp .ge 10, 3) := by decide +kernel
theorem dX11_readTold_122 : decode cX11_readTold 122 = .ok (.aload_n 0, 1) := by decide +kernel
theorem dX11_readTold_123 : decode cX11_readTold 123 = .ok (.invokevirtual 456, 3) := by decide +kernel
theorem dX11_readTold_126 : decode cX11_readTold 126 = .ok (.goto 7, 3) := by decide +kernel
theorem dX11_readTold_129 : decode cX11_readTold 129 = .ok (.aload_n 0, 1) := by decide +kernel
theorem dX11_readTold_130 : decode cX11_readTold 130 = .ok (.invokevirtual 459, 3) := by decide +kernel
theorem dX11_readTold_133 : decode cX11_readTold 133 = .ok (.aload_n 0, 1) := by decide +kernel
theorem dX11_readTold_134 : decode cX11_readTold 134 = .ok (.iconst 3, 1) := by decide +kernel
theorem dX11_readTold_135 : decode cX11_readTold 135 = .ok (.ldc2_w 462, 3) := by decide +kernel
theorem dX11_readTold_138 : decode cX11_readTold 138 = .ok (.invokevirtual 464, 3) := by decide +kernel
theorem dX11_readTold_141 : decode cX11_readTold 141 = .ok (.goto (-139), 3) := by decide +kernel
theorem dX11_readTold_144 : decode cX11_readTold 144 = .ok (.return_, 1) := by decide +kernel
theorem dX11_readName_0 : decode cX11_readName 0 = .ok (.aload_n 0, 1) := by decide +kernel
theorem dX11_readName_1 : decode cX11_readName 1 = .ok (.getfield 19, 3) := by decide +kernel
theorem dX11_readName_4 : decode cX11_readName 4 = .ok (.aload_n 0, 1) := by decide +kernel
theorem dX11_readName_5 : decode cX11_readName 5 = .ok (.getfield 366, 3) := by decide +kernel
theorem dX11_readName_8 : decode cX11_readName 8 = .ok (.laload, 1) := by decide +kernel
theorem dX11_readName_9 : decode cX11_readName 9 = .ok (.lstore_n 2, 1) := by decide +kernel
theorem dX11_readName_10 : decode cX11_readName 10 = .ok (.aload_n 0, 1) := by decide +kernel
theorem dX11_readName_11 : decode cX11_readName 11 = .ok (.invokevirtual 468, 3) := by decide +kernel
theorem dX11_readName_14 : decode cX11_readName 14 = .ok (.ifCond .ne 20, 3) := by decide +kernel
theorem dX11_readName_17 : decode cX11_readName 17 = .ok (.aload_n 0, 1) := by decide +kernel
theorem dX11_readName_18 : decode cX11_readName 18 = .ok (.iconst 2, 1) := by decide +kernel
theorem dX11_readName_19 : decode cX11_readName 19 = .ok (.aload_n 0, 1) := by decide +kernel
theorem dX11_readName_20 : decode cX11_readName 20 = .ok (.getfield 16, 3) := by decide +kernel
theorem dX11_readName_23 : decode cX11_readName 23 = .ok (.aload_n 0, 1) := by decide +kernel
theorem dX11_readName_24 : decode cX11_readName 24 = .ok (.getfield 366, 3) := by decide +kernel
theorem dX11_readName_27 : decode cX11_readName 27 = .ok (.iaload, 1) := by decide +kernel
theorem dX11_readName_28 : decode cX11_readName 28 = .ok (.invokevirtual 369, 3) := by decide +kernel
theorem dX11_readName_31 : decode cX11_readName 31 = .ok (.goto 287, 3) := by decide +kernel
theorem dX11_readName_34 : decode cX11_readName 34 = .ok (.aload_n 0, 1) := by decide +kernel
theorem dX11_readName_35 : decode cX11_readName 35 = .ok (.lload_n 2, 1) := by decide +kernel
theorem dX11_readName_36 : decode cX11_readName 36 = .ok (.invokevirtual 471, 3) := by decide +kernel
theorem dX11_readName_39 : decode cX11_readName 39 = .ok (.iconst (-1), 1) := by decide +kernel
theorem dX11_readName_40 : decode cX11_readName 40 = .ok (.if_icmp .ne 12, 3) := by decide +kernel
theorem dX11_readName_43 : decode cX11_readName 43 = .ok (.aload_n 0, 1) := by decide +kernel
theorem dX11_readName_44 : decode cX11_readName 44 = .ok (.lload_n 2, 1) := by decide +kernel
theorem dX11_readName_45 : decode cX11_readName 45 = .ok (.invokevirtual 475, 3) := by decide +kernel
theorem dX11_readName_48 : decode cX11_readName 48 = .ok (.iconst (-1), 1) := by decide +kernel
theorem dX11_readName_49 : decode cX11_readName 49 = .ok (.if_icmp .eq 20, 3) := by decide +kernel
theorem dX11_readName_52 : decode cX11_readName 52 = .ok (.aload_n 0, 1) := by decide +kernel
theorem dX11_readName_53 : decode cX11_readName 53 = .ok (.iconst 3, 1) := by decide +kernel
theorem dX11_readName_54 : decode cX11_readName 54 = .ok (.aload_n 0, 1) := by decide +kernel
theorem dX11_readName_55 : decode cX11_readName 55 = .ok (.getfield 16, 3) := by decide +kernel
theorem dX11_readName_58 : decode cX11_readName 58 = .ok (.aload_n 0, 1) := by decide +kernel
theorem dX11_readName_59 : decode cX11_readName 59 = .ok (.getfield 366, 3) := by decide +kernel
theorem dX11_readName_62 : decode cX11_readName 62 = .ok (.iaload, 1) := by decide +kernel
theorem dX11_readName_63 : decode cX11_readName 63 = .ok (.invokevirtual 369, 3) := by decide +kernel
theorem dX11_readName_66 : decode cX11_readName 66 = .ok (.goto 252, 3) := by decide +kernel
theorem dX11_readName_69 : decode cX11_readName 69 = .ok (.iload_n 1, 1) := by decide +kernel
theorem dX11_readName_70 : decode cX11_readName 70 = .ok (.iconst 3, 1) := by decide +kernel
theorem dX11_readName_71 : decode cX11_readName 71 = .ok (.if_icmp .ne 20, 3) := by decide +kernel
theorem dX11_readName_74 : decode cX11_readName 74 = .ok (.aload_n 0, 1) := by decide +kernel
theorem dX11_readName_75 : decode cX11_readName 75 = .ok (.getfield 29, 3) := by decide +kernel
theorem dX11_readName_78 : decode cX11_readName 78 = .ok (.aload_n 0, 1) := by decide +kernel
theorem dX11_readName_79 : decode cX11_readName 79 = .ok (.getfield 450, 3) := by decide +kernel
theorem dX11_readName_82 : decode cX11_readName 82 = .ok (.iaload, 1) := by decide +kernel
theorem dX11_readName_83 : decode cX11_readName 83 = .ok (.bipush 6, 2) := by decide +kernel
theorem dX11_readName_85 : decode cX11_readName 85 = .ok (.if_icmp .ne 55, 3) := by decide +kernel
theorem dX11_readName_88 : decode cX11_readName 88 = .ok (.goto 34, 3) := by decide +kernel
theorem dX11_readName_91 : decode cX11_readName 91 = .ok (.aload_n 0, 1) := by decide +kernel
theorem dX11_readName_92 : decode cX11_readName 92 = .ok (.getfield 23, 3) := by decide +kernel
theorem dX11_readName_95 : decode cX11_readName 95 = .ok (.aload_n 0, 1) := by decide +kernel
theorem dX11_readName_96 : decode cX11_readName 96 = .ok (.getfield 450, 3) := by decide +kernel
theorem dX11_readName_99 : decode cX11_readName 99 = .ok (.iaload, 1) := by decide +kernel
theorem dX11_readName_100 : decode cX11_readName 100 = .ok (.bipush 16, 2) := by decide +kernel
theorem dX11_readName_102 : decode cX11_readName 102 = .ok (.if_icmp .eq 20, 3) := by decide +kernel
theorem dX11_readName_105 : decode cX11_readName 105 = .ok (.iload_n 1, 1) := by decide +kernel
theorem dX11_readName_106 : decode cX11_readName 106 = .ok (.ifCond .ne 34, 3) := by decide +kernel
theorem dX11_readName_109 : decode cX11_readName 109 = .ok (.aload_n 0, 1) := by decide +kernel
theorem dX11_readName_110 : decode cX11_readName 110 = .ok (.getfield 26, 3) := by decide +kernel
theorem dX11_readName_113 : decode cX11_readName 113 = .ok (.aload_n 0, 1) := by decide +kernel
theorem dX11_readName_114 : decode cX11_readName 114 = .ok (.getfield 450, 3) := by decide +kernel
theorem dX11_readName_117 : decode cX11_readName 117 = .ok (.iaload, 1) := by decide +kernel
theorem dX11_readName_118 : decode cX11_readName 118 = .ok (.iconst 4, 1) := by decide +kernel
theorem dX11_readName_119 : decode cX11_readName 119 = .ok (.if_icmp .ne 21, 3) := by decide +kernel
theorem dX11_readName_122 : decode cX11_readName 122 = .ok (.aload_n 0, 1) := by decide +kernel
theorem dX11_readName_123 : decode cX11_readName 123 = .ok (.bipush 6, 2) := by decide +kernel
theorem dX11_readName_125 : decode cX11_readName 125 = .ok (.aload_n 0, 1) := by decide +kernel
theorem dX11_readName_126 : decode cX11_readName 126 = .ok (.getfield 16, 3) := by decide +kernel
theorem dX11_readName_129 : decode cX11_readName 129 = .ok (.aload_n 0, 1) := by decide +kernel
theorem dX11_readName_130 : decode cX11_readName 130 = .ok (.getfield 366, 3) := by decide +kernel
theorem dX11_readName_133 : decode cX11_readName 133 = .ok (.iaload, 1) := by decide +kernel
theorem dX11_readName_134 : decode cX11_readName 134 = .ok (.invokevirtual 369, 3) := by decide +kernel
theorem dX11_readName_137 : decode cX11_readName 137 = .ok (.goto 181, 3) := by decide +kernel
theorem dX11_readName_140 : decode cX11_readName 140 = .ok (.iload_n 1, 1) := by decide +kernel
theorem dX11_readName_141 : decode cX11_readName 141 = .ok (.iconst 3, 1) := by decide +kernel
theorem dX11_readName_142 : decode cX11_readName 142 = .ok (.if_icmp .ne 65, 3) := by decide +kernel
theorem dX11_readName_145 : decode cX11_readName 145 = .ok (.aload_n 0, 1) := by decide +kernel
theorem dX11_readName_146 : decode cX11_readName 146 = .ok (.getfield 48, 3) := by decide +kernel
theorem dX11_readName_149 : decode cX11_readName 149 = .ok (.bipush 6, 2) := by decide +kernel
theorem dX11_readName_151 : decode cX11_readName 151 = .ok (.aload_n 0, 1) := by decide +kernel
theorem dX11_readName_152 : decode cX11_readName 152 = .ok (.getfield 450, 3) := by decide +kernel
theorem dX11_readName_155 : decode cX11_readName 155 = .ok (.imul, 1) := by decide +kernel
theorem dX11_readName_156 : decode cX11_readName 156 = .ok (.aload_n 0, 1) := by decide +kernel
theorem dX11_readName_157 : decode cX11_readName 157 = .ok (.getfield 29, 3) := by decide +kernel
theorem dX11_readName_160 : decode cX11_readName 160 = .ok (.aload_n 0, 1) := by decide +kernel
theorem dX11_readName_161 : decode cX11_readName 161 = .ok (.getfield 450, 3) := by decide +kernel
theorem dX11_readName_164 : decode cX11_readName 164 = .ok (.iaload, 1) := by decide +kernel
theorem dX11_readName_165 : decode cX11_readName 165 = .ok (.iadd, 1) := by decide +kernel
theorem dX11_readName_166 : decode cX11_readName 166 = .ok (.lload_n 2, 1) := by decide +kernel
theorem dX11_readName_167 : decode cX11_readName 167 = .ok (.lastore, 1) := by decide +kernel
theorem dX11_readName_168 : decode cX11_readName 168 = .ok (.aload_n 0, 1) := by decide +kernel
theorem dX11_readName_169 : decode cX11_readName 169 = .ok (.getfield 51, 3) := by decide +kernel
theorem dX11_readName_172 : decode cX11_readName 172 = .ok (.bipush 6, 2) := by decide +kernel
theorem dX11_readName_174 : decode cX11_readName 174 = .ok (.aload_n 0, 1) := by decide +kernel
theorem dX11_readName_175 : decode cX11_readName 175 = .ok (.getfield 450, 3) := by decide +kernel
theorem dX11_readName_178 : decode cX11_readName 178 = .ok (.imul, 1) := by decide +kernel
theorem dX11_readName_179 : decode cX11_readName 179 = .ok (.aload_n 0, 1) := by decide +kernel
theorem dX11_readName_180 : decode cX11_readName 180 = .ok (.getfield 29, 3) := by decide +kernel
theorem dX11_readName_183 : decode cX11_readName 183 = .ok (.aload_n 0, 1) := by decide +kernel
theorem dX11_readName_184 : decode cX11_readName 184 = .ok (.getfield 450, 3) := by decide +kernel
theorem dX11_readName_187 : decode cX11_readName 187 = .ok (.iaload, 1) := by decide +kernel
theorem dX11_readName_188 : decode cX11_readName 188 = .ok (.iadd, 1) := by decide +kernel
theorem dX11_readName_189 : decode cX11_readName 189 = .ok (.lconst 0, 1) := by decide +kernel
theorem dX11_readName_190 : decode cX11_readName 190 = .ok (.lastore, 1) := by decide +kernel
theorem dX11_readName_191 : decode cX11_readName 191 = .ok (.aload_n 0, 1) := by decide +kernel
theorem dX11_readName_192 : decode cX11_readName 192 = .ok (.getfield 29, 3) := by decide +kernel
theorem dX11_readName_195 : decode cX11_readName 195 = .ok (.aload_n 0, 1) := by decide +kernel
theorem dX11_readName_196 : decode cX11_readName 196 = .ok (.getfield 450, 3) := by decide +kernel
theorem dX11_readName_199 : decode cX11_readName 199 = .ok (.dup2, 1) := by decide +kernel
theorem dX11_readName_200 : decode cX11_readName 200 = .ok (.iaload, 1) := by decide +kernel
theorem dX11_readName_201 : decode cX11_readName 201 = .ok (.iconst 1, 1) := by decide +kernel
theorem dX11_readName_202 : decode cX11_readName 202 = .ok (.iadd, 1) := by decide +kernel
theorem dX11_readName_203 : decode cX11_readName 203 = .ok (.iastore, 1) := by decide +kernel
theorem dX11_readName_204 : decode cX11_readName 204 = .ok (.goto 114, 3) := by decide +kernel
theorem dX11_readName_207 : decode cX11_readName 207 = .ok (.bipush 16, 2) := by decide +kernel
theorem dX11_readName_209 : decode cX11_readName 209 = .ok (.aload_n 0, 1) := by decide +kernel
theorem dX11_readName_210 : decode cX11_readName 210 = .ok (.getfield 450, 3) := by decide +kernel
theorem dX11_readName_213 : decode cX11_readName 213 = .ok (.imul, 1) := by decide +kernel
theorem dX11_readName_214 : decode cX11_readName 214 = .ok (.aload_n 0, 1) := by decide +kernel
theorem dX11_readName_215 : decode cX11_readName 215 = .ok (.getfield 23, 3) := by decide +kernel
theorem dX11_readName_218 : decode cX11_readName 218 = .ok (.aload_n 0, 1) := by decide +kernel
theorem dX11_readName_219 : decode cX11_readName 219 = .ok (.getfield 450, 3) := by decide +kernel
theorem dX11_readName_222 : decode cX11_readName 222 = .ok (.iaload, 1) := by decide +kernel
theorem dX11_readName_223 : decode cX11_readName 223 = .ok (.iadd, 1) := by decide +kernel
theorem dX11_readName_224 : decode cX11_readName 224 = .ok (.istore 4, 2) := by decide +kernel
theorem dX11_readName_226 : decode cX11_readName 226 = .ok (.aload_n 0, 1) := by decide +kernel
theorem dX11_readName_227 : decode cX11_readName 227 = .ok (.getfield 32, 3) := by decide +kernel
theorem dX11_readName_230 : decode cX11_readName 230 = .ok (.iload 4, 2) := by decide +kernel
theorem dX11_readName_232 : decode cX11_readName 232 = .ok (.lload_n 2, 1) := by decide +kernel
theorem dX11_readName_233 : decode cX11_readName 233 = .ok (.lastore, 1) := by decide +kernel
theorem dX11_readName_234 : decode cX11_readName 234 = .ok (.aload_n 0, 1) := by decide +kernel
theorem dX11_readName_235 : decode cX11_readName 235 = .ok (.getfield 35, 3) := by decide +kernel
theorem dX11_readName_238 : decode cX11_readName 238 = .ok (.iload 4, 2) := by decide +kernel
theorem dX11_readName_240 : decode cX11_readName 240 = .ok (.iload_n 1, 1) := by decide +kernel
theorem dX11_readName_241 : decode cX11_readName 241 = .ok (.iastore, 1) := by decide +kernel
theorem dX11_readName_242 : decode cX11_readName 242 = .ok (.aload_n 0, 1) := by decide +kernel
theorem dX11_readName_243 : decode cX11_readName 243 = .ok (.getfield 38, 3) := by decide +kernel
theorem dX11_readName_246 : decode cX11_readName 246 = .ok (.iload 4, 2) := by decide +kernel
theorem dX11_readName_248 : decode cX11_readName 248 = .ok (.iconst 0, 1) := by decide +kernel
theorem dX11_readName_249 : decode cX11_readName 249 = .ok (.iastore, 1) := by decide +kernel
theorem dX11_readName_250 : decode cX11_readName 250 = .ok (.aload_n 0, 1) := by decide +kernel
theorem dX11_readName_251 : decode cX11_readName 251 = .ok (.getfield 41, 3) := by decide +kernel
theorem dX11_readName_254 : decode cX11_readName 254 = .ok (.iload 4, 2) := by decide +kernel
theorem dX11_readName_256 : decode cX11_readName 256 = .ok (.iconst 0, 1) := by decide +kernel
theorem dX11_readName_257 : decode cX11_readName 257 = .ok (.bastore, 1) := by decide +kernel
theorem dX11_readName_258 : decode cX11_readName 258 = .ok (.iload_n 1, 1) := by decide +kernel
theorem dX11_readName_259 : decode cX11_readName 259 = .ok (.ifCond .ne 46, 3) := by decide +kernel
theorem dX11_readName_262 : decode cX11_readName 262 = .ok (.aload_n 0, 1) := by decide +kernel
theorem dX11_readName_263 : decode cX11_readName 263 = .ok (.getfield 45, 3) := by decide +kernel
theorem dX11_readName_266 : decode cX11_readName 266 = .ok (.iconst 4, 1) := by decide +kernel
theorem dX11_readName_267 : decode cX11_readName 267 = .ok (.aload_n 0, 1) := by decide +kernel
theorem dX11_readName_268 : decode cX11_readName 268 = .ok (.getfield 450, 3) := by decide +kernel
theorem dX11_readName_271 : decode cX11_readName 271 = .ok (.imul, 1) := by decide +kernel
theorem dX11_readName_272 : decode cX11_readName 272 = .ok (.aload_n 0, 1) := by decide +kernel
theorem dX11_readName_273 : decode cX11_readName 273 = .ok (.getfield 26, 3) := by decide +kernel
theorem dX11_readName_276 : decode cX11_readName 276 = .ok (.aload_n 0, 1) := by decide +kernel
theorem dX11_readName_277 : decode cX11_readName 277 = .ok (.getfield 450, 3) := by decide +kernel
theorem dX11_readName_280 : decode cX11_readName 280 = .ok (.iaload, 1) := by decide +kernel
theorem dX11_readName_281 : decode cX11_readName 281 = .ok (.iadd, 1) := by decide +kernel
theorem dX11_readName_282 : decode cX11_readName 282 = .ok (.aload_n 0, 1) := by decide +kernel
theorem dX11_readName_283 : decode cX11_readName 283 = .ok (.getfield 23, 3) := by decide +kernel
theorem dX11_readName_286 : decode cX11_readName 286 = .ok (.aload_n 0, 1) := by decide +kernel
theorem dX11_readName_287 : decode cX11_readName 287 = .ok (.getfield 450, 3) := by decide +kernel
theorem dX11_readName_290 : decode cX11_readName 290 = .ok (.iaload, 1) := by decide +kernel
theorem dX11_readName_291 : decode cX11_readName 291 = .ok (.iastore, 1) := by decide +kernel
theorem dX11_readName_292 : decode cX11_readName 292 = .ok (.aload_n 0, 1) := by decide +kernel
theorem dX11_readName_293 : decode cX11_readName 293 = .ok (.getfield 26, 3) := by decide +kernel
theorem dX11_readName_296 : decode cX11_readName 296 = .ok (.aload_n 0, 1) := by decide +kernel
theorem dX11_readName_297 : decode cX11_readName 297 = .ok (.getfield 450, 3) := by decide +kernel
theorem dX11_readName_300 : decode cX11_readName 300 = .ok (.dup2, 1) := by decide +kernel
theorem dX11_readName_301 : decode cX11_readName 301 = .ok (.iaload, 1) := by decide +kernel
theorem dX11_readName_302 : decode cX11_readName 302 = .ok (.iconst 1, 1) := by decide +kernel
theorem dX11_readName_303 : decode cX11_readName 303 = .ok (.iadd, 1) := by decide +kernel
theorem dX11_readName_304 : decode cX11_readName 304 = .ok (.iastore, 1) := by decide +kernel
theorem dX11_readName_305 : decode cX11_readName 305 = .ok (.aload_n 0, 1) := by decide +kernel
theorem dX11_readName_306 : decode cX11_readName 306 = .ok (.getfield 23, 3) := by decide +kernel
theorem dX11_readName_309 : decode cX11_readName 309 = .ok (.aload_n 0, 1) := by decide +kernel
theorem dX11_readName_310 : decode cX11_readName 310 = .ok (.getfield 450, 3) := by decide +kernel
theorem dX11_readName_313 : decode cX11_readName 313 = .ok (.dup2, 1) := by decide +kernel
theorem dX11_readName_314 : decode cX11_readName 314 = .ok (.iaload, 1) := by decide +kernel
theorem dX11_readName_315 : decode cX11_readName 315 = .ok (.iconst 1, 1) := by decide +kernel
theorem dX11_readName_316 : decode cX11_readName 316 = .ok (.iadd, 1) := by decide +kernel
theorem dX11_readName_317 : decode cX11_readName 317 = .ok (.iastore, 1) := by decide +kernel
theorem dX11_readName_318 : decode cX11_readName 318 = .ok (.return_, 1) := by decide +kernel
theorem dX11_readHow_0 : decode cX11_readHow 0 = .ok (.aload_n 0, 1) := by decide +kernel
theorem dX11_readHow_1 : decode cX11_readHow 1 = .ok (.getfield 360, 3) := by decide +kernel
theorem dX11_readHow_4 : decode cX11_readHow 4 = .ok (.ifCond .ne 122, 3) := by decide +kernel
theorem dX11_readHow_7 : decode cX11_readHow 7 = .ok (.aload_n 0, 1) := by decide +kernel
theorem dX11_readHow_8 : decode cX11_readHow 8 = .ok (.iconst 3, 1) := by decide +kernel
theorem dX11_readHow_9 : decode cX11_readHow 9 = .ok (.ldc2_w 478, 3) := by decide +kernel
theorem dX11_readHow_12 : decode cX11_readHow 12 = .ok (.invokevirtual 373, 3) := by decide +kernel
theorem dX11_readHow_15 : decode cX11_readHow 15 = .ok (.ifCond .eq 111, 3) := by decide +kernel
theorem dX11_readHow_18 : decode cX11_readHow 18 = .ok (.aload_n 0, 1) := by decide +kernel
theorem dX11_readHow_19 : decode cX11_readHow 19 = .ok (.invokevirtual 377, 3) := by decide +kernel
theorem dX11_readHow_22 : decode cX11_readHow 22 = .ok (.aload_n 0, 1) := by decide +kernel
theorem dX11_readHow_23 : decode cX11_readHow 23 = .ok (.getfield 360, 3) := by decide +kernel
theorem dX11_readHow_26 : decode cX11_readHow 26 = .ok (.ifCond .ne 100, 3) := by decide +kernel
theorem dX11_readHow_29 : decode cX11_readHow 29 = .ok (.aload_n 0, 1) := by decide +kernel
theorem dX11_readHow_30 : decode cX11_readHow 30 = .ok (.iconst 1, 1) := by decide +kernel
theorem dX11_readHow_31 : decode cX11_readHow 31 = .ok (.ldc2_w 386, 3) := by decide +kernel
theorem dX11_readHow_34 : decode cX11_readHow 34 = .ok (.invokevirtual 373, 3) := by decide +kernel
theorem dX11_readHow_37 : decode cX11_readHow 37 = .ok (.ifCond .eq 7, 3) := by decide +kernel
theorem dX11_readHow_40 : decode cX11_readHow 40 = .ok (.iconst 1, 1) := by decide +kernel
theorem dX11_readHow_41 : decode cX11_readHow 41 = .ok (.goto 34, 3) := by decide +kernel
theorem dX11_readHow_44 : decode cX11_readHow 44 = .ok (.aload_n 0, 1) := by decide +kernel
theorem dX11_readHow_45 : decode cX11_readHow 45 = .ok (.iconst 1, 1) := by decide +kernel
theorem dX11_readHow_46 : decode cX11_readHow 46 = .ok (.ldc2_w 388, 3) := by decide +kernel
theorem dX11_readHow_49 : decode cX11_readHow 49 = .ok (.invokevirtual 373, 3) := by decide +kernel
theorem dX11_readHow_52 : decode cX11_readHow 52 = .ok (.ifCond .eq 7, 3) := by decide +kernel
theorem dX11_readHow_55 : decode cX11_readHow 55 = .ok (.iconst 2, 1) := by decide +kernel
theorem dX11_readHow_56 : decode cX11_readHow 56 = .ok (.goto 19, 3) := by decide +kernel
theorem dX11_readHow_59 : decode cX11_readHow 59 = .ok (.aload_n 0, 1) := by decide +kernel
theorem dX11_readHow_60 : decode cX11_readHow 60 = .ok (.iconst 1, 1) := by decide +kernel
theorem dX11_readHow_61 : decode cX11_readHow 61 = .ok (.ldc2_w 390, 3) := by decide +kernel
theorem dX11_readHow_64 : decode cX11_readHow 64 = .ok (.invokevirtual 373, 3) := by decide +kernel
theorem dX11_readHow_67 : decode cX11_readHow 67 = .ok (.ifCond .eq 7, 3) := by decide +kernel
theorem dX11_readHow_70 : decode cX11_readHow 70 = .ok (.iconst 3, 1) := by decide +kernel
theorem dX11_readHow_71 : decode cX11_readHow 71 = .ok (.goto 4, 3) := by decide +kernel
theorem dX11_readHow_74 : decode cX11_readHow 74 = .ok (.iconst 0, 1) := by decide +kernel
theorem dX11_readHow_75 : decode cX11_readHow 75 = .ok (.istore_n 1, 1) := by decide +kernel
theorem dX11_readHow_76 : decode cX11_readHow 76 = .ok (.iload_n 1, 1) := by decide +kernel
theorem dX11_readHow_77 : decode cX11_readHow 77 = .ok (.ifCond .ne 20, 3) := by decide +kernel
theorem dX11_readHow_80 : decode cX11_readHow 80 = .ok (.aload_n 0, 1) := by decide +kernel
theorem dX11_readHow_81 : decode cX11_readHow 81 = .ok (.iconst 2, 1) := by decide +kernel
theorem dX11_readHow_82 : decode cX11_readHow 82 = .ok (.aload_n 0, 1) := by decide +kernel
theorem dX11_readHow_83 : decode cX11_readHow 83 = .ok (.getfield 16, 3) := by decide +kernel
theorem dX11_readHow_86 : decode cX11_readHow 86 = .ok (.aload_n 0, 1) := by decide +kernel
theorem dX11_readHow_87 : decode cX11_readHow 87 = .ok (.getfield 366, 3) := by decide +kernel
theorem dX11_readHow_90 : decode cX11_readHow 90 = .ok (.iaload, 1) := by decide +kernel
theorem dX11_readHow_91 : decode cX11_readHow 91 = .ok (.invokevirtual 369, 3) := by decide +kernel
theorem dX11_readHow_94 : decode cX11_readHow 94 = .ok (.goto 32, 3) := by decide +kernel
theorem dX11_readHow_97 : decode cX11_readHow 97 = .ok (.aload_n 0, 1) := by decide +kernel
theorem dX11_readHow_98 : decode cX11_readHow 98 = .ok (.getfield 38, 3) := by decide +kernel
theorem dX11_readHow_101 : decode cX11_readHow 101 = .ok (.bipush 16, 2) := by decide +kernel
theorem dX11_readHow_103 : decode cX11_readHow 103 = .ok (.aload_n 0, 1) := by decide +kernel
theorem dX11_readHow_104 : decode cX11_readHow 104 = .ok (.getfield 450, 3) := by decide +kernel
theorem dX11_readHow_107 : decode cX11_readHow 107 = .ok (.imul, 1) := by decide +kernel
theorem dX11_readHow_108 : decode cX11_readHow 108 = .ok (.aload_n 0, 1) := by decide +kernel
theorem dX11_readHow_109 : decode cX11_readHow 109 = .ok (.getfield 23, 3) := by decide +kernel
theorem dX11_readHow_112 : decode cX11_readHow 112 = .ok (.aload_n 0, 1) := by decide +kernel
theorem dX11_readHow_113 : decode cX11_readHow 113 = .ok (.getfield 450, 3) := by decide +kernel
theorem dX11_readHow_116 : decode cX11_readHow 116 = .ok (.iaload, 1) := by decide +kernel
theorem dX11_readHow_117 : decode cX11_readHow 117 = .ok (.iadd, 1) := by decide +kernel
theorem dX11_readHow_118 : decode cX11_readHow 118 = .ok (.iconst 1, 1) := by decide +kernel
theorem dX11_readHow_119 : decode cX11_readHow 119 = .ok (.isub, 1) := by decide +kernel
theorem dX11_readHow_120 : decode cX11_readHow 120 = .ok (.iload_n 1, 1) := by decide +kernel
theorem dX11_readHow_121 : decode cX11_readHow 121 = .ok (.iastore, 1) := by decide +kernel
theorem dX11_readHow_122 : decode cX11_readHow 122 = .ok (.aload_n 0, 1) := by decide +kernel
theorem dX11_readHow_123 : decode cX11_readHow 123 = .ok (.invokevirtual 377, 3) := by decide +kernel
theorem dX11_readHow_126 : decode cX11_readHow 126 = .ok (.return_, 1) := by decide +kernel
theorem dX11_readFirst_0 : decode cX11_readFirst 0 = .ok (.aload_n 0, 1) := by decide +kernel
theorem dX11_readFirst_1 : decode cX11_readFirst 1 = .ok (.iconst 3, 1) := by decide +kernel
theorem dX11_readFirst_2 : decode cX11_readFirst 2 = .ok (.ldc2_w 480, 3) := by decide +kernel
theorem dX11_readFirst_5 : decode cX11_readFirst 5 = .ok (.invokevirtual 464, 3) := by decide +kernel
theorem dX11_readFirst_8 : decode cX11_readFirst 8 = .ok (.lconst 1, 1) := by decide +kernel
theorem dX11_readFirst_9 : decode cX11_readFirst 9 = .ok (.lstore_n 1, 1) := by decide +kernel
theorem dX11_readFirst_10 : decode cX11_readFirst 10 = .ok (.aload_n 0, 1) := by decide +kernel
theorem dX11_readFirst_11 : decode cX11_readFirst 11 = .ok (.getfield 360, 3) := by decide +kernel
theorem dX11_readFirst_14 : decode cX11_readFirst 14 = .ok (.ifCond .ne 22, 3) := by decide +kernel
theorem dX11_readFirst_17 : decode cX11_readFirst 17 = .ok (.aload_n 0, 1) := by decide +kernel
theorem dX11_readFirst_18 : decode cX11_readFirst 18 = .ok (.iconst 3, 1) := by decide +kernel
theorem dX11_readFirst_19 : decode cX11_readFirst 19 = .ok (.ldc2_w 482, 3) := by decide +kernel
theorem dX11_readFirst_22 : decode cX11_readFirst 22 = .ok (.invokevirtual 373, 3) := by decide +kernel
theorem dX11_readFirst_25 : decode cX11_readFirst 25 = .ok (.ifCond .eq 11, 3) := by decide +kernel
theorem dX11_readFirst_28 : decode cX11_readFirst 28 = .ok (.ldc2_w 484, 3) := by decide +kernel
theorem dX11_readFirst_31 : decode cX11_readFirst 31 = .ok (.lstore_n 1, 1) := by decide +kernel
theorem dX11_readFirst_32 : decode cX11_readFirst 32 = .ok (.aload_n 0, 1) := by decide +kernel
theorem dX11_readFirst_33 : decode cX11_readFirst 33 = .ok (.invokevirtual 377, 3) := by decide +kernel
theorem dX11_readFirst_36 : decode cX11_readFirst 36 = .ok (.aload_n 0, 1) := by decide +kernel
theorem dX11_readFirst_37 : decode cX11_readFirst 37 = .ok (.getfield 360, 3) := by decide +kernel
theorem dX11_readFirst_40 : decode cX11_readFirst 40 = .ok (.ifCond .ne 72, 3) := by decide +kernel
theorem dX11_readFirst_43 : decode cX11_readFirst 43 = .ok (.aload_n 0, 1) := by decide +kernel
theorem dX11_readFirst_44 : decode cX11_readFirst 44 = .ok (.getfield 13, 3) := by decide +kernel
theorem dX11_readFirst_47 : decode cX11_readFirst 47 = .ok (.aload_n 0, 1) := by decide +kernel
theorem dX11_readFirst_48 : decode cX11_readFirst 48 = .ok (.getfield 366, 3) := by decide +kernel
theorem dX11_readFirst_51 : decode cX11_readFirst 51 = .ok (.iaload, 1) := by decide +kernel
theorem dX11_readFirst_52 : decode cX11_readFirst 52 = .ok (.iconst 2, 1) := by decide +kernel
theorem dX11_readFirst_53 : decode cX11_readFirst 53 = .ok (.if_icmp .ne 45, 3) := by decide +kernel
theorem dX11_readFirst_56 : decode cX11_readFirst 56 = .ok (.aload_n 0, 1) := by decide +kernel
theorem dX11_readFirst_57 : decode cX11_readFirst 57 = .ok (.getfield 51, 3) := by decide +kernel
theorem dX11_readFirst_60 : decode cX11_readFirst 60 = .ok (.bipush 6, 2) := by decide +kernel
theorem dX11_readFirst_62 : decode cX11_readFirst 62 = .ok (.aload_n 0, 1) := by decide +kernel
theorem dX11_readFirst_63 : decode cX11_readFirst 63 = .ok (.getfield 450, 3) := by decide +kernel
theorem dX11_readFirst_66 : decode cX11_readFirst 66 = .ok (.imul, 1) := by decide +kernel
theorem dX11_readFirst_67 : decode cX11_readFirst 67 = .ok (.aload_n 0, 1) := by decide +kernel
theorem dX11_readFirst_68 : decode cX11_readFirst 68 = .ok (.getfield 29, 3) := by decide +kernel
theorem dX11_readFirst_71 : decode cX11_readFirst 71 = .ok (.aload_n 0, 1) := by decide +kernel
theorem dX11_readFirst_72 : decode cX11_readFirst 72 = .ok (.getfield 450, 3) := by decide +kernel
theorem dX11_readFirst_75 : decode cX11_readFirst 75 = .ok (.iaload, 1) := by decide +kernel
theorem dX11_readFirst_76 : decode cX11_readFirst 76 = .ok (.iadd, 1) := by decide +kernel
theorem dX11_readFirst_77 : decode cX11_readFirst 77 = .ok (.iconst 1, 1) := by decide +kernel
theorem dX11_readFirst_78 : decode cX11_readFirst 78 = .ok (.isub, 1) := by decide +kernel
theorem dX11_readFirst_79 : decode cX11_readFirst 79 = .ok (.lload_n 1, 1) := by decide +kernel
theorem dX11_readFirst_80 : decode cX11_readFirst 80 = .ok (.aload_n 0, 1) := by decide +kernel
theorem dX11_readFirst_81 : decode cX11_readFirst 81 = .ok (.getfield 19, 3) := by decide +kernel
theorem dX11_readFirst_84 : decode cX11_readFirst 84 = .ok (.aload_n 0, 1) := by decide +kernel
theorem dX11_readFirst_85 : decode cX11_readFirst 85 = .ok (.getfield 366, 3) := by decide +kernel
theorem dX11_readFirst_88 : decode cX11_readFirst 88 = .ok (.laload, 1) := by decide +kernel
theorem dX11_readFirst_89 : decode cX11_readFirst 89 = .ok (.lmul, 1) := by decide +kernel
theorem dX11_readFirst_90 : decode cX11_readFirst 90 = .ok (.lastore, 1) := by decide +kernel
theorem dX11_readFirst_91 : decode cX11_readFirst 91 = .ok (.aload_n 0, 1) := by decide +kernel
theorem dX11_readFirst_92 : decode cX11_readFirst 92 = .ok (.invokevirtual 377, 3) := by decide +kernel
theorem dX11_readFirst_95 : decode cX11_readFirst 95 = .ok (.goto 17, 3) := by decide +kernel
theorem dX11_readFirst_98 : decode cX11_readFirst 98 = .ok (.aload_n 0, 1) := by decide +kernel
theorem dX11_readFirst_99 : decode cX11_readFirst 99 = .ok (.iconst 2, 1) := by decide +kernel
theorem dX11_readFirst_100 : decode cX11_readFirst 100 = .ok (.aload_n 0, 1) := by decide +kernel
theorem dX11_readFirst_101 : decode cX11_readFirst 101 = .ok (.getfield 16, 3) := by decide +kernel
theorem dX11_readFirst_104 : decode cX11_readFirst 104 = .ok (.aload_n 0, 1) := by decide +kernel
theorem dX11_readFirst_105 : decode cX11_readFirst 105 = .ok (.getfield 366, 3) := by decide +kernel
theorem dX11_readFirst_108 : decode cX11_readFirst 108 = .ok (.iaload, 1) := by decide +kernel
theorem dX11_readFirst_109 : decode cX11_readFirst 109 = .ok (.invokevirtual 369, 3) := by decide +kernel
theorem dX11_readFirst_112 : decode cX11_readFirst 112 = .ok (.return_, 1) := by decide +kernel
theorem dX11_cond_0 : decode cX11_cond 0 = .ok (.sipush 410, 3) := by decide +kernel
theorem dX11_cond_3 : decode cX11_cond 3 = .ok (.aload_n 0, 1) := by decide +kernel
theorem dX11_cond_4 : decode cX11_cond 4 = .ok (.getfield 450, 3) := by decide +kernel
theorem dX11_cond_7 : decode cX11_cond 7 = .ok (.imul, 1) := by decide +kernel
theorem dX11_cond_8 : decode cX11_cond 8 = .ok (.aload_n 0, 1) := by decide +kernel
theorem dX11_cond_9 : decode cX11_cond 9 = .ok (.getfield 54, 3) := by decide +kernel
theorem dX11_cond_12 : decode cX11_cond 12 = .ok (.aload_n 0, 1) := by decide +kernel
theorem dX11_cond_13 : decode cX11_cond 13 = .ok (.getfield 450, 3) := by decide +kernel
theorem dX11_cond_16 : decode cX11_cond 16 = .ok (.iaload, 1) := by decide +kernel
theorem dX11_cond_17 : decode cX11_cond 17 = .ok (.iadd, 1) := by decide +kernel
theorem dX11_cond_18 : decode cX11_cond 18 = .ok (.istore 4, 2) := by decide +kernel
theorem dX11_cond_20 : decode cX11_cond 20 = .ok (.aload_n 0, 1) := by decide +kernel
theorem dX11_cond_21 : decode cX11_cond 21 = .ok (.getfield 54, 3) := by decide +kernel
theorem dX11_cond_24 : decode cX11_cond 24 = .ok (.aload_n 0, 1) := by decide +kernel
theorem dX11_cond_25 : decode cX11_cond 25 = .ok (.getfield 450, 3) := by decide +kernel
theorem dX11_cond_28 : decode cX11_cond 28 = .ok (.dup2, 1) := by decide +kernel
theorem dX11_cond_29 : decode cX11_cond 29 = .ok (.iaload, 1) := by decide +kernel
theorem dX11_cond_30 : decode cX11_cond 30 = .ok (.iconst 1, 1) := by decide +kernel
theorem dX11_cond_31 : decode cX11_cond 31 = .ok (.iadd, 1) := by decide +kernel
theorem dX11_cond_32 : decode cX11_cond 32 = .ok (.iastore, 1) := by decide +kernel
theorem dX11_cond_33 : decode cX11_cond 33 = .ok (.aload_n 0, 1) := by decide +kernel
theorem dX11_cond_34 : decode cX11_cond 34 = .ok (.getfield 57, 3) := by decide +kernel
theorem dX11_cond_37 : decode cX11_cond 37 = .ok (.iload 4, 2) := by decide +kernel
theorem dX11_cond_39 : decode cX11_cond 39 = .ok (.iload_n 1, 1) := by decide +kernel
theorem dX11_cond_40 : decode cX11_cond 40 = .ok (.iastore, 1) := by decide +kernel
theorem dX11_cond_41 : decode cX11_cond 41 = .ok (.aload_n 0, 1) := by decide +kernel
theorem dX11_cond_42 : decode cX11_cond 42 = .ok (.getfield 60, 3) := by decide +kernel
theorem dX11_cond_45 : decode cX11_cond 45 = .ok (.iload 4, 2) := by decide +kernel
theorem dX11_cond_47 : decode cX11_cond 47 = .ok (.iload_n 2, 1) := by decide +kernel
theorem dX11_cond_48 : decode cX11_cond 48 = .ok (.iastore, 1) := by decide +kernel
theorem dX11_cond_49 : decode cX11_cond 49 = .ok (.aload_n 0, 1) := by decide +kernel
theorem dX11_cond_50 : decode cX11_cond 50 = .ok (.getfield 63, 3) := by decide +kernel
theorem dX11_cond_53 : decode cX11_cond 53 = .ok (.iload 4, 2) := by decide +kernel
theorem dX11_cond_55 : decode cX11_cond 55 = .ok (.iload_n 3, 1) := by decide +kernel
theorem dX11_cond_56 : decode cX11_cond 56 = .ok (.iastore, 1) := by decide +kernel
theorem dX11_cond_57 : decode cX11_cond 57 = .ok (.iload 4, 2) := by decide +kernel
theorem dX11_cond_59 : decode cX11_cond 59 = .ok (.ireturn, 1) := by decide +kernel
theorem dX11_sum_0 : decode cX11_sum 0 = .ok (.sipush 810, 3) := by decide +kernel
theorem dX11_sum_3 : decode cX11_sum 3 = .ok (.aload_n 0, 1) := by decide +kernel
theorem dX11_sum_4 : decode cX11_sum 4 = .ok (.getfield 450, 3) := by decide +kernel
theorem dX11_sum_7 : decode cX11_sum 7 = .ok (.imul, 1) := by decide +kernel
theorem dX11_sum_8 : decode cX11_sum 8 = .ok (.aload_n 0, 1) := by decide +kernel
theorem dX11_sum_9 : decode cX11_sum 9 = .ok (.getfield 66, 3) := by decide +kernel
theorem dX11_sum_12 : decode cX11_sum 12 = .ok (.aload_n 0, 1) := by decide +kernel
theorem dX11_sum_13 : decode cX11_sum 13 = .ok (.getfield 450, 3) := by decide +kernel
theorem dX11_sum_16 : decode cX11_sum 16 = .ok (.iaload, 1) := by decide +kernel
theorem dX11_sum_17 : decode cX11_sum 17 = .ok (.iadd, 1) := by decide +kernel
theorem dX11_sum_18 : decode cX11_sum 18 = .ok (.istore 5, 2) := by decide +kernel
theorem dX11_sum_20 : decode cX11_sum 20 = .ok (.aload_n 0, 1) := by decide +kernel
theorem dX11_sum_21 : decode cX11_sum 21 = .ok (.getfield 66, 3) := by decide +kernel
theorem dX11_sum_24 : decode cX11_sum 24 = .ok (.aload_n 0, 1) := by decide +kernel
theorem dX11_sum_25 : decode cX11_sum 25 = .ok (.getfield 450, 3) := by decide +kernel
theorem dX11_sum_28 : decode cX11_sum 28 = .ok (.dup2, 1) := by decide +kernel
theorem dX11_sum_29 : decode cX11_sum 29 = .ok (.iaload, 1) := by decide +kernel
theorem dX11_sum_30 : decode cX11_sum 30 = .ok (.iconst 1, 1) := by decide +kernel
theorem dX11_sum_31 : decode cX11_sum 31 = .ok (.iadd, 1) := by decide +kernel
theorem dX11_sum_32 : decode cX11_sum 32 = .ok (.iastore, 1) := by decide +kernel
theorem dX11_sum_33 : decode cX11_sum 33 = .ok (.aload_n 0, 1) := by decide +kernel
theorem dX11_sum_34 : decode cX11_sum 34 = .ok (.getfield 69, 3) := by decide +kernel
theorem dX11_sum_37 : decode cX11_sum 37 = .ok (.iload 5, 2) := by decide +kernel
theorem dX11_sum_39 : decode cX11_sum 39 = .ok (.iload_n 1, 1) := by decide +kernel
theorem dX11_sum_40 : decode cX11_sum 40 = .ok (.iastore, 1) := by decide +kernel
theorem dX11_sum_41 : decode cX11_sum 41 = .ok (.aload_n 0, 1) := by decide +kernel
theorem dX11_sum_42 : decode cX11_sum 42 = .ok (.getfield 72, 3) := by decide +kernel
theorem dX11_sum_45 : decode cX11_sum 45 = .ok (.iload 5, 2) := by decide +kernel
theorem dX11_sum_47 : decode cX11_sum 47 = .ok (.lload_n 2, 1) := by decide +kernel
theorem dX11_sum_48 : decode cX11_sum 48 = .ok (.lastore, 1) := by decide +kernel
theorem dX11_sum_49 : decode cX11_sum 49 = .ok (.aload_n 0, 1) := by decide +kernel
theorem dX11_sum_50 : decode cX11_sum 50 = .ok (.getfield 75, 3) := by decide +kernel
theorem dX11_sum_53 : decode cX11_sum 53 = .ok (.iload 5, 2) := by decide +kernel
theorem dX11_sum_55 : decode cX11_sum 55 = .ok (.iload 4, 2) := by decide +kernel
theorem dX11_sum_57 : decode cX11_sum 57 = .ok (.iastore, 1) := by decide +kernel
theorem dX11_sum_58 : decode cX11_sum 58 = .ok (.iload 5, 2) := by decide +kernel
theorem dX11_sum_60 : decode cX11_sum 60 = .ok (.ireturn, 1) := by decide +kernel
theorem dX11_opening_0 : decode cX11_opening 0 = .ok (.aload_n 0, 1) := by decide +kernel
theorem dX11_opening_1 : decode cX11_opening 1 = .ok (.getfield 486, 3) := by decide +kernel
theorem dX11_opening_4 : decode cX11_opening 4 = .ok (.bipush 15, 2) := by decide +kernel
theorem dX11_opening_6 : decode cX11_opening 6 = .ok (.if_icmp .ne 21, 3) := by decide +kernel
theorem dX11_opening_9 : decode cX11_opening 9 = .ok (.aload_n 0, 1) := by decide +kernel
theorem dX11_opening_10 : decode cX11_opening 10 = .ok (.bipush 6, 2) := by decide +kernel
theorem dX11_opening_12 : decode cX11_opening 12 = .ok (.aload_n 0, 1) := by decide +kernel
theorem dX11_opening_13 : decode cX11_opening 13 = .ok (.getfield 16, 3) := by decide +kernel
theorem dX11_opening_16 : decode cX11_opening 16 = .ok (.aload_n 0, 1) := by decide +kernel
theorem dX11_opening_17 : decode cX11_opening 17 = .ok (.getfield 366, 3) := by decide +kernel
theorem dX11_opening_20 : decode cX11_opening 20 = .ok (.iaload, 1) := by decide +kernel
theorem dX11_opening_21 : decode cX11_opening 21 = .ok (.invokevirtual 369, 3) := by decide +kernel
theorem dX11_opening_24 : decode cX11_opening 24 = .ok (.goto 62, 3) := by decide +kernel
theorem dX11_opening_27 : decode cX11_opening 27 = .ok (.aload_n 0, 1) := by decide +kernel
theorem dX11_opening_28 : decode cX11_opening 28 = .ok (.dup, 1) := by decide +kernel
theorem dX11_opening_29 : decode cX11_opening 29 = .ok (.getfield 486, 3) := by decide +kernel
theorem dX11_opening_32 : decode cX11_opening 32 = .ok (.iconst 1, 1) := by decide +kernel
theorem dX11_opening_33 : decode cX11_opening 33 = .ok (.iadd, 1) := by decide +kernel
theorem dX11_opening_34 : decode cX11_opening 34 = .ok (.putfield 486, 3) := by decide +kernel
theorem dX11_opening_37 : decode cX11_opening 37 = .ok (.aload_n 0, 1) := by decide +kernel
theorem dX11_opening_38 : decode cX11_opening 38 = .ok (.getfield 78, 3) := by decide +kernel
theorem dX11_opening_41 : decode cX11_opening 41 = .ok (.aload_n 0, 1) := by decide +kernel
theorem dX11_opening_42 : decode cX11_opening 42 = .ok (.getfield 489, 3) := by decide +kernel
theorem dX11_opening_45 : decode cX11_opening 45 = .ok (.iload_n 1, 1) := by decide +kernel
theorem dX11_opening_46 : decode cX11_opening 46 = .ok (.iastore, 1) := by decide +kernel
theorem dX11_opening_47 : decode cX11_opening 47 = .ok (.aload_n 0, 1) := by decide +kernel
theorem dX11_opening_48 : decode cX11_opening 48 = .ok (.dup, 1) := by decide +kernel
theorem dX11_opening_49 : decode cX11_opening 49 = .ok (.getfield 489, 3) := by decide +kernel
theorem dX11_opening_52 : decode cX11_opening 52 = .ok (.iconst 1, 1) := by decide +kernel
theorem dX11_opening_53 : decode cX11_opening 53 = .ok (.iadd, 1) := by decide +kernel
theorem dX11_opening_54 : decode cX11_opening 54 = .ok (.putfield 489, 3) := by decide +kernel
theorem dX11_opening_57 : decode cX11_opening 57 = .ok (.aload_n 0, 1) := by decide +kernel
theorem dX11_opening_58 : decode cX11_opening 58 = .ok (.dup, 1) := by decide +kernel
theorem dX11_opening_59 : decode cX11_opening 59 = .ok (.getfield 492, 3) := by decide +kernel
theorem dX11_opening_62 : decode cX11_opening 62 = .ok (.iload_n 1, 1) := by decide +kernel
theorem dX11_opening_63 : decode cX11_opening 63 = .ok (.iconst 5, 1) := by decide +kernel
theorem dX11_opening_64 : decode cX11_opening 64 = .ok (.if_icmp .eq 9, 3) := by decide +kernel
theorem dX11_opening_67 : decode cX11_opening 67 = .ok (.iload_n 1, 1) := by decide +kernel
theorem dX11_opening_68 : decode cX11_opening 68 = .ok (.bipush 9, 2) := by decide +kernel
theorem dX11_opening_70 : decode cX11_opening 70 = .ok (.if_icmp .ne 7, 3) := by decide +kernel
theorem dX11_opening_73 : decode cX11_opening 73 = .ok (.iconst 1, 1) := by decide +kernel
theorem dX11_opening_74 : decode cX11_opening 74 = .ok (.goto 4, 3) := by decide +kernel
theorem dX11_opening_77 : decode cX11_opening 77 = .ok (.iconst 0, 1) := by decide +kernel
theorem dX11_opening_78 : decode cX11_opening 78 = .ok (.iadd, 1) := by decide +kernel
theorem dX11_opening_79 : decode cX11_opening 79 = .ok (.putfield 492, 3) := by decide +kernel
theorem dX11_opening_82 : decode cX11_opening 82 = .ok (.aload_n 0, 1) := by decide +kernel
theorem dX11_opening_83 : decode cX11_opening 83 = .ok (.invokevirtual 377, 3) := by decide +kernel
theorem dX11_opening_86 : decode cX11_opening 86 = .ok (.return_, 1) := by decide +kernel
theorem dX11_popped_0 : decode cX11_popped 0 = .ok (.aload_n 0, 1) := by decide +kernel
theorem dX11_popped_1 : decode cX11_popped 1 = .ok (.dup, 1) := by decide +kernel
theorem dX11_popped_2 : decode cX11_popped 2 = .ok (.getfield 495, 3) := by decide +kernel
theorem dX11_popped_5 : decode cX11_popped 5 = .ok (.iconst 1, 1) := by decide +kernel
theorem dX11_popped_6 : decode cX11_popped 6 = .ok (.isub, 1) := by decide +kernel
theorem dX11_popped_7 : decode cX11_popped 7 = .ok (.putfield 495, 3) := by decide +kernel
theorem dX11_popped_10 : decode cX11_popped 10 = .ok (.aload_n 0, 1) := by decide +kernel
theorem dX11_popped_11 : decode cX11_popped 11 = .ok (.getfield 81, 3) := by decide +kernel
theorem dX11_popped_14 : decode cX11_popped 14 = .ok (.aload_n 0, 1) := by decide +kernel
theorem dX11_popped_15 : decode cX11_popped 15 = .ok (.getfield 495, 3) := by decide +kernel
theorem dX11_popped_18 : decode cX11_popped 18 = .ok (.iaload, 1) := by decide +kernel
theorem dX11_popped_19 : decode cX11_popped 19 = .ok (.ireturn, 1) := by decide +kernel
theorem dX11_pushed_0 : decode cX11_pushed 0 = .ok (.aload_n 0, 1) := by decide +kernel
theorem dX11_pushed_1 : decode cX11_pushed 1 = .ok (.getfield 81, 3) := by decide +kernel
theorem dX11_pushed_4 : decode cX11_pushed 4 = .ok (.aload_n 0, 1) := by decide +kernel
theorem dX11_pushed_5 : decode cX11_pushed 5 = .ok (.getfield 495, 3) := by decide +kernel
theorem dX11_pushed_8 : decode cX11_pushed 8 = .ok (.iload_n 1, 1) := by decide +kernel
theorem dX11_pushed_9 : decode cX11_pushed 9 = .ok (.iastore, 1) := by decide +kernel
theorem dX11_pushed_10 : decode cX11_pushed 10 = .ok (.aload_n 0, 1) := by decide +kernel
theorem dX11_pushed_11 : decode cX11_pushed 11 = .ok (.dup, 1) := by decide +kernel
theorem dX11_pushed_12 : decode cX11_pushed 12 = .ok (.getfield 495, 3) := by decide +kernel
theorem dX11_pushed_15 : decode cX11_pushed 15 = .ok (.iconst 1, 1) := by decide +kernel
theorem dX11_pushed_16 : decode cX11_pushed 16 = .ok (.iadd, 1) := by decide +kernel
theorem dX11_pushed_17 : decode cX11_pushed 17 = .ok (.putfield 495, 3) := by decide +kernel
theorem dX11_pushed_20 : decode cX11_pushed 20 = .ok (.return_, 1) := by decide +kernel
theorem dX11_joinConds_0 : decode cX11_joinConds 0 = .ok (.aload_n 0, 1) := by decide +kernel
theorem dX11_joinConds_1 : decode cX11_joinConds 1 = .ok (.getfield 489, 3) := by decide +kernel
theorem dX11_joinConds_4 : decode cX11_joinConds 4 = .ok (.ifCond .le 77, 3) := by decide +kernel
theorem dX11_joinConds_7 : decode cX11_joinConds 7 = .ok (.aload_n 0, 1) := by decide +kernel
theorem dX11_joinConds_8 : decode cX11_joinConds 8 = .ok (.getfield 78, 3) := by decide +kernel
theorem dX11_joinConds_11 : decode cX11_joinConds 11 = .ok (.aload_n 0, 1) := by decide +kernel
theorem dX11_joinConds_12 : decode cX11_joinConds 12 = .ok (.getfield 489, 3) := by decide +kernel
theorem dX11_joinConds_15 : decode cX11_joinConds 15 = .ok (.iconst 1, 1) := by decide +kernel
theorem dX11_joinConds_16 : decode cX11_joinConds 16 = .ok (.isub, 1) := by decide +kernel
theorem dX11_joinConds_17 : decode cX11_joinConds 17 = .ok (.iaload, 1) := by decide +kernel
theorem dX11_joinConds_18 : decode cX11_joinConds 18 = .ok (.iconst 3, 1) := by decide +kernel
theorem dX11_joinConds_19 : decode cX11_joinConds 19 = .ok (.if_icmp .lt 62, 3) := by decide +kernel
theorem dX11_joinConds_22 : decode cX11_joinConds 22 = .ok (.aload_n 0, 1) := by decide +kernel
theorem dX11_joinConds_23 : decode cX11_joinConds 23 = .ok (.getfield 78, 3) := by decide +kernel
theorem dX11_joinConds_26 : decode cX11_joinConds 26 = .ok (.aload_n 0, 1) := by decide +kernel
theorem dX11_joinConds_27 : decode cX11_joinConds 27 = .ok (.getfield 489, 3) := by decide +kernel
theorem dX11_joinConds_30 : decode cX11_joinConds 30 = .ok (.iconst 1, 1) := by decide +kernel
theorem dX11_joinConds_31 : decode cX11_joinConds 31 = .ok (.isub, 1) := by decide +kernel
theorem dX11_joinConds_32 : decode cX11_joinConds 32 = .ok (.iaload, 1) := by decide +kernel
theorem dX11_joinConds_33 : decode cX11_joinConds 33 = .ok (.iload_n 1, 1) := by decide +kernel
theorem dX11_joinConds_34 : decode cX11_joinConds 34 = .ok (.if_icmp .gt 47, 3) := by decide +kernel
theorem dX11_joinConds_37 : decode cX11_joinConds 37 = .ok (.aload_n 0, 1) := by decide +kernel
theorem dX11_joinConds_38 : decode cX11_joinConds 38 = .ok (.invokevirtual 498, 3) := by decide +kernel
theorem dX11_joinConds_41 : decode cX11_joinConds 41 = .ok (.istore_n 2, 1) := by decide +kernel
theorem dX11_joinConds_42 : decode cX11_joinConds 42 = .ok (.aload_n 0, 1) := by decide +kernel
theorem dX11_joinConds_43 : decode cX11_joinConds 43 = .ok (.invokevirtual 498, 3) := by decide +kernel
theorem dX11_joinConds_46 : decode cX11_joinConds 46 = .ok (.istore_n 3, 1) := by decide +kernel
theorem dX11_joinConds_47 : decode cX11_joinConds 47 = .ok (.aload_n 0, 1) := by decide +kernel
theorem dX11_joinConds_48 : decode cX11_joinConds 48 = .ok (.aload_n 0, 1) := by decide +kernel
theorem dX11_joinConds_49 : decode cX11_joinConds 49 = .ok (.aload_n 0, 1) := by decide +kernel
theorem dX11_joinConds_50 : decode cX11_joinConds 50 = .ok (.getfield 78, 3) := by decide +kernel
theorem dX11_joinConds_53 : decode cX11_joinConds 53 = .ok (.aload_n 0, 1) := by decide +kernel
theorem dX11_joinConds_54 : decode cX11_joinConds 54 = .ok (.getfield 489, 3) := by decide +kernel
theorem dX11_joinConds_57 : decode cX11_joinConds 57 = .ok (.iconst 1, 1) := by decide +kernel
theorem dX11_joinConds_58 : decode cX11_joinConds 58 = .ok (.isub, 1) := by decide +kernel
theorem dX11_joinConds_59 : decode cX11_joinConds 59 = .ok (.iaload, 1) := by decide +kernel
theorem dX11_joinConds_60 : decode cX11_joinConds 60 = .ok (.iload_n 3, 1) := by decide +kernel
theorem dX11_joinConds_61 : decode cX11_joinConds 61 = .ok (.iload_n 2, 1) := by decide +kernel
theorem dX11_joinConds_62 : decode cX11_joinConds 62 = .ok (.invokevirtual 502, 3) := by decide +kernel
theorem dX11_joinConds_65 : decode cX11_joinConds 65 = .ok (.invokevirtual 506, 3) := by decide +kernel
theorem dX11_joinConds_68 : decode cX11_joinConds 68 = .ok (.aload_n 0, 1) := by decide +kernel
theorem dX11_joinConds_69 : decode cX11_joinConds 69 = .ok (.dup, 1) := by decide +kernel
theorem dX11_joinConds_70 : decode cX11_joinConds 70 = .ok (.getfield 489, 3) := by decide +kernel
theorem dX11_joinConds_73 : decode cX11_joinConds 73 = .ok (.iconst 1, 1) := by decide +kernel
theorem dX11_joinConds_74 : decode cX11_joinConds 74 = .ok (.isub, 1) := by decide +kernel
theorem dX11_joinConds_75 : decode cX11_joinConds 75 = .ok (.putfield 489, 3) := by decide +kernel
theorem dX11_joinConds_78 : decode cX11_joinConds 78 = .ok (.goto (-78), 3) := by decide +kernel
theorem dX11_joinConds_81 : decode cX11_joinConds 81 = .ok (.return_, 1) := by decide +kernel
theorem dX11_closeNots_0 : decode cX11_closeNots 0 = .ok (.aload_n 0, 1) := by decide +kernel
theorem dX11_closeNots_1 : decode cX11_closeNots 1 = .ok (.getfield 489, 3) := by decide +kernel
theorem dX11_closeNots_4 : decode cX11_closeNots 4 = .ok (.ifCond .le 55, 3) := by decide +kernel
theorem dX11_closeNots_7 : decode cX11_closeNots 7 = .ok (.aload_n 0, 1) := by decide +kernel
theorem dX11_closeNots_8 : decode cX11_closeNots 8 = .ok (.getfield 78, 3) := by decide +kernel
theorem dX11_closeNots_11 : decode cX11_closeNots 11 = .ok (.aload_n 0, 1) := by decide +kernel
theorem dX11_closeNots_12 : decode cX11_closeNots 12 = .ok (.getfield 489, 3) := by decide +kernel
theorem dX11_closeNots_15 : decode cX11_closeNots 15 = .ok (.iconst 1, 1) := by decide +kernel
theorem dX11_closeNots_16 : decode cX11_closeNots 16 = .ok (.isub, 1) := by decide +kernel
theorem dX11_closeNots_17 : decode cX11_closeNots 17 = .ok (.iaload, 1) := by decide +kernel
theorem dX11_closeNots_18 : decode cX11_closeNots 18 = .ok (.iconst 2, 1) := by decide +kernel
theorem dX11_closeNots_19 : decode cX11_closeNots 19 = .ok (.if_icmp .ne 40, 3) := by decide +kernel
theorem dX11_closeNots_22 : decode cX11_closeNots 22 = .ok (.aload_n 0, 1) := by decide +kernel
theorem dX11_closeNots_23 : decode cX11_closeNots 23 = .ok (.aload_n 0, 1) := by decide +kernel
theorem dX11_closeNots_24 : decode cX11_closeNots 24 = .ok (.iconst 2, 1) := by decide +kernel
theorem dX11_closeNots_25 : decode cX11_closeNots 25 = .ok (.aload_n 0, 1) := by decide +kernel
theorem dX11_closeNots_26 : decode cX11_closeNots 26 = .ok (.invokevirtual 498, 3) := by decide +kernel
theorem dX11_closeNots_29 : decode cX11_closeNots 29 = .ok (.iconst 0, 1) := by decide +kernel
theorem dX11_closeNots_30 : decode cX11_closeNots 30 = .ok (.invokevirtual 502, 3) := by decide +kernel
theorem dX11_closeNots_33 : decode cX11_closeNots 33 = .ok (.invokevirtual 506, 3) := by decide +kernel
theorem dX11_closeNots_36 : decode cX11_closeNots 36 = .ok (.aload_n 0, 1) := by decide +kernel
theorem dX11_closeNots_37 : decode cX11_closeNots 37 = .ok (.dup, 1) := by decide +kernel
theorem dX11_closeNots_38 : decode cX11_closeNots 38 = .ok (.getfield 489, 3) := by decide +kernel
theorem dX11_closeNots_41 : decode cX11_closeNots 41 = .ok (.iconst 1, 1) := by decide +kernel
theorem dX11_closeNots_42 : decode cX11_closeNots 42 = .ok (.isub, 1) := by decide +kernel
theorem dX11_closeNots_43 : decode cX11_closeNots 43 = .ok (.putfield 489, 3) := by decide +kernel
theorem dX11_closeNots_46 : decode cX11_closeNots 46 = .ok (.aload_n 0, 1) := by decide +kernel
theorem dX11_closeNots_47 : decode cX11_closeNots 47 = .ok (.dup, 1) := by decide +kernel
theorem dX11_closeNots_48 : decode cX11_closeNots 48 = .ok (.getfield 486, 3) := by decide +kernel
theorem dX11_closeNots_51 : decode cX11_closeNots 51 = .ok (.iconst 1, 1) := by decide +kernel
theorem dX11_closeNots_52 : decode cX11_closeNots 52 = .ok (.isub, 1) := by decide +kernel
theorem dX11_closeNots_53 : decode cX11_closeNots 53 = .ok (.putfield 486, 3) := by decide +kernel
theorem dX11_closeNots_56 : decode cX11_closeNots 56 = .ok (.goto (-56), 3) := by decide +kernel
theorem dX11_closeNots_59 : decode cX11_closeNots 59 = .ok (.return_, 1) := by decide +kernel
theorem dX11_condOperand_0 : decode cX11_condOperand 0 = .ok (.aload_n 0, 1) := by decide +kernel
theorem dX11_condOperand_1 : decode cX11_condOperand 1 = .ok (.invokevirtual 468, 3) := by decide +kernel
theorem dX11_condOperand_4 : decode cX11_condOperand 4 = .ok (.ifCond .eq 19, 3) := by decide +kernel
theorem dX11_condOperand_7 : decode cX11_condOperand 7 = .ok (.aload_n 0, 1) := by decide +kernel
theorem dX11_condOperand_8 : decode cX11_condOperand 8 = .ok (.aload_n 0, 1) := by decide +kernel
theorem dX11_condOperand_9 : decode cX11_condOperand 9 = .ok (.getfield 19, 3) := by decide +kernel
theorem dX11_condOperand_12 : decode cX11_condOperand 12 = .ok (.aload_n 0, 1) := by decide +kernel
theorem dX11_condOperand_13 : decode cX11_condOperand 13 = .ok (.getfield 366, 3) := by decide +kernel
theorem dX11_condOperand_16 : decode cX11_condOperand 16 = .ok (.laload, 1) := by decide +kernel
theorem dX11_condOperand_17 : decode cX11_condOperand 17 = .ok (.invokevirtual 471, 3) := by decide +kernel
theorem dX11_condOperand_20 : decode cX11_condOperand 20 = .ok (.goto 4, 3) := by decide +kernel
theorem dX11_condOperand_23 : decode cX11_condOperand 23 = .ok (.iconst (-1), 1) := by decide +kernel
theorem dX11_condOperand_24 : decode cX11_condOperand 24 = .ok (.istore_n 2, 1) := by decide +kernel
theorem dX11_condOperand_25 : decode cX11_condOperand 25 = .ok (.aload_n 0, 1) := by decide +kernel
theorem dX11_condOperand_26 : decode cX11_condOperand 26 = .ok (.invokevirtual 468, 3) := by decide +kernel
theorem dX11_condOperand_29 : decode cX11_condOperand 29 = .ok (.ifCond .ne 20, 3) := by decide +kernel
theorem dX11_condOperand_32 : decode cX11_condOperand 32 = .ok (.aload_n 0, 1) := by decide +kernel
theorem dX11_condOperand_33 : decode cX11_condOperand 33 = .ok (.iconst 2, 1) := by decide +kernel
theorem dX11_condOperand_34 : decode cX11_condOperand 34 = .ok (.aload_n 0, 1) := by decide +kernel
theorem dX11_condOperand_35 : decode cX11_condOperand 35 = .ok (.getfield 16, 3) := by decide +kernel
theorem dX11_condOperand_38 : decode cX11_condOperand 38 = .ok (.aload_n 0, 1) := by decide +kernel
theorem dX11_condOperand_39 : decode cX11_condOperand 39 = .ok (.getfield 366, 3) := by decide +kernel
theorem dX11_condOperand_42 : decode cX11_condOperand 42 = .ok (.iaload, 1) := by decide +kernel
theorem dX11_condOperand_43 : decode cX11_condOperand 43 = .ok (.invokevirtual 369, 3) := by decide +kernel
theorem dX11_condOperand_46 : decode cX11_condOperand 46 = .ok (.goto 92, 3) := by decide +kernel
theorem dX11_condOperand_49 : decode cX11_condOperand 49 = .ok (.iload_n 2, 1) := by decide +kernel
theorem dX11_condOperand_50 : decode cX11_condOperand 50 = .ok (.iconst (-1), 1) := by decide +kernel
theorem dX11_condOperand_51 : decode cX11_condOperand 51 = .ok (.if_icmp .ne 20, 3) := by decide +kernel
theorem dX11_condOperand_54 : decode cX11_condOperand 54 = .ok (.aload_n 0, 1) := by decide +kernel
theorem dX11_condOperand_55 : decode cX11_condOperand 55 = .ok (.iconst 4, 1) := by decide +kernel
theorem dX11_condOperand_56 : decode cX11_condOperand 56 = .ok (.aload_n 0, 1) := by decide +kernel
theorem dX11_condOperand_57 : decode cX11_condOperand 57 = .ok (.getfield 16, 3) := by decide +kernel
theorem dX11_condOperand_60 : decode cX11_condOperand 60 = .ok (.aload_n 0, 1) := by decide +kernel
theorem dX11_condOperand_61 : decode cX11_condOperand 61 = .ok (.getfield 366, 3) := by decide +kernel
theorem dX11_condOperand_64 : decode cX11_condOperand 64 = .ok (.iaload, 1) := by decide +kernel
theorem dX11_condOperand_65 : decode cX11_condOperand 65 = .ok (.invokevirtual 369, 3) := by decide +kernel
theorem dX11_condOperand_68 : decode cX11_condOperand 68 = .ok (.goto 70, 3) := by decide +kernel
theorem dX11_condOperand_71 : decode cX11_condOperand 71 = .ok (.aload_n 0, 1) := by decide +kernel
theorem dX11_condOperand_72 : decode cX11_condOperand 72 = .ok (.getfield 41, 3) := by decide +kernel
theorem dX11_condOperand_75 : decode cX11_condOperand 75 = .ok (.bipush 16, 2) := by decide +kernel
theorem dX11_condOperand_77 : decode cX11_condOperand 77 = .ok (.aload_n 0, 1) := by decide +kernel
theorem dX11_condOperand_78 : decode cX11_condOperand 78 = .ok (.getfield 450, 3) := by decide +kernel
theorem dX11_condOperand_81 : decode cX11_condOperand 81 = .ok (.imul, 1) := by decide +kernel
theorem dX11_condOperand_82 : decode cX11_condOperand 82 = .ok (.iload_n 2, 1) := by decide +kernel
theorem dX11_condOperand_83 : decode cX11_condOperand 83 = .ok (.iadd, 1) := by decide +kernel
theorem dX11_condOperand_84 : decode cX11_condOperand 84 = .ok (.aload_n 0, 1) := by decide +kernel
theorem dX11_condOperand_85 : decode cX11_condOperand 85 = .ok (.getfield 41, 3) := by decide +kernel
theorem dX11_condOperand_88 : decode cX11_condOperand 88 = .ok (.bipush 16, 2) := by decide +kernel
theorem dX11_condOperand_90 : decode cX11_condOperand 90 = .ok (.aload_n 0, 1) := by decide +kernel
theorem dX11_condOperand_91 : decode cX11_condOperand 91 = .ok (.getfield 450, 3) := by decide +kernel
theorem dX11_condOperand_94 : decode cX11_condOperand 94 = .ok (.imul, 1) := by decide +kernel
theorem dX11_condOperand_95 : decode cX11_condOperand 95 = .ok (.iload_n 2, 1) := by decide +kernel
theorem dX11_condOperand_96 : decode cX11_condOperand 96 = .ok (.iadd, 1) := by decide +kernel
theorem dX11_condOperand_97 : decode cX11_condOperand 97 = .ok (.baload, 1) := by decide +kernel
theorem dX11_condOperand_98 : decode cX11_condOperand 98 = .ok (.ifCond .ne 7, 3) := by decide +kernel
theorem dX11_condOperand_101 : decode cX11_condOperand 101 = .ok (.iload_n 1, 1) := by decide +kernel
theorem dX11_condOperand_102 : decode cX11_condOperand 102 = .ok (.ifCond .eq 7, 3) := by decide +kernel
theorem dX11_condOperand_105 : decode cX11_condOperand 105 = .ok (.iconst 1, 1) := by decide +kernel
theorem dX11_condOperand_106 : decode cX11_condOperand 106 = .ok (.goto 4, 3) := by decide +kernel
theorem dX11_condOperand_109 : decode cX11_condOperand 109 = .ok (.iconst 0, 1) := by decide +kernel
theorem dX11_condOperand_110 : decode cX11_condOperand 110 = .ok (.bastore, 1) := by decide +kernel
theorem dX11_condOperand_111 : decode cX11_condOperand 111 = .ok (.aload_n 0, 1) := by decide +kernel
theorem dX11_condOperand_112 : decode cX11_condOperand 112 = .ok (.aload_n 0, 1) := by decide +kernel
theorem dX11_condOperand_113 : decode cX11_condOperand 113 = .ok (.iload_n 1, 1) := by decide +kernel
theorem dX11_condOperand_114 : decode cX11_condOperand 114 = .ok (.ifCond .eq 7, 3) := by decide +kernel
theorem dX11_condOperand_117 : decode cX11_condOperand 117 = .ok (.iconst 1, 1) := by decide +kernel
theorem dX11_condOperand_118 : decode cX11_condOperand 118 = .ok (.goto 4, 3) := by decide +kernel
theorem dX11_condOperand_121 : decode cX11_condOperand 121 = .ok (.iconst 0, 1) := by decide +kernel
theorem dX11_condOperand_122 : decode cX11_condOperand 122 = .ok (.iload_n 2, 1) := by decide +kernel
theorem dX11_condOperand_123 : decode cX11_condOperand 123 = .ok (.iconst 0, 1) := by decide +kernel
theorem dX11_condOperand_124 : decode cX11_condOperand 124 = .ok (.invokevirtual 502, 3) := by decide +kernel
theorem dX11_condOperand_127 : decode cX11_condOperand 127 = .ok (.invokevirtual 506, 3) := by decide +kernel
theorem dX11_condOperand_130 : decode cX11_condOperand 130 = .ok (.aload_n 0, 1) := by decide +kernel
theorem dX11_condOperand_131 : decode cX11_condOperand 131 = .ok (.invokevirtual 377, 3) := by decide +kernel
theorem dX11_condOperand_134 : decode cX11_condOperand 134 = .ok (.aload_n 0, 1) := by decide +kernel
theorem dX11_condOperand_135 : decode cX11_condOperand 135 = .ok (.invokevirtual 509, 3) := by decide +kernel
theorem dX11_condOperand_138 : decode cX11_condOperand 138 = .ok (.return_, 1) := by decide +kernel
theorem dX11_readCond_0 : decode cX11_readCond 0 = .ok (.aload_n 0, 1) := by decide +kernel
theorem dX11_readCond_1 : decode cX11_readCond 1 = .ok (.iconst 0, 1) := by decide +kernel
theorem dX11_readCond_2 : decode cX11_readCond 2 = .ok (.putfield 489, 3) := by decide +kernel
theorem dX11_readCond_5 : decode cX11_readCond 5 = .ok (.aload_n 0, 1) := by decide +kernel
theorem dX11_readCond_6 : decode cX11_readCond 6 = .ok (.iconst 0, 1) := by decide +kernel
theorem dX11_readCond_7 : decode cX11_readCond 7 = .ok (.putfield 495, 3) := by decide +kernel
theorem dX11_readCond_10 : decode cX11_readCond 10 = .ok (.aload_n 0, 1) := by decide +kernel
theorem dX11_readCond_11 : decode cX11_readCond 11 = .ok (.iconst 0, 1) := by decide +kernel
theorem dX11_readCond_12 : decode cX11_readCond 12 = .ok (.putfield 492, 3) := by decide +kernel
theorem dX11_readCond_15 : decode cX11_readCond 15 = .ok (.iconst 1, 1) := by decide +kernel
theorem dX11_readCond_16 : decode cX11_readCond 16 = .ok (.istore_n 1, 1) := by decide +kernel
theorem dX11_readCond_17 : decode cX11_readCond 17 = .ok (.iconst 1, 1) := by decide +kernel
theorem dX11_readCond_18 : decode cX11_readCond 18 = .ok (.istore_n 2, 1) := by decide +kernel
theorem dX11_readCond_19 : decode cX11_readCond 19 = .ok (.iload_n 2, 1) := by decide +kernel
theorem dX11_readCond_20 : decode cX11_readCond 20 = .ok (.ifCond .eq 244, 3) := by decide +kernel
theorem dX11_readCond_23 : decode cX11_readCond 23 = .ok (.aload_n 0, 1) := by decide +kernel
theorem dX11_readCond_24 : decode cX11_readCond 24 = .ok (.getfield 360, 3) := by decide +kernel
theorem dX11_readCond_27 : decode cX11_readCond 27 = .ok (.ifCond .ne 237, 3) := by decide +kernel
theorem dX11_readCond_30 : decode cX11_readCond 30 = .ok (.iload_n 1, 1) := by decide +kernel
theorem dX11_readCond_31 : decode cX11_readCond 31 = .ok (.ifCond .eq 83, 3) := by decide +kernel
theorem dX11_readCond_34 : decode cX11_readCond 34 = .ok (.aload_n 0, 1) := by decide +kernel
theorem dX11_readCond_35 : decode cX11_readCond 35 = .ok (.iconst 1, 1) := by decide +kernel
theorem dX11_readCond_36 : decode cX11_readCond 36 = .ok (.ldc2_w 442, 3) := by decide +kernel
theorem dX11_readCond_39 : decode cX11_readCond 39 = .ok (.invokevirtual 373, 3) := by decide +kernel
theorem dX11_readCond_42 : decode cX11_readCond 42 = .ok (.ifCond .eq 11, 3) := by decide +kernel
theorem dX11_readCond_45 : decode cX11_readCond 45 = .ok (.aload_n 0, 1) := by decide +kernel
theorem dX11_readCond_46 : decode cX11_readCond 46 = .ok (.iconst 2, 1) := by decide +kernel
theorem dX11_readCond_47 : decode cX11_readCond 47 = .ok (.invokevirtual 512, 3) := by decide +kernel
theorem dX11_readCond_50 : decode cX11_readCond 50 = .ok (.goto (-31), 3) := by decide +kernel
theorem dX11_readCond_53 : decode cX11_readCond 53 = .ok (.aload_n 0, 1) := by decide +kernel
theorem dX11_readCond_54 : decode cX11_readCond 54 = .ok (.iconst 3, 1) := by decide +kernel
theorem dX11_readCond_55 : decode cX11_readCond 55 = .ok (.ldc2_w 515, 3) := by decide +kernel
theorem dX11_readCond_58 : decode cX11_readCond 58 = .ok (.invokevirtual 373, 3) := by decide +kernel
theorem dX11_readCond_61 : decode cX11_readCond 61 = .ok (.ifCond .eq 11, 3) := by decide +kernel
theorem dX11_readCond_64 : decode cX11_readCond 64 = .ok (.aload_n 0, 1) := by decide +kernel
theorem dX11_readCond_65 : decode cX11_readCond 65 = .ok (.iconst 5, 1) := by decide +kernel
theorem dX11_readCond_66 : decode cX11_readCond 66 = .ok (.invokevirtual 512, 3) := by decide +kernel
theorem dX11_readCond_69 : decode cX11_readCond 69 = .ok (.goto (-50), 3) := by decide +kernel
theorem dX11_readCond_72 : decode cX11_readCond 72 = .ok (.aload_n 0, 1) := by decide +kernel
theorem dX11_readCond_73 : decode cX11_readCond 73 = .ok (.iconst 1, 1) := by decide +kernel
theorem dX11_readCond_74 : decode cX11_readCond 74 = .ok (.ldc2_w 444, 3) := by decide +kernel
theorem dX11_readCond_77 : decode cX11_readCond 77 = .ok (.invokevirtual 373, 3) := by decide +kernel
theorem dX11_readCond_80 : decode cX11_readCond 80 = .ok (.ifCond .eq 24, 3) := by decide +kernel
theorem dX11_readCond_83 : decode cX11_readCond 83 = .ok (.aload_n 0, 1) := by decide +kernel
theorem dX11_readCond_84 : decode cX11_readCond 84 = .ok (.invokevirtual 377, 3) := by decide +kernel
theorem dX11_readCond_87 : decode cX11_readCond 87 = .ok (.aload_n 0, 1) := by decide +kernel
theorem dX11_readCond_88 : decode cX11_readCond 88 = .ok (.getfield 360, 3) := by decide +kernel
theorem dX11_readCond_91 : decode cX11_readCond 91 = .ok (.ifCond .ne 8, 3) := by decide +kernel
theorem dX11_readCond_94 : decode cX11_readCond 94 = .ok (.aload_n 0, 1) := by decide +kernel
theorem dX11_readCond_95 : decode cX11_readCond 95 = .ok (.iconst 1, 1) := by decide +kernel
theorem dX11_readCond_96 : decode cX11_readCond 96 = .ok (.invokevirtual 517, 3) := by decide +kernel
theorem dX11_readCond_99 : decode cX11_readCond 99 = .ok (.iconst 0, 1) := by decide +kernel
theorem dX11_readCond_100 : decode cX11_readCond 100 = .ok (.istore_n 1, 1) := by decide +kernel
theorem dX11_readCond_101 : decode cX11_readCond 101 = .ok (.goto (-82), 3) := by decide +kernel
theorem dX11_readCond_104 : decode cX11_readCond 104 = .ok (.aload_n 0, 1) := by decide +kernel
theorem dX11_readCond_105 : decode cX11_readCond 105 = .ok (.iconst 0, 1) := by decide +kernel
theorem dX11_readCond_106 : decode cX11_readCond 106 = .ok (.invokevirtual 517, 3) := by decide +kernel
theorem dX11_readCond_109 : decode cX11_readCond 109 = .ok (.iconst 0, 1) := by decide +kernel
theorem dX11_readCond_110 : decode cX11_readCond 110 = .ok (.istore_n 1, 1) := by decide +kernel
theorem dX11_readCond_111 : decode cX11_readCond 111 = .ok (.goto (-92), 3) := by decide +kernel
theorem dX11_readCond_114 : decode cX11_readCond 114 = .ok (.aload_n 0, 1) := by decide +kernel
theorem dX11_readCond_115 : decode cX11_readCond 115 = .ok (.iconst 1, 1) := by decide +kernel
theorem dX11_readCond_116 : decode cX11_readCond 116 = .ok (.ldc2_w 438, 3) := by decide +kernel
theorem dX11_readCond_119 : decode cX11_readCond 119 = .ok (.invokevirtual 373, 3) := by decide +kernel
theorem dX11_readCond_122 : decode cX11_readCond 122 = .ok (.ifCond .ne 14, 3) := by decide +kernel
theorem dX11_readCond_125 : decode cX11_readCond 125 = .ok (.aload_n 0, 1) := by decide +kernel
theorem dX11_readCond_126 : decode cX11_readCond 126 = .ok (.iconst 1, 1) := by decide +kernel
theorem dX11_readCond_127 : decode cX11_readCond 127 = .ok (.ldc2_w 440, 3) := by decide +kernel
theorem dX11_readCond_130 : decode cX11_readCond 130 = .ok (.invokevirtual 373, 3) := by decide +kernel
theorem dX11_readCond_133 : decode cX11_readCond 133 = .ok (.ifCond .eq 62, 3) := by decide +kernel
theorem dX11_readCond_136 : decode cX11_readCond 136 = .ok (.aload_n 0, 1) := by decide +kernel
theorem dX11_readCond_137 : decode cX11_readCond 137 = .ok (.iconst 1, 1) := by decide +kernel
theorem dX11_readCond_138 : decode cX11_readCond 138 = .ok (.ldc2_w 438, 3) := by decide +kernel
theorem dX11_readCond_141 : decode cX11_readCond 141 = .ok (.invokevirtual 373, 3) := by decide +kernel
theorem dX11_readCond_144 : decode cX11_readCond 144 = .ok (.istore_n 3, 1) := by decide +kernel
theorem dX11_readCond_145 : decode cX11_readCond 145 = .ok (.aload_n 0, 1) := by decide +kernel
theorem dX11_readCond_146 : decode cX11_readCond 146 = .ok (.iload_n 3, 1) := by decide +kernel
theorem dX11_readCond_147 : decode cX11_readCond 147 = .ok (.ifCond .eq 7, 3) := by decide +kernel
theorem dX11_readCond_150 : decode cX11_readCond 150 = .ok (.iconst 3, 1) := by decide +kernel
theorem dX11_readCond_151 : decode cX11_readCond 151 = .ok (.goto 4, 3) := by decide +kernel
theorem dX11_readCond_154 : decode cX11_readCond 154 = .ok (.iconst 4, 1) := by decide +kernel
theorem dX11_readCond_155 : decode cX11_readCond 155 = .ok (.invokevirtual 521, 3) := by decide +kernel
theorem dX11_readCond_158 : decode cX11_readCond 158 = .ok (.aload_n 0, 1) := by decide +kernel
theorem dX11_readCond_159 : decode cX11_readCond 159 = .ok (.getfield 78, 3) := by decide +kernel
theorem dX11_readCond_162 : decode cX11_readCond 162 = .ok (.aload_n 0, 1) := by decide +kernel
theorem dX11_readCond_163 : decode cX11_readCond 163 = .ok (.getfield 489, 3) := by decide +kernel
theorem dX11_readCond_166 : decode cX11_readCond 166 = .ok (.iload_n 3, 1) := by decide +kernel
theorem dX11_readCond_167 : decode cX11_readCond 167 = .ok (.ifCond .eq 7, 3) := by decide +kernel
theorem dX11_readCond_170 : decode cX11_readCond 170 = .ok (.iconst 3, 1) := by decide +kernel
theorem dX11_readCond_171 : decode cX11_readCond 171 = .ok (.goto 4, 3) := by decide +kernel
theorem dX11_readCond_174 : decode cX11_readCond 174 = .ok (.iconst 4, 1) := by decide +kernel
theorem dX11_readCond_175 : decode cX11_readCond 175 = .ok (.iastore, 1) := by decide +kernel
theorem dX11_readCond_176 : decode cX11_readCond 176 = .ok (.aload_n 0, 1) := by decide +kernel
theorem dX11_readCond_177 : decode cX11_readCond 177 = .ok (.dup, 1) := by decide +kernel
theorem dX11_readCond_178 : decode cX11_readCond 178 = .ok (.getfield 489, 3) := by decide +kernel
theorem dX11_readCond_181 : decode cX11_readCond 181 = .ok (.iconst 1, 1) := by decide +kernel
theorem dX11_readCond_182 : decode cX11_readCond 182 = .ok (.iadd, 1) := by decide +kernel
theorem dX11_readCond_183 : decode cX11_readCond 183 = .ok (.putfield 489, 3) := by decide +kernel
theorem dX11_readCond_186 : decode cX11_readCond 186 = .ok (.aload_n 0, 1) := by decide +kernel
theorem dX11_readCond_187 : decode cX11_readCond 187 = .ok (.invokevirtual 377, 3) := by decide +kernel
theorem dX11_readCond_190 : decode cX11_readCond 190 = .ok (.iconst 1, 1) := by decide +kernel
theorem dX11_readCond_191 : decode cX11_readCond 191 = .ok (.istore_n 1, 1) := by decide +kernel
theorem dX11_readCond_192 : decode cX11_readCond 192 = .ok (.goto (-173), 3) := by decide +kernel
theorem dX11_readCond_195 : decode cX11_readCond 195 = .ok (.aload_n 0, 1) := by decide +kernel
theorem dX11_readCond_196 : decode cX11_readCond 196 = .ok (.getfield 492, 3) := by decide +kernel
theorem dX11_readCond_199 : decode cX11_readCond 199 = .ok (.ifCond .le 60, 3) := by decide +kernel
theorem dX11_readCond_202 : decode cX11_readCond 202 = .ok (.aload_n 0, 1) := by decide +kernel
theorem dX11_readCond_203 : decode cX11_readCond 203 = .ok (.iconst 3, 1) := by decide +kernel
theorem dX11_readCond_204 : decode cX11_readCond 204 = .ok (.ldc2_w 524, 3) := by decide +kernel
theorem dX11_readCond_207 : decode cX11_readCond 207 = .ok (.invokevirtual 373, 3) := by decide +kernel
theorem dX11_readCond_210 : decode cX11_readCond 210 = .ok (.ifCond .eq 49, 3) := by decide +kernel
theorem dX11_readCond_213 : decode cX11_readCond 213 = .ok (.aload_n 0, 1) := by decide +kernel
theorem dX11_readCond_214 : decode cX11_readCond 214 = .ok (.iconst 4, 1) := by decide +kernel
theorem dX11_readCond_215 : decode cX11_readCond 215 = .ok (.invokevirtual 521, 3) := by decide +kernel
theorem dX11_readCond_218 : decode cX11_readCond 218 = .ok (.aload_n 0, 1) := by decide +kernel
theorem dX11_readCond_219 : decode cX11_readCond 219 = .ok (.dup, 1) := by decide +kernel
theorem dX11_readCond_220 : decode cX11_readCond 220 = .ok (.getfield 489, 3) := by decide +kernel
theorem dX11_readCond_223 : decode cX11_readCond 223 = .ok (.iconst 1, 1) := by decide +kernel
theorem dX11_readCond_224 : decode cX11_readCond 224 = .ok (.isub, 1) := by decide +kernel
theorem dX11_readCond_225 : decode cX11_readCond 225 = .ok (.putfield 489, 3) := by decide +kernel
theorem dX11_readCond_228 : decode cX11_readCond 228 = .ok (.aload_n 0, 1) := by decide +kernel
theorem dX11_readCond_229 : decode cX11_readCond 229 = .ok (.dup, 1) := by decide +kernel
theorem dX11_readCond_230 : decode cX11_readCond 230 = .ok (.getfield 492, 3) := by decide +kernel
theorem dX11_readCond_233 : decode cX11_readCond 233 = .ok (.iconst 1, 1) := by decide +kernel
theorem dX11_readCond_234 : decode cX11_readCond 234 = .ok (.isub, 1) := by decide +kernel
theorem dX11_readCond_235 : decode cX11_readCond 235 = .ok (.putfield 492, 3) := by decide +kernel
theorem dX11_readCond_238 : decode cX11_readCond 238 = .ok (.aload_n 0, 1) := by decide +kernel
theorem dX11_readCond_239 : decode cX11_readCond 239 = .ok (.dup, 1) := by decide +kernel
theorem dX11_readCond_240 : decode cX11_readCond 240 = .ok (.getfield 486, 3) := by decide +kernel
theorem dX11_readCond_243 : decode cX11_readCond 243 = .ok (.iconst 1, 1) := by decide +kernel
theorem dX11_readCond_244 : decode cX11_readCond 244 = .ok (.isub, 1) := by decide +kernel
theorem dX11_readCond_245 : decode cX11_readCond 245 = .ok (.putfield 486, 3) := by decide +kernel
theorem dX11_readCond_248 : decode cX11_readCond 248 = .ok (.aload_n 0, 1) := by decide +kernel
theorem dX11_readCond_249 : decode cX11_readCond 249 = .ok (.invokevirtual 377, 3) := by decide +kernel
theorem dX11_readCond_252 : decode cX11_readCond 252 = .ok (.aload_n 0, 1) := by decide +kernel
theorem dX11_readCond_253 : decode cX11_readCond 253 = .ok (.invokevirtual 509, 3) := by decide +kernel
theorem dX11_readCond_256 : decode cX11_readCond 256 = .ok (.goto (-237), 3) := by decide +kernel
theorem dX11_readCond_259 : decode cX11_readCond 259 = .ok (.iconst 0, 1) := by decide +kernel
theorem dX11_readCond_260 : decode cX11_readCond 260 = .ok (.istore_n 2, 1) := by decide +kernel
theorem dX11_readCond_261 : decode cX11_readCond 261 = .ok (.goto (-242), 3) := by decide +kernel
theorem dX11_readCond_264 : decode cX11_readCond 264 = .ok (.aload_n 0, 1) := by decide +kernel
theorem dX11_readCond_265 : decode cX11_readCond 265 = .ok (.getfield 360, 3) := by decide +kernel
theorem dX11_readCond_268 : decode cX11_readCond 268 = .ok (.ifCond .ne 24, 3) := by decide +kernel
theorem dX11_readCond_271 : decode cX11_readCond 271 = .ok (.aload_n 0, 1) := by decide +kernel
theorem dX11_readCond_272 : decode cX11_readCond 272 = .ok (.getfield 492, 3) := by decide +kernel
theorem dX11_readCond_275 : decode cX11_readCond 275 = .ok (.ifCond .le 17, 3) := by decide +kernel
theorem dX11_readCond_278 : decode cX11_readCond 278 = .ok (.aload_n 0, 1) := by decide +kernel
theorem dX11_readCond_279 : decode cX11_readCond 279 = .ok (.iconst 2, 1) := by decide +kernel
theorem dX11_readCond_280 : decode cX11_readCond 280 = .ok (.aload_n 0, 1) := by decide +kernel
theorem dX11_readCond_281 : decode cX11_readCond 281 = .ok (.getfield 16, 3) := by decide +kernel
theorem dX11_readCond_284 : decode cX11_readCond 284 = .ok (.aload_n 0, 1) := by decide +kernel
theorem dX11_readCond_285 : decode cX11_readCond 285 = .ok (.getfield 366, 3) := by decide +kernel
theorem dX11_readCond_288 : decode cX11_readCond 288 = .ok (.iaload, 1) := by decide +kernel
theorem dX11_readCond_289 : decode cX11_readCond 289 = .ok (.invokevirtual 369, 3) := by decide +kernel
theorem dX11_readCond_292 : decode cX11_readCond 292 = .ok (.aload_n 0, 1) := by decide +kernel
theorem dX11_readCond_293 : decode cX11_readCond 293 = .ok (.getfield 360, 3) := by decide +kernel
theorem dX11_readCond_296 : decode cX11_readCond 296 = .ok (.ifCond .le 5, 3) := by decide +kernel
theorem dX11_readCond_299 : decode cX11_readCond 299 = .ok (.iconst 0, 1) := by decide +kernel
theorem dX11_readCond_300 : decode cX11_readCond 300 = .ok (.ireturn, 1) := by decide +kernel
theorem dX11_readCond_301 : decode cX11_readCond 301 = .ok (.aload_n 0, 1) := by decide +kernel
theorem dX11_readCond_302 : decode cX11_readCond 302 = .ok (.iconst 4, 1) := by decide +kernel
theorem dX11_readCond_303 : decode cX11_readCond 303 = .ok (.invokevirtual 521, 3) := by decide +kernel
theorem dX11_readCond_306 : decode cX11_readCond 306 = .ok (.aload_n 0, 1) := by decide +kernel
theorem dX11_readCond_307 : decode cX11_readCond 307 = .ok (.getfield 81, 3) := by decide +kernel
theorem dX11_readCond_310 : decode cX11_readCond 310 = .ok (.iconst 0, 1) := by decide +kernel
theorem dX11_readCond_311 : decode cX11_readCond 311 = .ok (.iaload, 1) := by decide +kernel
theorem dX11_readCond_312 : decode cX11_readCond 312 = .ok (.ireturn, 1) := by decide +kernel
theorem dX11_joinSums_0 : decode cX11_joinSums 0 = .ok (.aload_n 0, 1) := by decide +kernel
theorem dX11_joinSums_1 : decode cX11_joinSums 1 = .ok (.getfield 489, 3) := by decide +kernel
theorem dX11_joinSums_4 : decode cX11_joinSums 4 = .ok (.ifCond .le 78, 3) := by decide +kernel
theorem dX11_joinSums_7 : decode cX11_joinSums 7 = .ok (.aload_n 0, 1) := by decide +kernel
theorem dX11_joinSums_8 : decode cX11_joinSums 8 = .ok (.getfield 78, 3) := by decide +kernel
theorem dX11_joinSums_11 : decode cX11_joinSums 11 = .ok (.aload_n 0, 1) := by decide +kernel
theorem dX11_joinSums_12 : decode cX11_joinSums 12 = .ok (.getfield 489, 3) := by decide +kernel
theorem dX11_joinSums_15 : decode cX11_joinSums 15 = .ok (.iconst 1, 1) := by decide +kernel
theorem dX11_joinSums_16 : decode cX11_joinSums 16 = .ok (.isub, 1) := by decide +kernel
theorem dX11_joinSums_17 : decode cX11_joinSums 17 = .ok (.iaload, 1) := by decide +kernel
theorem dX11_joinSums_18 : decode cX11_joinSums 18 = .ok (.iconst 4, 1) := by decide +kernel
theorem dX11_joinSums_19 : decode cX11_joinSums 19 = .ok (.if_icmp .lt 63, 3) := by decide +kernel
theorem dX11_joinSums_22 : decode cX11_joinSums 22 = .ok (.aload_n 0, 1) := by decide +kernel
theorem dX11_joinSums_23 : decode cX11_joinSums 23 = .ok (.getfield 78, 3) := by decide +kernel
theorem dX11_joinSums_26 : decode cX11_joinSums 26 = .ok (.aload_n 0, 1) := by decide +kernel
theorem dX11_joinSums_27 : decode cX11_joinSums 27 = .ok (.getfield 489, 3) := by decide +kernel
theorem dX11_joinSums_30 : decode cX11_joinSums 30 = .ok (.iconst 1, 1) := by decide +kernel
theorem dX11_joinSums_31 : decode cX11_joinSums 31 = .ok (.isub, 1) := by decide +kernel
theorem dX11_joinSums_32 : decode cX11_joinSums 32 = .ok (.iaload, 1) := by decide +kernel
theorem dX11_joinSums_33 : decode cX11_joinSums 33 = .ok (.iload_n 1, 1) := by decide +kernel
theorem dX11_joinSums_34 : decode cX11_joinSums 34 = .ok (.if_icmp .gt 48, 3) := by decide +kernel
theorem dX11_joinSums_37 : decode cX11_joinSums 37 = .ok (.aload_n 0, 1) := by decide +kernel
theorem dX11_joinSums_38 : decode cX11_joinSums 38 = .ok (.invokevirtual 498, 3) := by decide +kernel
theorem dX11_joinSums_41 : decode cX11_joinSums 41 = .ok (.istore_n 2, 1) := by decide +kernel
theorem dX11_joinSums_42 : decode cX11_joinSums 42 = .ok (.aload_n 0, 1) := by decide +kernel
theorem dX11_joinSums_43 : decode cX11_joinSums 43 = .ok (.invokevirtual 498, 3) := by decide +kernel
theorem dX11_joinSums_46 : decode cX11_joinSums 46 = .ok (.istore_n 3, 1) := by decide +kernel
theorem dX11_joinSums_47 : decode cX11_joinSums 47 = .ok (.aload_n 0, 1) := by decide +kernel
theorem dX11_joinSums_48 : decode cX11_joinSums 48 = .ok (.aload_n 0, 1) := by decide +kernel
theorem dX11_joinSums_49 : decode cX11_joinSums 49 = .ok (.aload_n 0, 1) := by decide +kernel
theorem dX11_joinSums_50 : decode cX11_joinSums 50 = .ok (.getfield 78, 3) := by decide +kernel
theorem dX11_joinSums_53 : decode cX11_joinSums 53 = .ok (.aload_n 0, 1) := by decide +kernel
theorem dX11_joinSums_54 : decode cX11_joinSums 54 = .ok (.getfield 489, 3) := by decide +kernel
theorem dX11_joinSums_57 : decode cX11_joinSums 57 = .ok (.iconst 1, 1) := by decide +kernel
theorem dX11_joinSums_58 : decode cX11_joinSums 58 = .ok (.isub, 1) := by decide +kernel
theorem dX11_joinSums_59 : decode cX11_joinSums 59 = .ok (.iaload, 1) := by decide +kernel
theorem dX11_joinSums_60 : decode cX11_joinSums 60 = .ok (.iload_n 3, 1) := by decide +kernel
theorem dX11_joinSums_61 : decode cX11_joinSums 61 = .ok (.i2l, 1) := by decide +kernel
theorem dX11_joinSums_62 : decode cX11_joinSums 62 = .ok (.iload_n 2, 1) := by decide +kernel
theorem dX11_joinSums_63 : decode cX11_joinSums 63 = .ok (.invokevirtual 526, 3) := by decide +kernel
theorem dX11_joinSums_66 : decode cX11_joinSums 66 = .ok (.invokevirtual 506, 3) := by decide +kernel
theorem dX11_joinSums_69 : decode cX11_joinSums 69 = .ok (.aload_n 0, 1) := by decide +kernel
theorem dX11_joinSums_70 : decode cX11_joinSums 70 = .ok (.dup, 1) := by decide +kernel
theorem dX11_joinSums_71 : decode cX11_joinSums 71 = .ok (.getfield 489, 3) := by decide +kernel
theorem dX11_joinSums_74 : decode cX11_joinSums 74 = .ok (.iconst 1, 1) := by decide +kernel
theorem dX11_joinSums_75 : decode cX11_joinSums 75 = .ok (.isub, 1) := by decide +kernel
theorem dX11_joinSums_76 : decode cX11_joinSums 76 = .ok (.putfield 489, 3) := by decide +kernel
theorem dX11_joinSums_79 : decode cX11_joinSums 79 = .ok (.goto (-79), 3) := by decide +kernel
theorem dX11_joinSums_82 : decode cX11_joinSums 82 = .ok (.return_, 1) := by decide +kernel
theorem dX11_sumOperand_0 : decode cX11_sumOperand 0 = .ok (.aload_n 0, 1) := by decide +kernel
theorem dX11_sumOperand_1 : decode cX11_sumOperand 1 = .ok (.aload_n 0, 1) := by decide +kernel
theorem dX11_sumOperand_2 : decode cX11_sumOperand 2 = .ok (.iload_n 1, 1) := by decide +kernel
theorem dX11_sumOperand_3 : decode cX11_sumOperand 3 = .ok (.lload_n 2, 1) := by decide +kernel
theorem dX11_sumOperand_4 : decode cX11_sumOperand 4 = .ok (.iconst 0, 1) := by decide +kernel
theorem dX11_sumOperand_5 : decode cX11_sumOperand 5 = .ok (.invokevirtual 526, 3) := by decide +kernel
theorem dX11_sumOperand_8 : decode cX11_sumOperand 8 = .ok (.invokevirtual 506, 3) := by decide +kernel
theorem dX11_sumOperand_11 : decode cX11_sumOperand 11 = .ok (.aload_n 0, 1) := by decide +kernel
theorem dX11_sumOperand_12 : decode cX11_sumOperand 12 = .ok (.invokevirtual 377, 3) := by decide +kernel
theorem dX11_sumOperand_15 : decode cX11_sumOperand 15 = .ok (.aload_n 0, 1) := by decide +kernel
theorem dX11_sumOperand_16 : decode cX11_sumOperand 16 = .ok (.getfield 489, 3) := by decide +kernel
theorem dX11_sumOperand_19 : decode cX11_sumOperand 19 = .ok (.ifCond .le 56, 3) := by decide +kernel
theorem dX11_sumOperand_22 : decode cX11_sumOperand 22 = .ok (.aload_n 0, 1) := by decide +kernel
theorem dX11_sumOperand_23 : decode cX11_sumOperand 23 = .ok (.getfield 78, 3) := by decide +kernel
theorem dX11_sumOperand_26 : decode cX11_sumOperand 26 = .ok (.aload_n 0, 1) := by decide +kernel
theorem dX11_sumOperand_27 : decode cX11_sumOperand 27 = .ok (.getfield 489, 3) := by decide +kernel
theorem dX11_sumOperand_30 : decode cX11_sumOperand 30 = .ok (.iconst 1, 1) := by decide +kernel
theorem dX11_sumOperand_31 : decode cX11_sumOperand 31 = .ok (.isub, 1) := by decide +kernel
theorem dX11_sumOperand_32 : decode cX11_sumOperand 32 = .ok (.iaload, 1) := by decide +kernel
theorem dX11_sumOperand_33 : decode cX11_sumOperand 33 = .ok (.iconst 3, 1) := by decide +kernel
theorem dX11_sumOperand_34 : decode cX11_sumOperand 34 = .ok (.if_icmp .ne 41, 3) := by decide +kernel
theorem dX11_sumOperand_37 : decode cX11_sumOperand 37 = .ok (.aload_n 0, 1) := by decide +kernel
theorem dX11_sumOperand_38 : decode cX11_sumOperand 38 = .ok (.aload_n 0, 1) := by decide +kernel
theorem dX11_sumOperand_39 : decode cX11_sumOperand 39 = .ok (.iconst 3, 1) := by decide +kernel
theorem dX11_sumOperand_40 : decode cX11_sumOperand 40 = .ok (.aload_n 0, 1) := by decide +kernel
theorem dX11_sumOperand_41 : decode cX11_sumOperand 41 = .ok (.invokevirtual 498, 3) := by decide +kernel
theorem dX11_sumOperand_44 : decode cX11_sumOperand 44 = .ok (.i2l, 1) := by decide +kernel
theorem dX11_sumOperand_45 : decode cX11_sumOperand 45 = .ok (.iconst 0, 1) := by decide +kernel
theorem dX11_sumOperand_46 : decode cX11_sumOperand 46 = .ok (.invokevirtual 526, 3) := by decide +kernel
theorem dX11_sumOperand_49 : decode cX11_sumOperand 49 = .ok (.invokevirtual 506, 3) := by decide +kernel
theorem dX11_sumOperand_52 : decode cX11_sumOperand 52 = .ok (.aload_n 0, 1) := by decide +kernel
theorem dX11_sumOperand_53 : decode cX11_sumOperand 53 = .ok (.dup, 1) := by decide +kernel
theorem dX11_sumOperand_54 : decode cX11_sumOperand 54 = .ok (.getfield 489, 3) := by decide +kernel
theorem dX11_sumOperand_57 : decode cX11_sumOperand 57 = .ok (.iconst 1, 1) := by decide +kernel
theorem dX11_sumOperand_58 : decode cX11_sumOperand 58 = .ok (.isub, 1) := by decide +kernel
theorem dX11_sumOperand_59 : decode cX11_sumOperand 59 = .ok (.putfield 489, 3) := by decide +kernel
theorem dX11_sumOperand_62 : decode cX11_sumOperand 62 = .ok (.aload_n 0, 1) := by decide +kernel
theorem dX11_sumOperand_63 : decode cX11_sumOperand 63 = .ok (.dup, 1) := by decide +kernel
theorem dX11_sumOperand_64 : decode cX11_sumOperand 64 = .ok (.getfield 486, 3) := by decide +kernel
theorem dX11_sumOperand_67 : decode cX11_sumOperand 67 = .ok (.iconst 1, 1) := by decide +kernel
theorem dX11_sumOperand_68 : decode cX11_sumOperand 68 = .ok (.isub, 1) := by decide +kernel
theorem dX11_sumOperand_69 : decode cX11_sumOperand 69 = .ok (.putfield 486, 3) := by decide +kernel
theorem dX11_sumOperand_72 : decode cX11_sumOperand 72 = .ok (.goto (-57), 3) := by decide +kernel
theorem dX11_sumOperand_75 : decode cX11_sumOperand 75 = .ok (.return_, 1) := by decide +kernel
theorem dX11_readOperand_0 : decode cX11_readOperand 0 = .ok (.aload_n 0, 1) := by decide +kernel
theorem dX11_readOperand_1 : decode cX11_readOperand 1 = .ok (.getfield 13, 3) := by decide +kernel
theorem dX11_readOperand_4 : decode cX11_readOperand 4 = .ok (.aload_n 0, 1) := by decide +kernel
theorem dX11_readOperand_5 : decode cX11_readOperand 5 = .ok (.getfield 366, 3) := by decide +kernel
theorem dX11_readOperand_8 : decode cX11_readOperand 8 = .ok (.iaload, 1) := by decide +kernel
theorem dX11_readOperand_9 : decode cX11_readOperand 9 = .ok (.iconst 2, 1) := by decide +kernel
theorem dX11_readOperand_10 : decode cX11_readOperand 10 = .ok (.if_icmp .ne 20, 3) := by decide +kernel
theorem dX11_readOperand_13 : decode cX11_readOperand 13 = .ok (.aload_n 0, 1) := by decide +kernel
theorem dX11_readOperand_14 : decode cX11_readOperand 14 = .ok (.iconst 0, 1) := by decide +kernel
theorem dX11_readOperand_15 : decode cX11_readOperand 15 = .ok (.aload_n 0, 1) := by decide +kernel
theorem dX11_readOperand_16 : decode cX11_readOperand 16 = .ok (.getfield 19, 3) := by decide +kernel
theorem dX11_readOperand_19 : decode cX11_readOperand 19 = .ok (.aload_n 0, 1) := by decide +kernel
theorem dX11_readOperand_20 : decode cX11_readOperand 20 = .ok (.getfield 366, 3) := by decide +kernel
theorem dX11_readOperand_23 : decode cX11_readOperand 23 = .ok (.laload, 1) := by decide +kernel
theorem dX11_readOperand_24 : decode cX11_readOperand 24 = .ok (.invokevirtual 530, 3) := by decide +kernel
theorem dX11_readOperand_27 : decode cX11_readOperand 27 = .ok (.goto 200, 3) := by decide +kernel
theorem dX11_readOperand_30 : decode cX11_readOperand 30 = .ok (.aload_n 0, 1) := by decide +kernel
theorem dX11_readOperand_31 : decode cX11_readOperand 31 = .ok (.iconst 3, 1) := by decide +kernel
theorem dX11_readOperand_32 : decode cX11_readOperand 32 = .ok (.ldc2_w 533, 3) := by decide +kernel
theorem dX11_readOperand_35 : decode cX11_readOperand 35 = .ok (.invokevirtual 373, 3) := by decide +kernel
theorem dX11_readOperand_38 : decode cX11_readOperand 38 = .ok (.ifCond .eq 112, 3) := by decide +kernel
theorem dX11_readOperand_41 : decode cX11_readOperand 41 = .ok (.aload_n 0, 1) := by decide +kernel
theorem dX11_readOperand_42 : decode cX11_readOperand 42 = .ok (.invokevirtual 377, 3) := by decide +kernel
theorem dX11_readOperand_45 : decode cX11_readOperand 45 = .ok (.aload_n 0, 1) := by decide +kernel
theorem dX11_readOperand_46 : decode cX11_readOperand 46 = .ok (.getfield 360, 3) := by decide +kernel
theorem dX11_readOperand_49 : decode cX11_readOperand 49 = .ok (.ifCond .ne 178, 3) := by decide +kernel
theorem dX11_readOperand_52 : decode cX11_readOperand 52 = .ok (.aload_n 0, 1) := by decide +kernel
theorem dX11_readOperand_53 : decode cX11_readOperand 53 = .ok (.invokevirtual 468, 3) := by decide +kernel
theorem dX11_readOperand_56 : decode cX11_readOperand 56 = .ok (.ifCond .eq 19, 3) := by decide +kernel
theorem dX11_readOperand_59 : decode cX11_readOperand 59 = .ok (.aload_n 0, 1) := by decide +kernel
theorem dX11_readOperand_60 : decode cX11_readOperand 60 = .ok (.aload_n 0, 1) := by decide +kernel
theorem dX11_readOperand_61 : decode cX11_readOperand 61 = .ok (.getfield 19, 3) := by decide +kernel
theorem dX11_readOperand_64 : decode cX11_readOperand 64 = .ok (.aload_n 0, 1) := by decide +kernel
theorem dX11_readOperand_65 : decode cX11_readOperand 65 = .ok (.getfield 366, 3) := by decide +kernel
theorem dX11_readOperand_68 : decode cX11_readOperand 68 = .ok (.laload, 1) := by decide +kernel
theorem dX11_readOperand_69 : decode cX11_readOperand 69 = .ok (.invokevirtual 471, 3) := by decide +kernel
theorem dX11_readOperand_72 : decode cX11_readOperand 72 = .ok (.goto 4, 3) := by decide +kernel
theorem dX11_readOperand_75 : decode cX11_readOperand 75 = .ok (.iconst (-1), 1) := by decide +kernel
theorem dX11_readOperand_76 : decode cX11_readOperand 76 = .ok (.istore_n 1, 1) := by decide +kernel
theorem dX11_readOperand_77 : decode cX11_readOperand 77 = .ok (.aload_n 0, 1) := by decide +kernel
theorem dX11_readOperand_78 : decode cX11_readOperand 78 = .ok (.invokevirtual 468, 3) := by decide +kernel
theorem dX11_readOperand_81 : decode cX11_readOperand 81 = .ok (.ifCond .ne 20, 3) := by decide +kernel
theorem dX11_readOperand_84 : decode cX11_readOperand 84 = .ok (.aload_n 0, 1) := by decide +kernel
theorem dX11_readOperand_85 : decode cX11_readOperand 85 = .ok (.iconst 2, 1) := by decide +kernel
theorem dX11_readOperand_86 : decode cX11_readOperand 86 = .ok (.aload_n 0, 1) := by decide +kernel
theorem dX11_readOperand_87 : decode cX11_readOperand 87 = .ok (.getfield 16, 3) := by decide +kernel
theorem dX11_readOperand_90 : decode cX11_readOperand 90 = .ok (.aload_n 0, 1) := by decide +kernel
theorem dX11_readOperand_91 : decode cX11_readOperand 91 = .ok (.getfield 366, 3) := by decide +kernel
theorem dX11_readOperand_94 : decode cX11_readOperand 94 = .ok (.iaload, 1) := by decide +kernel
theorem dX11_readOperand_95 : decode cX11_readOperand 95 = .ok (.invokevirtual 369, 3) := by decide +kernel
theorem dX11_readOperand_98 : decode cX11_readOperand 98 = .ok (.goto 49, 3) := by decide +kernel
theorem dX11_readOperand_101 : decode cX11_readOperand 101 = .ok (.iload_n 1, 1) := by decide +kernel
theorem dX11_readOperand_102 : decode cX11_readOperand 102 = .ok (.iconst (-1), 1) := by decide +kernel
theorem dX11_readOperand_103 : decode cX11_readOperand 103 = .ok (.if_icmp .eq 20, 3) := by decide +kernel
theorem dX11_readOperand_106 : decode cX11_readOperand 106 = .ok (.aload_n 0, 1) := by decide +kernel
theorem dX11_readOperand_107 : decode cX11_readOperand 107 = .ok (.getfield 38, 3) := by decide +kernel
theorem dX11_readOperand_110 : decode cX11_readOperand 110 = .ok (.bipush 16, 2) := by decide +kernel
theorem dX11_readOperand_112 : decode cX11_readOperand 112 = .ok (.aload_n 0, 1) := by decide +kernel
theorem dX11_readOperand_113 : decode cX11_readOperand 113 = .ok (.getfield 450, 3) := by decide +kernel
theorem dX11_readOperand_116 : decode cX11_readOperand 116 = .ok (.imul, 1) := by decide +kernel
theorem dX11_readOperand_117 : decode cX11_readOperand 117 = .ok (.iload_n 1, 1) := by decide +kernel
theorem dX11_readOperand_118 : decode cX11_readOperand 118 = .ok (.iadd, 1) := by decide +kernel
theorem dX11_readOperand_119 : decode cX11_readOperand 119 = .ok (.iaload, 1) := by decide +kernel
theorem dX11_readOperand_120 : decode cX11_readOperand 120 = .ok (.ifCond .ne 20, 3) := by decide +kernel
theorem dX11_readOperand_123 : decode cX11_readOperand 123 = .ok (.aload_n 0, 1) := by decide +kernel
theorem dX11_readOperand_124 : decode cX11_readOperand 124 = .ok (.iconst 4, 1) := by decide +kernel
theorem dX11_readOperand_125 : decode cX11_readOperand 125 = .ok (.aload_n 0, 1) := by decide +kernel
theorem dX11_readOperand_126 : decode cX11_readOperand 126 = .ok (.getfield 16, 3) := by decide +kernel
theorem dX11_readOperand_129 : decode cX11_readOperand 129 = .ok (.aload_n 0, 1) := by decide +kernel
theorem dX11_readOperand_130 : decode cX11_readOperand 130 = .ok (.getfield 366, 3) := by decide +kernel
theorem dX11_readOperand_133 : decode cX11_readOperand 133 = .ok (.iaload, 1) := by decide +kernel
theorem dX11_readOperand_134 : decode cX11_readOperand 134 = .ok (.invokevirtual 369, 3) := by decide +kernel
theorem dX11_readOperand_137 : decode cX11_readOperand 137 = .ok (.goto 10, 3) := by decide +kernel
theorem dX11_readOperand_140 : decode cX11_readOperand 140 = .ok (.aload_n 0, 1) := by decide +kernel
theorem dX11_readOperand_141 : decode cX11_readOperand 141 = .ok (.iconst 2, 1) := by decide +kernel
theorem dX11_readOperand_142 : decode cX11_readOperand 142 = .ok (.iload_n 1, 1) := by decide +kernel
theorem dX11_readOperand_143 : decode cX11_readOperand 143 = .ok (.i2l, 1) := by decide +kernel
theorem dX11_readOperand_144 : decode cX11_readOperand 144 = .ok (.invokevirtual 530, 3) := by decide +kernel
theorem dX11_readOperand_147 : decode cX11_readOperand 147 = .ok (.goto 80, 3) := by decide +kernel
theorem dX11_readOperand_150 : decode cX11_readOperand 150 = .ok (.aload_n 0, 1) := by decide +kernel
theorem dX11_readOperand_151 : decode cX11_readOperand 151 = .ok (.invokevirtual 468, 3) := by decide +kernel
theorem dX11_readOperand_154 : decode cX11_readOperand 154 = .ok (.ifCond .ne 20, 3) := by decide +kernel
theorem dX11_readOperand_157 : decode cX11_readOperand 157 = .ok (.aload_n 0, 1) := by decide +kernel
theorem dX11_readOperand_158 : decode cX11_readOperand 158 = .ok (.iconst 2, 1) := by decide +kernel
theorem dX11_readOperand_159 : decode cX11_readOperand 159 = .ok (.aload_n 0, 1) := by decide +kernel
theorem dX11_readOperand_160 : decode cX11_readOperand 160 = .ok (.getfield 16, 3) := by decide +kernel
theorem dX11_readOperand_163 : decode cX11_readOperand 163 = .ok (.aload_n 0, 1) := by decide +kernel
theorem dX11_readOperand_164 : decode cX11_readOperand 164 = .ok (.getfield 366, 3) := by decide +kernel
theorem dX11_readOperand_167 : decode cX11_readOperand 167 = .ok (.iaload, 1) := by decide +kernel
theorem dX11_readOperand_168 : decode cX11_readOperand 168 = .ok (.invokevirtual 369, 3) := by decide +kernel
theorem dX11_readOperand_171 : decode cX11_readOperand 171 = .ok (.goto 56, 3) := by decide +kernel
theorem dX11_readOperand_174 : decode cX11_readOperand 174 = .ok (.aload_n 0, 1) := by decide +kernel
theorem dX11_readOperand_175 : decode cX11_readOperand 175 = .ok (.aload_n 0, 1) := by decide +kernel
theorem dX11_readOperand_176 : decode cX11_readOperand 176 = .ok (.getfield 19, 3) := by decide +kernel
theorem dX11_readOperand_179 : decode cX11_readOperand 179 = .ok (.aload_n 0, 1) := by decide +kernel
theorem dX11_readOperand_180 : decode cX11_readOperand 180 = .ok (.getfield 366, 3) := by decide +kernel
theorem dX11_readOperand_183 : decode cX11_readOperand 183 = .ok (.laload, 1) := by decide +kernel
theorem dX11_readOperand_184 : decode cX11_readOperand 184 = .ok (.invokevirtual 475, 3) := by decide +kernel
theorem dX11_readOperand_187 : decode cX11_readOperand 187 = .ok (.iconst (-1), 1) := by decide +kernel
theorem dX11_readOperand_188 : decode cX11_readOperand 188 = .ok (.if_icmp .ne 20, 3) := by decide +kernel
theorem dX11_readOperand_191 : decode cX11_readOperand 191 = .ok (.aload_n 0, 1) := by decide +kernel
theorem dX11_readOperand_192 : decode cX11_readOperand 192 = .ok (.iconst 4, 1) := by decide +kernel
theorem dX11_readOperand_193 : decode cX11_readOperand 193 = .ok (.aload_n 0, 1) := by decide +kernel
theorem dX11_readOperand_194 : decode cX11_readOperand 194 = .ok (.getfield 16, 3) := by decide +kernel
theorem dX11_readOperand_197 : decode cX11_readOperand 197 = .ok (.aload_n 0, 1) := by decide +kernel
theorem dX11_readOperand_198 : decode cX11_readOperand 198 = .ok (.getfield 366, 3) := by decide +kernel
theorem dX11_readOperand_201 : decode cX11_readOperand 201 = .ok (.iaload, 1) := by decide +kernel
theorem dX11_readOperand_202 : decode cX11_readOperand 202 = .ok (.invokevirtual 369, 3) := by decide +kernel
theorem dX11_readOperand_205 : decode cX11_readOperand 205 = .ok (.goto 22, 3) := by decide +kernel
theorem dX11_readOperand_208 : decode cX11_readOperand 208 = .ok (.aload_n 0, 1) := by decide +kernel
theorem dX11_readOperand_209 : decode cX11_readOperand 209 = .ok (.iconst 1, 1) := by decide +kernel
theorem dX11_readOperand_210 : decode cX11_readOperand 210 = .ok (.aload_n 0, 1) := by decide +kernel
theorem dX11_readOperand_211 : decode cX11_readOperand 211 = .ok (.aload_n 0, 1) := by decide +kernel
theorem dX11_readOperand_212 : decode cX11_readOperand 212 = .ok (.getfield 19, 3) := by decide +kernel
theorem dX11_readOperand_215 : decode cX11_readOperand 215 = .ok (.aload_n 0, 1) := by decide +kernel
theorem dX11_readOperand_216 : decode cX11_readOperand 216 = .ok (.getfield 366, 3) := by decide +kernel
theorem dX11_readOperand_219 : decode cX11_readOperand 219 = .ok (.laload, 1) := by decide +kernel
theorem dX11_readOperand_220 : decode cX11_readOperand 220 = .ok (.invokevirtual 475, 3) := by decide +kernel
theorem dX11_readOperand_223 : decode cX11_readOperand 223 = .ok (.i2l, 1) := by decide +kernel
theorem dX11_readOperand_224 : decode cX11_readOperand 224 = .ok (.invokevirtual 530, 3) := by decide +kernel
theorem dX11_readOperand_227 : decode cX11_readOperand 227 = .ok (.return_, 1) := by decide +kernel
theorem dX11_operator_0 : decode cX11_operator 0 = .ok (.aload_n 0, 1) := by decide +kernel
theorem dX11_operator_1 : decode cX11_operator 1 = .ok (.getfield 13, 3) := by decide +kernel
theorem dX11_operator_4 : decode cX11_operator 4 = .ok (.aload_n 0, 1) := by decide +kernel
theorem dX11_operator_5 : decode cX11_operator 5 = .ok (.getfield 366, 3) := by decide +kernel
theorem dX11_operator_8 : decode cX11_operator 8 = .ok (.iaload, 1) := by decide +kernel
theorem dX11_operator_9 : decode cX11_operator 9 = .ok (.iconst 3, 1) := by decide +kernel
theorem dX11_operator_10 : decode cX11_operator 10 = .ok (.if_icmp .eq 7, 3) := by decide +kernel
theorem dX11_operator_13 : decode cX11_operator 13 = .ok (.iconst (-1), 1) := by decide +kernel
theorem dX11_operator_14 : decode cX11_operator 14 = .ok (.goto 107, 3) := by decide +kernel
theorem dX11_operator_17 : decode cX11_operator 17 = .ok (.aload_n 0, 1) := by decide +kernel
theorem dX11_operator_18 : decode cX11_operator 18 = .ok (.getfield 19, 3) := by decide +kernel
theorem dX11_operator_21 : decode cX11_operator 21 = .ok (.aload_n 0, 1) := by decide +kernel
theorem dX11_operator_22 : decode cX11_operator 22 = .ok (.getfield 366, 3) := by decide +kernel
theorem dX11_operator_25 : decode cX11_operator 25 = .ok (.laload, 1) := by decide +kernel
theorem dX11_operator_26 : decode cX11_operator 26 = .ok (.ldc2_w 535, 3) := by decide +kernel
theorem dX11_operator_29 : decode cX11_operator 29 = .ok (.lcmp, 1) := by decide +kernel
theorem dX11_operator_30 : decode cX11_operator 30 = .ok (.ifCond .ne 8, 3) := by decide +kernel
theorem dX11_operator_33 : decode cX11_operator 33 = .ok (.bipush 7, 2) := by decide +kernel
theorem dX11_operator_35 : decode cX11_operator 35 = .ok (.goto 86, 3) := by decide +kernel
theorem dX11_operator_38 : decode cX11_operator 38 = .ok (.aload_n 0, 1) := by decide +kernel
theorem dX11_operator_39 : decode cX11_operator 39 = .ok (.getfield 19, 3) := by decide +kernel
theorem dX11_operator_42 : decode cX11_operator 42 = .ok (.aload_n 0, 1) := by decide +kernel
theorem dX11_operator_43 : decode cX11_operator 43 = .ok (.getfield 366, 3) := by decide +kernel
theorem dX11_operator_46 : decode cX11_operator 46 = .ok (.laload, 1) := by decide +kernel
theorem dX11_operator_47 : decode cX11_operator 47 = .ok (.ldc2_w 482, 3) := by decide +kernel
theorem dX11_operator_50 : decode cX11_operator 50 = .ok (.lcmp, 1) := by decide +kernel
theorem dX11_operator_51 : decode cX11_operator 51 = .ok (.ifCond .ne 8, 3) := by decide +kernel
theorem dX11_operator_54 : decode cX11_operator 54 = .ok (.bipush 8, 2) := by decide +kernel
theorem dX11_operator_56 : decode cX11_operator 56 = .ok (.goto 65, 3) := by decide +kernel
theorem dX11_operator_59 : decode cX11_operator 59 = .ok (.aload_n 0, 1) := by decide +kernel
theorem dX11_operator_60 : decode cX11_operator 60 = .ok (.getfield 19, 3) := by decide +kernel
theorem dX11_operator_63 : decode cX11_operator 63 = .ok (.aload_n 0, 1) := by decide +kernel
theorem dX11_operator_64 : decode cX11_operator 64 = .ok (.getfield 366, 3) := by decide +kernel
theorem dX11_operator_67 : decode cX11_operator 67 = .ok (.laload, 1) := by decide +kernel
theorem dX11_operator_68 : decode cX11_operator 68 = .ok (.ldc2_w 537, 3) := by decide +kernel
theorem dX11_operator_71 : decode cX11_operator 71 = .ok (.lcmp, 1) := by decide +kernel
theorem dX11_operator_72 : decode cX11_operator 72 = .ok (.ifCond .ne 7, 3) := by decide +kernel
theorem dX11_operator_75 : decode cX11_operator 75 = .ok (.iconst 4, 1) := by decide +kernel
theorem dX11_operator_76 : decode cX11_operator 76 = .ok (.goto 45, 3) := by decide +kernel
theorem dX11_operator_79 : decode cX11_operator 79 = .ok (.aload_n 0, 1) := by decide +kernel
theorem dX11_operator_80 : decode cX11_operator 80 = .ok (.getfield 19, 3) := by decide +kernel
theorem dX11_operator_83 : decode cX11_operator 83 = .ok (.aload_n 0, 1) := by decide +kernel
theorem dX11_operator_84 : decode cX11_operator 84 = .ok (.getfield 366, 3) := by decide +kernel
theorem dX11_operator_87 : decode cX11_operator 87 = .ok (.laload, 1) := by decide +kernel
theorem dX11_operator_88 : decode cX11_operator 88 = .ok (.ldc2_w 539, 3) := by decide +kernel
theorem dX11_operator_91 : decode cX11_operator 91 = .ok (.lcmp, 1) := by decide +kernel
theorem dX11_operator_92 : decode cX11_operator 92 = .ok (.ifCond .ne 7, 3) := by decide +kernel
theorem dX11_operator_95 : decode cX11_operator 95 = .ok (.iconst 5, 1) := by decide +kernel
theorem dX11_operator_96 : decode cX11_operator 96 = .ok (.goto 25, 3) := by decide +kernel
theorem dX11_operator_99 : decode cX11_operator 99 = .ok (.aload_n 0, 1) := by decide +kernel
theorem dX11_operator_100 : decode cX11_operator 100 = .ok (.getfield 19, 3) := by decide +kernel
theorem dX11_operator_103 : decode cX11_operator 103 = .ok (.aload_n 0, 1) := by decide +kernel
theorem dX11_operator_104 : decode cX11_operator 104 = .ok (.getfield 366, 3) := by decide +kernel
theorem dX11_operator_107 : decode cX11_operator 107 = .ok (.laload, 1) := by decide +kernel
theorem dX11_operator_108 : decode cX11_operator 108 = .ok (.ldc2_w 541, 3) := by decide +kernel
theorem dX11_operator_111 : decode cX11_operator 111 = .ok (.lcmp, 1) := by decide +kernel
theorem dX11_operator_112 : decode cX11_operator 112 = .ok (.ifCond .ne 8, 3) := by decide +kernel
theorem dX11_operator_115 : decode cX11_operator 115 = .ok (.bipush 6, 2) := by decide +kernel
theorem dX11_operator_117 : decode cX11_operator 117 = .ok (.goto 4, 3) := by decide +kernel
theorem dX11_operator_120 : decode cX11_operator 120 = .ok (.iconst (-1), 1) := by decide +kernel
theorem dX11_operator_121 : decode cX11_operator 121 = .ok (.ireturn, 1) := by decide +kernel
theorem dX11_readSum_0 : decode cX11_readSum 0 = .ok (.aload_n 0, 1) := by decide +kernel
theorem dX11_readSum_1 : decode cX11_readSum 1 = .ok (.iconst 0, 1) := by decide +kernel
theorem dX11_readSum_2 : decode cX11_readSum 2 = .ok (.putfield 489, 3) := by decide +kernel
theorem dX11_readSum_5 : decode cX11_readSum 5 = .ok (.aload_n 0, 1) := by decide +kernel
theorem dX11_readSum_6 : decode cX11_readSum 6 = .ok (.iconst 0, 1) := by decide +kernel
theorem dX11_readSum_7 : decode cX11_readSum 7 = .ok (.putfield 495, 3) := by decide +kernel
theorem dX11_readSum_10 : decode cX11_readSum 10 = .ok (.aload_n 0, 1) := by decide +kernel
theorem dX11_readSum_11 : decode cX11_readSum 11 = .ok (.iconst 0, 1) := by decide +kernel
theorem dX11_readSum_12 : decode cX11_readSum 12 = .ok (.putfield 492, 3) := by decide +kernel
theorem dX11_readSum_15 : decode cX11_readSum 15 = .ok (.iconst 1, 1) := by decide +kernel
theorem dX11_readSum_16 : decode cX11_readSum 16 = .ok (.istore_n 1, 1) := by decide +kernel
theorem dX11_readSum_17 : decode cX11_readSum 17 = .ok (.iconst 1, 1) := by decide +kernel
theorem dX11_readSum_18 : decode cX11_readSum 18 = .ok (.istore_n 2, 1) := by decide +kernel
theorem dX11_readSum_19 : decode cX11_readSum 19 = .ok (.iload_n 2, 1) := by decide +kernel
theorem dX11_readSum_20 : decode cX11_readSum 20 = .ok (.ifCond .eq 244, 3) := by decide +kernel
theorem dX11_readSum_23 : decode cX11_readSum 23 = .ok (.aload_n 0, 1) := by decide +kernel
theorem dX11_readSum_24 : decode cX11_readSum 24 = .ok (.getfield 360, 3) := by decide +kernel
theorem dX11_readSum_27 : decode cX11_readSum 27 = .ok (.ifCond .ne 237, 3) := by decide +kernel
theorem dX11_readSum_30 : decode cX11_readSum 30 = .ok (.iload_n 1, 1) := by decide +kernel
theorem dX11_readSum_31 : decode cX11_readSum 31 = .ok (.ifCond .eq 51, 3) := by decide +kernel
theorem dX11_readSum_34 : decode cX11_readSum 34 = .ok (.aload_n 0, 1) := by decide +kernel
theorem dX11_readSum_35 : decode cX11_readSum 35 = .ok (.iconst 3, 1) := by decide +kernel
theorem dX11_readSum_36 : decode cX11_readSum 36 = .ok (.ldc2_w 482, 3) := by decide +kernel
theorem dX11_readSum_39 : decode cX11_readSum 39 = .ok (.invokevirtual 373, 3) := by decide +kernel
theorem dX11_readSum_42 : decode cX11_readSum 42 = .ok (.ifCond .eq 11, 3) := by decide +kernel
theorem dX11_readSum_45 : decode cX11_readSum 45 = .ok (.aload_n 0, 1) := by decide +kernel
theorem dX11_readSum_46 : decode cX11_readSum 46 = .ok (.iconst 3, 1) := by decide +kernel
theorem dX11_readSum_47 : decode cX11_readSum 47 = .ok (.invokevirtual 512, 3) := by decide +kernel
theorem dX11_readSum_50 : decode cX11_readSum 50 = .ok (.goto (-31), 3) := by decide +kernel
theorem dX11_readSum_53 : decode cX11_readSum 53 = .ok (.aload_n 0, 1) := by decide +kernel
theorem dX11_readSum_54 : decode cX11_readSum 54 = .ok (.iconst 3, 1) := by decide +kernel
theorem dX11_readSum_55 : decode cX11_readSum 55 = .ok (.ldc2_w 515, 3) := by decide +kernel
theorem dX11_readSum_58 : decode cX11_readSum 58 = .ok (.invokevirtual 373, 3) := by decide +kernel
theorem dX11_readSum_61 : decode cX11_readSum 61 = .ok (.ifCond .eq 12, 3) := by decide +kernel
theorem dX11_readSum_64 : decode cX11_readSum 64 = .ok (.aload_n 0, 1) := by decide +kernel
theorem dX11_readSum_65 : decode cX11_readSum 65 = .ok (.bipush 9, 2) := by decide +kernel
theorem dX11_readSum_67 : decode cX11_readSum 67 = .ok (.invokevirtual 512, 3) := by decide +kernel
theorem dX11_readSum_70 : decode cX11_readSum 70 = .ok (.goto (-51), 3) := by decide +kernel
theorem dX11_readSum_73 : decode cX11_readSum 73 = .ok (.aload_n 0, 1) := by decide +kernel
theorem dX11_readSum_74 : decode cX11_readSum 74 = .ok (.invokevirtual 543, 3) := by decide +kernel
theorem dX11_readSum_77 : decode cX11_readSum 77 = .ok (.iconst 0, 1) := by decide +kernel
theorem dX11_readSum_78 : decode cX11_readSum 78 = .ok (.istore_n 1, 1) := by decide +kernel
theorem dX11_readSum_79 : decode cX11_readSum 79 = .ok (.goto (-60), 3) := by decide +kernel
theorem dX11_readSum_82 : decode cX11_readSum 82 = .ok (.aload_n 0, 1) := by decide +kernel
theorem dX11_readSum_83 : decode cX11_readSum 83 = .ok (.invokevirtual 546, 3) := by decide +kernel
theorem dX11_readSum_86 : decode cX11_readSum 86 = .ok (.iconst (-1), 1) := by decide +kernel
theorem dX11_readSum_87 : decode cX11_readSum 87 = .ok (.if_icmp .eq 54, 3) := by decide +kernel
theorem dX11_readSum_90 : decode cX11_readSum 90 = .ok (.aload_n 0, 1) := by decide +kernel
theorem dX11_readSum_91 : decode cX11_readSum 91 = .ok (.invokevirtual 546, 3) := by decide +kernel
theorem dX11_readSum_94 : decode cX11_readSum 94 = .ok (.istore_n 3, 1) := by decide +kernel
theorem dX11_readSum_95 : decode cX11_readSum 95 = .ok (.aload_n 0, 1) := by decide +kernel
theorem dX11_readSum_96 : decode cX11_readSum 96 = .ok (.iload_n 3, 1) := by decide +kernel
theorem dX11_readSum_97 : decode cX11_readSum 97 = .ok (.bipush 7, 2) := by decide +kernel
theorem dX11_readSum_99 : decode cX11_readSum 99 = .ok (.if_icmp .ge 8, 3) := by decide +kernel
theorem dX11_readSum_102 : decode cX11_readSum 102 = .ok (.bipush 6, 2) := by decide +kernel
theorem dX11_readSum_104 : decode cX11_readSum 104 = .ok (.goto 5, 3) := by decide +kernel
theorem dX11_readSum_107 : decode cX11_readSum 107 = .ok (.bipush 8, 2) := by decide +kernel
theorem dX11_readSum_109 : decode cX11_readSum 109 = .ok (.invokevirtual 549, 3) := by decide +kernel
theorem dX11_readSum_112 : decode cX11_readSum 112 = .ok (.aload_n 0, 1) := by decide +kernel
theorem dX11_readSum_113 : decode cX11_readSum 113 = .ok (.getfield 78, 3) := by decide +kernel
theorem dX11_readSum_116 : decode cX11_readSum 116 = .ok (.aload_n 0, 1) := by decide +kernel
theorem dX11_readSum_117 : decode cX11_readSum 117 = .ok (.getfield 489, 3) := by decide +kernel
theorem dX11_readSum_120 : decode cX11_readSum 120 = .ok (.iload_n 3, 1) := by decide +kernel
theorem dX11_readSum_121 : decode cX11_readSum 121 = .ok (.iastore, 1) := by decide +kernel
theorem dX11_readSum_122 : decode cX11_readSum 122 = .ok (.aload_n 0, 1) := by decide +kernel
theorem dX11_readSum_123 : decode cX11_readSum 123 = .ok (.dup, 1) := by decide +kernel
theorem dX11_readSum_124 : decode cX11_readSum 124 = .ok (.getfield 489, 3) := by decide +kernel
theorem dX11_readSum_127 : decode cX11_readSum 127 = .ok (.iconst 1, 1) := by decide +kernel
theorem dX11_readSum_128 : decode cX11_readSum 128 = .ok (.iadd, 1) := by decide +kernel
theorem dX11_readSum_129 : decode cX11_readSum 129 = .ok (.putfield 489, 3) := by decide +kernel
theorem dX11_readSum_132 : decode cX11_readSum 132 = .ok (.aload_n 0, 1) := by decide +kernel
theorem dX11_readSum_133 : decode cX11_readSum 133 = .ok (.invokevirtual 377, 3) := by decide +kernel
theorem dX11_readSum_136 : decode cX11_readSum 136 = .ok (.iconst 1, 1) := by decide +kernel
theorem dX11_readSum_137 : decode cX11_readSum 137 = .ok (.istore_n 1, 1) := by decide +kernel
theorem dX11_readSum_138 : decode cX11_readSum 138 = .ok (.goto (-119), 3) := by decide +kernel
theorem dX11_readSum_141 : decode cX11_readSum 141 = .ok (.aload_n 0, 1) := by decide +kernel
theorem dX11_readSum_142 : decode cX11_readSum 142 = .ok (.getfield 492, 3) := by decide +kernel
theorem dX11_readSum_145 : decode cX11_readSum 145 = .ok (.ifCond .le 114, 3) := by decide +kernel
theorem dX11_readSum_148 : decode cX11_readSum 148 = .ok (.aload_n 0, 1) := by decide +kernel
theorem dX11_readSum_149 : decode cX11_readSum 149 = .ok (.iconst 3, 1) := by decide +kernel
theorem dX11_readSum_150 : decode cX11_readSum 150 = .ok (.ldc2_w 524, 3) := by decide +kernel
theorem dX11_readSum_153 : decode cX11_readSum 153 = .ok (.invokevirtual 373, 3) := by decide +kernel
theorem dX11_readSum_156 : decode cX11_readSum 156 = .ok (.ifCond .eq 103, 3) := by decide +kernel
theorem dX11_readSum_159 : decode cX11_readSum 159 = .ok (.aload_n 0, 1) := by decide +kernel
theorem dX11_readSum_160 : decode cX11_readSum 160 = .ok (.bipush 8, 2) := by decide +kernel
theorem dX11_readSum_162 : decode cX11_readSum 162 = .ok (.invokevirtual 549, 3) := by decide +kernel
theorem dX11_readSum_165 : decode cX11_readSum 165 = .ok (.aload_n 0, 1) := by decide +kernel
theorem dX11_readSum_166 : decode cX11_readSum 166 = .ok (.dup, 1) := by decide +kernel
theorem dX11_readSum_167 : decode cX11_readSum 167 = .ok (.getfield 489, 3) := by decide +kernel
theorem dX11_readSum_170 : decode cX11_readSum 170 = .ok (.iconst 1, 1) := by decide +kernel
theorem dX11_readSum_171 : decode cX11_readSum 171 = .ok (.isub, 1) := by decide +kernel
theorem dX11_readSum_172 : decode cX11_readSum 172 = .ok (.putfield 489, 3) := by decide +kernel
theorem dX11_readSum_175 : decode cX11_readSum 175 = .ok (.aload_n 0, 1) := by decide +kernel
theorem dX11_readSum_176 : decode cX11_readSum 176 = .ok (.dup, 1) := by decide +kernel
theorem dX11_readSum_177 : decode cX11_readSum 177 = .ok (.getfield 492, 3) := by decide +kernel
theorem dX11_readSum_180 : decode cX11_readSum 180 = .ok (.iconst 1, 1) := by decide +kernel
theorem dX11_readSum_181 : decode cX11_readSum 181 = .ok (.isub, 1) := by decide +kernel
theorem dX11_readSum_182 : decode cX11_readSum 182 = .ok (.putfield 492, 3) := by decide +kernel
theorem dX11_readSum_185 : decode cX11_readSum 185 = .ok (.aload_n 0, 1) := by decide +kernel
theorem dX11_readSum_186 : decode cX11_readSum 186 = .ok (.dup, 1) := by decide +kernel
theorem dX11_readSum_187 : decode cX11_readSum 187 = .ok (.getfield 486, 3) := by decide +kernel
theorem dX11_readSum_190 : decode cX11_readSum 190 = .ok (.iconst 1, 1) := by decide +kernel
theorem dX11_readSum_191 : decode cX11_readSum 191 = .ok (.isub, 1) := by decide +kernel
theorem dX11_readSum_192 : decode cX11_readSum 192 = .ok (.putfield 486, 3) := by decide +kernel
theorem dX11_readSum_195 : decode cX11_readSum 195 = .ok (.aload_n 0, 1) := by decide +kernel
theorem dX11_readSum_196 : decode cX11_readSum 196 = .ok (.invokevirtual 377, 3) := by decide +kernel
theorem dX11_readSum_199 : decode cX11_readSum 199 = .ok (.aload_n 0, 1) := by decide +kernel
theorem dX11_readSum_200 : decode cX11_readSum 200 = .ok (.getfield 489, 3) := by decide +kernel
theorem dX11_readSum_203 : decode cX11_readSum 203 = .ok (.ifCond .le (-184), 3) := by decide +kernel
theorem dX11_readSum_206 : decode cX11_readSum 206 = .ok (.aload_n 0, 1) := by decide +kernel
theorem dX11_readSum_207 : decode cX11_readSum 207 = .ok (.getfield 78, 3) := by decide +kernel
theorem dX11_readSum_210 : decode cX11_readSum 210 = .ok (.aload_n 0, 1) := by decide +kernel
theorem dX11_readSum_211 : decode cX11_readSum 211 = .ok (.getfield 489, 3) := by decide +kernel
theorem dX11_readSum_214 : decode cX11_readSum 214 = .ok (.iconst 1, 1) := by decide +kernel
theorem dX11_readSum_215 : decode cX11_readSum 215 = .ok (.isub, 1) := by decide +kernel
theorem dX11_readSum_216 : decode cX11_readSum 216 = .ok (.iaload, 1) := by decide +kernel
theorem dX11_readSum_217 : decode cX11_readSum 217 = .ok (.iconst 3, 1) := by decide +kernel
theorem dX11_readSum_218 : decode cX11_readSum 218 = .ok (.if_icmp .ne (-199), 3) := by decide +kernel
theorem dX11_readSum_221 : decode cX11_readSum 221 = .ok (.aload_n 0, 1) := by decide +kernel
theorem dX11_readSum_222 : decode cX11_readSum 222 = .ok (.aload_n 0, 1) := by decide +kernel
theorem dX11_readSum_223 : decode cX11_readSum 223 = .ok (.iconst 3, 1) := by decide +kernel
theorem dX11_readSum_224 : decode cX11_readSum 224 = .ok (.aload_n 0, 1) := by decide +kernel
theorem dX11_readSum_225 : decode cX11_readSum 225 = .ok (.invokevirtual 498, 3) := by decide +kernel
theorem dX11_readSum_228 : decode cX11_readSum 228 = .ok (.i2l, 1) := by decide +kernel
theorem dX11_readSum_229 : decode cX11_readSum 229 = .ok (.iconst 0, 1) := by decide +kernel
theorem dX11_readSum_230 : decode cX11_readSum 230 = .ok (.invokevirtual 526, 3) := by decide +kernel
theorem dX11_readSum_233 : decode cX11_readSum 233 = .ok (.invokevirtual 506, 3) := by decide +kernel
theorem dX11_readSum_236 : decode cX11_readSum 236 = .ok (.aload_n 0, 1) := by decide +kernel
theorem dX11_readSum_237 : decode cX11_readSum 237 = .ok (.dup, 1) := by decide +kernel
theorem dX11_readSum_238 : decode cX11_readSum 238 = .ok (.getfield 489, 3) := by decide +kernel
theorem dX11_readSum_241 : decode cX11_readSum 241 = .ok (.iconst 1, 1) := by decide +kernel
theorem dX11_readSum_242 : decode cX11_readSum 242 = .ok (.isub, 1) := by decide +kernel
theorem dX11_readSum_243 : decode cX11_readSum 243 = .ok (.putfield 489, 3) := by decide +kernel
theorem dX11_readSum_246 : decode cX11_readSum 246 = .ok (.aload_n 0, 1) := by decide +kernel
theorem dX11_readSum_247 : decode cX11_readSum 247 = .ok (.dup, 1) := by decide +kernel
theorem dX11_readSum_248 : decode cX11_readSum 248 = .ok (.getfield 486, 3) := by decide +kernel
theorem dX11_readSum_251 : decode cX11_readSum 251 = .ok (.iconst 1, 1) := by decide +kernel
theorem dX11_readSum_252 : decode cX11_readSum 252 = .ok (.isub, 1) := by decide +kernel
theorem dX11_readSum_253 : decode cX11_readSum 253 = .ok (.putfield 486, 3) := by decide +kernel
theorem dX11_readSum_256 : decode cX11_readSum 256 = .ok (.goto (-57), 3) := by decide +kernel
theorem dX11_readSum_259 : decode cX11_readSum 259 = .ok (.iconst 0, 1) := by decide +kernel
theorem dX11_readSum_260 : decode cX11_readSum 260 = .ok (.istore_n 2, 1) := by decide +kernel
theorem dX11_readSum_261 : decode cX11_readSum 261 = .ok (.goto (-242), 3) := by decide +kernel
theorem dX11_readSum_264 : decode cX11_readSum 264 = .ok (.aload_n 0, 1) := by decide +kernel
theorem dX11_readSum_265 : decode cX11_readSum 265 = .ok (.getfield 360, 3) := by decide +kernel
theorem dX11_readSum_268 : decode cX11_readSum 268 = .ok (.ifCond .ne 24, 3) := by decide +kernel
theorem dX11_readSum_271 : decode cX11_readSum 271 = .ok (.aload_n 0, 1) := by decide +kernel
theorem dX11_readSum_272 : decode cX11_readSum 272 = .ok (.getfield 492, 3) := by decide +kernel
theorem dX11_readSum_275 : decode cX11_readSum 275 = .ok (.ifCond .le 17, 3) := by decide +kernel
theorem dX11_readSum_278 : decode cX11_readSum 278 = .ok (.aload_n 0, 1) := by decide +kernel
theorem dX11_readSum_279 : decode cX11_readSum 279 = .ok (.iconst 2, 1) := by decide +kernel
theorem dX11_readSum_280 : decode cX11_readSum 280 = .ok (.aload_n 0, 1) := by decide +kernel
theorem dX11_readSum_281 : decode cX11_readSum 281 = .ok (.getfield 16, 3) := by decide +kernel
theorem dX11_readSum_284 : decode cX11_readSum 284 = .ok (.aload_n 0, 1) := by decide +kernel
theorem dX11_readSum_285 : decode cX11_readSum 285 = .ok (.getfield 366, 3) := by decide +kernel
theorem dX11_readSum_288 : decode cX11_readSum 288 = .ok (.iaload, 1) := by decide +kernel
theorem dX11_readSum_289 : decode cX11_readSum 289 = .ok (.invokevirtual 369, 3) := by decide +kernel
theorem dX11_readSum_292 : decode cX11_readSum 292 = .ok (.aload_n 0, 1) := by decide +kernel
theorem dX11_readSum_293 : decode cX11_readSum 293 = .ok (.getfield 360, 3) := by decide +kernel
theorem dX11_readSum_296 : decode cX11_readSum 296 = .ok (.ifCond .le 5, 3) := by decide +kernel
theorem dX11_readSum_299 : decode cX11_readSum 299 = .ok (.iconst 0, 1) := by decide +kernel
theorem dX11_readSum_300 : decode cX11_readSum 300 = .ok (.ireturn, 1) := by decide +kernel
theorem dX11_readSum_301 : decode cX11_readSum 301 = .ok (.aload_n 0, 1) := by decide +kernel
theorem dX11_readSum_302 : decode cX11_readSum 302 = .ok (.bipush 8, 2) := by decide +kernel
theorem dX11_readSum_304 : decode cX11_readSum 304 = .ok (.invokevirtual 549, 3) := by decide +kernel
theorem dX11_readSum_307 : decode cX11_readSum 307 = .ok (.aload_n 0, 1) := by decide +kernel
theorem dX11_readSum_308 : decode cX11_readSum 308 = .ok (.getfield 81, 3) := by decide +kernel
theorem dX11_readSum_311 : decode cX11_readSum 311 = .ok (.iconst 0, 1) := by decide +kernel
theorem dX11_readSum_312 : decode cX11_readSum 312 = .ok (.iaload, 1) := by decide +kernel
theorem dX11_readSum_313 : decode cX11_readSum 313 = .ok (.ireturn, 1) := by decide +kernel
theorem dX11_sortOf_0 : decode cX11_sortOf 0 = .ok (.aload_n 0, 1) := by decide +kernel
theorem dX11_sortOf_1 : decode cX11_sortOf 1 = .ok (.iconst 3, 1) := by decide +kernel
theorem dX11_sortOf_2 : decode cX11_sortOf 2 = .ok (.ldc2_w 552, 3) := by decide +kernel
theorem dX11_sortOf_5 : decode cX11_sortOf 5 = .ok (.invokevirtual 373, 3) := by decide +kernel
theorem dX11_sortOf_8 : decode cX11_sortOf 8 = .ok (.ifCond .eq 6, 3) := by decide +kernel
theorem dX11_sortOf_11 : decode cX11_sortOf 11 = .ok (.bipush 16, 2) := by decide +kernel
theorem dX11_sortOf_13 : decode cX11_sortOf 13 = .ok (.ireturn, 1) := by decide +kernel
theorem dX11_sortOf_14 : decode cX11_sortOf 14 = .ok (.aload_n 0, 1) := by decide +kernel
theorem dX11_sortOf_15 : decode cX11_sortOf 15 = .ok (.invokevirtual 468, 3) := by decide +kernel
theorem dX11_sortOf_18 : decode cX11_sortOf 18 = .ok (.ifCond .eq 6, 3) := by decide +kernel
theorem dX11_sortOf_21 : decode cX11_sortOf 21 = .ok (.bipush 15, 2) := by decide +kernel
theorem dX11_sortOf_23 : decode cX11_sortOf 23 = .ok (.ireturn, 1) := by decide +kernel
theorem dX11_sortOf_24 : decode cX11_sortOf 24 = .ok (.aload_n 0, 1) := by decide +kernel
theorem dX11_sortOf_25 : decode cX11_sortOf 25 = .ok (.getfield 13, 3) := by decide +kernel
theorem dX11_sortOf_28 : decode cX11_sortOf 28 = .ok (.aload_n 0, 1) := by decide +kernel
theorem dX11_sortOf_29 : decode cX11_sortOf 29 = .ok (.getfield 366, 3) := by decide +kernel
theorem dX11_sortOf_32 : decode cX11_sortOf 32 = .ok (.iaload, 1) := by decide +kernel
theorem dX11_sortOf_33 : decode cX11_sortOf 33 = .ok (.iconst 1, 1) := by decide +kernel
theorem dX11_sortOf_34 : decode cX11_sortOf 34 = .ok (.if_icmp .ne 15, 3) := by decide +kernel
theorem dX11_sortOf_37 : decode cX11_sortOf 37 = .ok (.aload_n 0, 1) := by decide +kernel
theorem dX11_sortOf_38 : decode cX11_sortOf 38 = .ok (.getfield 19, 3) := by decide +kernel
theorem dX11_sortOf_41 : decode cX11_sortOf 41 = .ok (.aload_n 0, 1) := by decide +kernel
theorem dX11_sortOf_42 : decode cX11_sortOf 42 = .ok (.getfield 366, 3) := by decide +kernel
theorem dX11_sortOf_45 : decode cX11_sortOf 45 = .ok (.laload, 1) := by decide +kernel
theorem dX11_sortOf_46 : decode cX11_sortOf 46 = .ok (.goto 4, 3) := by decide +kernel
theorem dX11_sortOf_49 : decode cX11_sortOf 49 = .ok (.lconst 0, 1) := by decide +kernel
theorem dX11_sortOf_50 : decode cX11_sortOf 50 = .ok (.lstore_n 1, 1) := by decide +kernel
theorem dX11_sortOf_51 : decode cX11_sortOf 51 = .ok (.lload_n 1, 1) := by decide +kernel
theorem dX11_sortOf_52 : decode cX11_sortOf 52 = .ok (.ldc2_w 394, 3) := by decide +kernel
theorem dX11_sortOf_55 : decode cX11_sortOf 55 = .ok (.lcmp, 1) := by decide +kernel
theorem dX11_sortOf_56 : decode cX11_sortOf 56 = .ok (.ifCond .ne 7, 3) := by decide +kernel
theorem dX11_sortOf_59 : decode cX11_sortOf 59 = .ok (.iconst 0, 1) := by decide +kernel
theorem dX11_sortOf_60 : decode cX11_sortOf 60 = .ok (.goto 181, 3) := by decide +kernel
theorem dX11_sortOf_63 : decode cX11_sortOf 63 = .ok (.lload_n 1, 1) := by decide +kernel
theorem dX11_sortOf_64 : decode cX11_sortOf 64 = .ok (.ldc2_w 396, 3) := by decide +kernel
theorem dX11_sortOf_67 : decode cX11_sortOf 67 = .ok (.lcmp, 1) := by decide +kernel
theorem dX11_sortOf_68 : decode cX11_sortOf 68 = .ok (.ifCond .ne 7, 3) := by decide +kernel
theorem dX11_sortOf_71 : decode cX11_sortOf 71 = .ok (.iconst 1, 1) := by decide +kernel
theorem dX11_sortOf_72 : decode cX11_sortOf 72 = .ok (.goto 169, 3) := by decide +kernel
theorem dX11_sortOf_75 : decode cX11_sortOf 75 = .ok (.lload_n 1, 1) := by decide +kernel
theorem dX11_sortOf_76 : decode cX11_sortOf 76 = .ok (.ldc2_w 398, 3) := by decide +kernel
theorem dX11_sortOf_79 : decode cX11_sortOf 79 = .ok (.lcmp, 1) := by decide +kernel
theorem dX11_sortOf_80 : decode cX11_sortOf 80 = .ok (.ifCond .ne 7, 3) := by decide +kernel
theorem dX11_sortOf_83 : decode cX11_sortOf 83 = .ok (.iconst 2, 1) := by decide +kernel
theorem dX11_sortOf_84 : decode cX11_sortOf 84 = .ok (.goto 157, 3) := by decide +kernel
theorem dX11_sortOf_87 : decode cX11_sortOf 87 = .ok (.lload_n 1, 1) := by decide +kernel
theorem dX11_sortOf_88 : decode cX11_sortOf 88 = .ok (.ldc2_w 400, 3) := by decide +kernel
theorem dX11_sortOf_91 : decode cX11_sortOf 91 = .ok (.lcmp, 1) := by decide +kernel
theorem dX11_sortOf_92 : decode cX11_sortOf 92 = .ok (.ifCond .ne 7, 3) := by decide +kernel
theorem dX11_sortOf_95 : decode cX11_sortOf 95 = .ok (.iconst 3, 1) := by decide +kernel
theorem dX11_sortOf_96 : decode cX11_sortOf 96 = .ok (.goto 145, 3) := by decide +kernel
theorem dX11_sortOf_99 : decode cX11_sortOf 99 = .ok (.lload_n 1, 1) := by decide +kernel
theorem dX11_sortOf_100 : decode cX11_sortOf 100 = .ok (.ldc2_w 402, 3) := by decide +kernel
theorem dX11_sortOf_103 : decode cX11_sortOf 103 = .ok (.lcmp, 1) := by decide +kernel
theorem dX11_sortOf_104 : decode cX11_sortOf 104 = .ok (.ifCond .ne 7, 3) := by decide +kernel
theorem dX11_sortOf_107 : decode cX11_sortOf 107 = .ok (.iconst 4, 1) := by decide +kernel
theorem dX11_sortOf_108 : decode cX11_sortOf 108 = .ok (.goto 133, 3) := by decide +kernel
theorem dX11_sortOf_111 : decode cX11_sortOf 111 = .ok (.lload_n 1, 1) := by decide +kernel
theorem dX11_sortOf_112 : decode cX11_sortOf 112 = .ok (.ldc2_w 410, 3) := by decide +kernel
theorem dX11_sortOf_115 : decode cX11_sortOf 115 = .ok (.lcmp, 1) := by decide +kernel
theorem dX11_sortOf_116 : decode cX11_sortOf 116 = .ok (.ifCond .ne 7, 3) := by decide +kernel
theorem dX11_sortOf_119 : decode cX11_sortOf 119 = .ok (.iconst 5, 1) := by decide +kernel
theorem dX11_sortOf_120 : decode cX11_sortOf 120 = .ok (.goto 121, 3) := by decide +kernel
theorem dX11_sortOf_123 : decode cX11_sortOf 123 = .ok (.lload_n 1, 1) := by decide +kernel
theorem dX11_sortOf_124 : decode cX11_sortOf 124 = .ok (.ldc2_w 412, 3) := by decide +kernel
theorem dX11_sortOf_127 : decode cX11_sortOf 127 = .ok (.lcmp, 1) := by decide +kernel
theorem dX11_sortOf_128 : decode cX11_sortOf 128 = .ok (.ifCond .ne 8, 3) := by decide +kernel
theorem dX11_sortOf_131 : decode cX11_sortOf 131 = .ok (.bipush 6, 2) := by decide +kernel
theorem dX11_sortOf_133 : decode cX11_sortOf 133 = .ok (.goto 108, 3) := by decide +kernel
theorem dX11_sortOf_136 : decode cX11_sortOf 136 = .ok (.lload_n 1, 1) := by decide +kernel
theorem dX11_sortOf_137 : decode cX11_sortOf 137 = .ok (.ldc2_w 414, 3) := by decide +kernel
theorem dX11_sortOf_140 : decode cX11_sortOf 140 = .ok (.lcmp, 1) := by decide +kernel
theorem dX11_sortOf_141 : decode cX11_sortOf 141 = .ok (.ifCond .ne 8, 3) := by decide +kernel
theorem dX11_sortOf_144 : decode cX11_sortOf 144 = .ok (.bipush 7, 2) := by decide +kernel
theorem dX11_sortOf_146 : decode cX11_sortOf 146 = .ok (.goto 95, 3) := by decide +kernel
theorem dX11_sortOf_149 : decode cX11_sortOf 149 = .ok (.lload_n 1, 1) := by decide +kernel
theorem dX11_sortOf_150 : decode cX11_sortOf 150 = .ok (.ldc2_w 416, 3) := by decide +kernel
theorem dX11_sortOf_153 : decode cX11_sortOf 153 = .ok (.lcmp, 1) := by decide +kernel
theorem dX11_sortOf_154 : decode cX11_sortOf 154 = .ok (.ifCond .ne 8, 3) := by decide +kernel
theorem dX11_sortOf_157 : decode cX11_sortOf 157 = .ok (.bipush 8, 2) := by decide +kernel
theorem dX11_sortOf_159 : decode cX11_sortOf 159 = .ok (.goto 82, 3) := by decide +kernel
theorem dX11_sortOf_162 : decode cX11_sortOf 162 = .ok (.lload_n 1, 1) := by decide +kernel
theorem dX11_sortOf_163 : decode cX11_sortOf 163 = .ok (.ldc2_w 418, 3) := by decide +kernel
theorem dX11_sortOf_166 : decode cX11_sortOf 166 = .ok (.lcmp, 1) := by decide +kernel
theorem dX11_sortOf_167 : decode cX11_sortOf 167 = .ok (.ifCond .ne 8, 3) := by decide +kernel
theorem dX11_sortOf_170 : decode cX11_sortOf 170 = .ok (.bipush 9, 2) := by decide +kernel
theorem dX11_sortOf_172 : decode cX11_sortOf 172 = .ok (.goto 69, 3) := by decide +kernel
theorem dX11_sortOf_175 : decode cX11_sortOf 175 = .ok (.lload_n 1, 1) := by decide +kernel
theorem dX11_sortOf_176 : decode cX11_sortOf 176 = .ok (.ldc2_w 420, 3) := by decide +kernel
theorem dX11_sortOf_179 : decode cX11_sortOf 179 = .ok (.lcmp, 1) := by decide +kernel
theorem dX11_sortOf_180 : decode cX11_sortOf 180 = .ok (.ifCond .ne 8, 3) := by decide +kernel
theorem dX11_sortOf_183 : decode cX11_sortOf 183 = .ok (.bipush 10, 2) := by decide +kernel
theorem dX11_sortOf_185 : decode cX11_sortOf 185 = .ok (.goto 56, 3) := by decide +kernel
theorem dX11_sortOf_188 : decode cX11_sortOf 188 = .ok (.lload_n 1, 1) := by decide +kernel
theorem dX11_sortOf_189 : decode cX11_sortOf 189 = .ok (.ldc2_w 422, 3) := by decide +kernel
theorem dX11_sortOf_192 : decode cX11_sortOf 192 = .ok (.lcmp, 1) := by decide +kernel
theorem dX11_sortOf_193 : decode cX11_sortOf 193 = .ok (.ifCond .ne 8, 3) := by decide +kernel
theorem dX11_sortOf_196 : decode cX11_sortOf 196 = .ok (.bipush 11, 2) := by decide +kernel
theorem dX11_sortOf_198 : decode cX11_sortOf 198 = .ok (.goto 43, 3) := by decide +kernel
theorem dX11_sortOf_201 : decode cX11_sortOf 201 = .ok (.lload_n 1, 1) := by decide +kernel
theorem dX11_sortOf_202 : decode cX11_sortOf 202 = .ok (.ldc2_w 408, 3) := by decide +kernel
theorem dX11_sortOf_205 : decode cX11_sortOf 205 = .ok (.lcmp, 1) := by decide +kernel
theorem dX11_sortOf_206 : decode cX11_sortOf 206 = .ok (.ifCond .ne 8, 3) := by decide +kernel
theorem dX11_sortOf_209 : decode cX11_sortOf 209 = .ok (.bipush 12, 2) := by decide +kernel
theorem dX11_sortOf_211 : decode cX11_sortOf 211 = .ok (.goto 30, 3) := by decide +kernel
theorem dX11_sortOf_214 : decode cX11_sortOf 214 = .ok (.lload_n 1, 1) := by decide +kernel
theorem dX11_sortOf_215 : decode cX11_sortOf 215 = .ok (.ldc2_w 404, 3) := by decide +kernel
theorem dX11_sortOf_218 : decode cX11_sortOf 218 = .ok (.lcmp, 1) := by decide +kernel
theorem dX11_sortOf_219 : decode cX11_sortOf 219 = .ok (.ifCond .ne 8, 3) := by decide +kernel
theorem dX11_sortOf_222 : decode cX11_sortOf 222 = .ok (.bipush 13, 2) := by decide +kernel
theorem dX11_sortOf_224 : decode cX11_sortOf 224 = .ok (.goto 17, 3) := by decide +kernel
theorem dX11_sortOf_227 : decode cX11_sortOf 227 = .ok (.lload_n 1, 1) := by decide +kernel
theorem dX11_sortOf_228 : decode cX11_sortOf 228 = .ok (.ldc2_w 406, 3) := by decide +kernel
theorem dX11_sortOf_231 : decode cX11_sortOf 231 = .ok (.lcmp, 1) := by decide +kernel
theorem dX11_sortOf_232 : decode cX11_sortOf 232 = .ok (.ifCond .ne 8, 3) := by decide +kernel
theorem dX11_sortOf_235 : decode cX11_sortOf 235 = .ok (.bipush 14, 2) := by decide +kernel
theorem dX11_sortOf_237 : decode cX11_sortOf 237 = .ok (.goto 4, 3) := by decide +kernel
theorem dX11_sortOf_240 : decode cX11_sortOf 240 = .ok (.iconst (-1), 1) := by decide +kernel
theorem dX11_sortOf_241 : decode cX11_sortOf 241 = .ok (.ireturn, 1) := by decide +kernel
theorem dX11_isOpening_0 : decode cX11_isOpening 0 = .ok (.iload_n 0, 1) := by decide +kernel
theorem dX11_isOpening_1 : decode cX11_isOpening 1 = .ok (.iconst 5, 1) := by decide +kernel
theorem dX11_isOpening_2 : decode cX11_isOpening 2 = .ok (.if_icmp .eq 35, 3) := by decide +kernel
theorem dX11_isOpening_5 : decode cX11_isOpening 5 = .ok (.iload_n 0, 1) := by decide +kernel
theorem dX11_isOpening_6 : decode cX11_isOpening 6 = .ok (.bipush 6, 2) := by decide +kernel
theorem dX11_isOpening_8 : decode cX11_isOpening 8 = .ok (.if_icmp .eq 29, 3) := by decide +kernel
theorem dX11_isOpening_11 : decode cX11_isOpening 11 = .ok (.iload_n 0, 1) := by decide +kernel
theorem dX11_isOpening_12 : decode cX11_isOpening 12 = .ok (.i2l, 1) := by decide +kernel
theorem dX11_isOpening_13 : decode cX11_isOpening 13 = .ok (.ldc2_w 554, 3) := by decide +kernel
theorem dX11_isOpening_16 : decode cX11_isOpening 16 = .ok (.ldc2_w 556, 3) := by decide +kernel
theorem dX11_isOpening_19 : decode cX11_isOpening 19 = .ok (.invokestatic 332, 3) := by decide +kernel
theorem dX11_isOpening_22 : decode cX11_isOpening 22 = .ok (.ifCond .ne 15, 3) := by decide +kernel
theorem dX11_isOpening_25 : decode cX11_isOpening 25 = .ok (.iload_n 0, 1) := by decide +kernel
theorem dX11_isOpening_26 : decode cX11_isOpening 26 = .ok (.bipush 14, 2) := by decide +kernel
theorem dX11_isOpening_28 : decode cX11_isOpening 28 = .ok (.if_icmp .eq 9, 3) := by decide +kernel
theorem dX11_isOpening_31 : decode cX11_isOpening 31 = .ok (.iload_n 0, 1) := by decide +kernel
theorem dX11_isOpening_32 : decode cX11_isOpening 32 = .ok (.bipush 16, 2) := by decide +kernel
theorem dX11_isOpening_34 : decode cX11_isOpening 34 = .ok (.if_icmp .ne 7, 3) := by decide +kernel
theorem dX11_isOpening_37 : decode cX11_isOpening 37 = .ok (.iconst 1, 1) := by decide +kernel
theorem dX11_isOpening_38 : decode cX11_isOpening 38 = .ok (.goto 4, 3) := by decide +kernel
theorem dX11_isOpening_41 : decode cX11_isOpening 41 = .ok (.iconst 0, 1) := by decide +kernel
theorem dX11_isOpening_42 : decode cX11_isOpening 42 = .ok (.ireturn, 1) := by decide +kernel
theorem dX11_pausesOf_0 : decode cX11_pausesOf 0 = .ok (.iload_n 0, 1) := by decide +kernel
theorem dX11_pausesOf_1 : decode cX11_pausesOf 1 = .ok (.bipush 11, 2) := by decide +kernel
theorem dX11_pausesOf_3 : decode cX11_pausesOf 3 = .ok (.if_icmp .ne 7, 3) := by decide +kernel
theorem dX11_pausesOf_6 : decode cX11_pausesOf 6 = .ok (.iconst 3, 1) := by decide +kernel
theorem dX11_pausesOf_7 : decode cX11_pausesOf 7 = .ok (.goto 39, 3) := by decide +kernel
theorem dX11_pausesOf_10 : decode cX11_pausesOf 10 = .ok (.iload_n 0, 1) := by decide +kernel
theorem dX11_pausesOf_11 : decode cX11_pausesOf 11 = .ok (.i2l, 1) := by decide +kernel
theorem dX11_pausesOf_12 : decode cX11_pausesOf 12 = .ok (.lconst 1, 1) := by decide +kernel
theorem dX11_pausesOf_13 : decode cX11_pausesOf 13 = .ok (.ldc2_w 558, 3) := by decide +kernel
theorem dX11_pausesOf_16 : decode cX11_pausesOf 16 = .ok (.invokestatic 332, 3) := by decide +kernel
theorem dX11_pausesOf_19 : decode cX11_pausesOf 19 = .ok (.ifCond .ne 22, 3) := by decide +kernel
theorem dX11_pausesOf_22 : decode cX11_pausesOf 22 = .ok (.iload_n 0, 1) := by decide +kernel
theorem dX11_pausesOf_23 : decode cX11_pausesOf 23 = .ok (.iconst 4, 1) := by decide +kernel
theorem dX11_pausesOf_24 : decode cX11_pausesOf 24 = .ok (.if_icmp .eq 17, 3) := by decide +kernel
theorem dX11_pausesOf_27 : decode cX11_pausesOf 27 = .ok (.iload_n 0, 1) := by decide +kernel
theorem dX11_pausesOf_28 : decode cX11_pausesOf 28 = .ok (.i2l, 1) := by decide +kernel
theorem dX11_pausesOf_29 : decode cX11_pausesOf 29 = .ok (.ldc2_w 560, 3) := by decide +kernel
theorem dX11_pausesOf_32 : decode cX11_pausesOf 32 = .ok (.ldc2_w 562, 3) := by decide +kernel
theorem dX11_pausesOf_35 : decode cX11_pausesOf 35 = .ok (.invokestatic 332, 3) := by decide +kernel
theorem dX11_pausesOf_38 : decode cX11_pausesOf 38 = .ok (.ifCond .eq 7, 3) := by decide +kernel
theorem dX11_pausesOf_41 : decode cX11_pausesOf 41 = .ok (.iconst 1, 1) := by decide +kernel
theorem dX11_pausesOf_42 : decode cX11_pausesOf 42 = .ok (.goto 4, 3) := by decide +kernel
theorem dX11_pausesOf_45 : decode cX11_pausesOf 45 = .ok (.iconst 0, 1) := by decide +kernel
theorem dX11_pausesOf_46 : decode cX11_pausesOf 46 = .ok (.ireturn, 1) := by decide +kernel
theorem dX11_newSeq_0 : decode cX11_newSeq 0 = .ok (.aload_n 0, 1) := by decide +kernel
theorem dX11_newSeq_1 : decode cX11_newSeq 1 = .ok (.getfield 564, 3) := by decide +kernel
theorem dX11_newSeq_4 : decode cX11_newSeq 4 = .ok (.istore_n 1, 1) := by decide +kernel
theorem dX11_newSeq_5 : decode cX11_newSeq 5 = .ok (.aload_n 0, 1) := by decide +kernel
theorem dX11_newSeq_6 : decode cX11_newSeq 6 = .ok (.dup, 1) := by decide +kernel
theorem dX11_newSeq_7 : decode cX11_newSeq 7 = .ok (.getfield 564, 3) := by decide +kernel
theorem dX11_newSeq_10 : decode cX11_newSeq 10 = .ok (.iconst 1, 1) := by decide +kernel
theorem dX11_newSeq_11 : decode cX11_newSeq 11 = .ok (.iadd, 1) := by decide +kernel
theorem dX11_newSeq_12 : decode cX11_newSeq 12 = .ok (.putfield 564, 3) := by decide +kernel
theorem dX11_newSeq_15 : decode cX11_newSeq 15 = .ok (.aload_n 0, 1) := by decide +kernel
theorem dX11_newSeq_16 : decode cX11_newSeq 16 = .ok (.getfield 141, 3) := by decide +kernel
theorem dX11_newSeq_19 : decode cX11_newSeq 19 = .ok (.iload_n 1, 1) := by decide +kernel
theorem dX11_newSeq_20 : decode cX11_newSeq 20 = .ok (.iconst (-1), 1) := by decide +kernel
theorem dX11_newSeq_21 : decode cX11_newSeq 21 = .ok (.iastore, 1) := by decide +kernel
theorem dX11_newSeq_22 : decode cX11_newSeq 22 = .ok (.aload_n 0, 1) := by decide +kernel
theorem dX11_newSeq_23 : decode cX11_newSeq 23 = .ok (.getfield 144, 3) := by decide +kernel
theorem dX11_newSeq_26 : decode cX11_newSeq 26 = .ok (.iload_n 1, 1) := by decide +kernel
theorem dX11_newSeq_27 : decode cX11_newSeq 27 = .ok (.iconst (-1), 1) := by decide +kernel
theorem dX11_newSeq_28 : decode cX11_newSeq 28 = .ok (.iastore, 1) := by decide +kernel
theorem dX11_newSeq_29 : decode cX11_newSeq 29 = .ok (.aload_n 0, 1) := by decide +kernel
theorem dX11_newSeq_30 : decode cX11_newSeq 30 = .ok (.getfield 147, 3) := by decide +kernel
theorem dX11_newSeq_33 : decode cX11_newSeq 33 = .ok (.iload_n 1, 1) := by decide +kernel
theorem dX11_newSeq_34 : decode cX11_newSeq 34 = .ok (.iconst (-1), 1) := by decide +kernel
theorem dX11_newSeq_35 : decode cX11_newSeq 35 = .ok (.iastore, 1) := by decide +kernel
theorem dX11_newSeq_36 : decode cX11_newSeq 36 = .ok (.iload_n 1, 1) := by decide +kernel
theorem dX11_newSeq_37 : decode cX11_newSeq 37 = .ok (.ireturn, 1) := by decide +kernel
theorem dX11_beginPart_0 : decode cX11_beginPart 0 = .ok (.aload_n 0, 1) := by decide +kernel
theorem dX11_beginPart_1 : decode cX11_beginPart 1 = .ok (.invokevirtual 567, 3) := by decide +kernel
theorem dX11_beginPart_4 : decode cX11_beginPart 4 = .ok (.istore_n 2, 1) := by decide +kernel
theorem dX11_beginPart_5 : decode cX11_beginPart 5 = .ok (.iload_n 2, 1) := by decide +kernel
theorem dX11_beginPart_6 : decode cX11_beginPart 6 = .ok (.iconst (-1), 1) := by decide +kernel
theorem dX11_beginPart_7 : decode cX11_beginPart 7 = .ok (.if_icmp .ne 19, 3) := by decide +kernel
theorem dX11_beginPart_10 : decode cX11_beginPart 10 = .ok (.aload_n 0, 1) := by decide +kernel
theorem dX11_beginPart_11 : decode cX11_beginPart 11 = .ok (.iconst 2, 1) := by decide +kernel
theorem dX11_beginPart_12 : decode cX11_beginPart 12 = .ok (.aload_n 0, 1) := by decide +kernel
theorem dX11_beginPart_13 : decode cX11_beginPart 13 = .ok (.getfield 16, 3) := by decide +kernel
theorem dX11_beginPart_16 : decode cX11_beginPart 16 = .ok (.aload_n 0, 1) := by decide +kernel
theorem dX11_beginPart_17 : decode cX11_beginPart 17 = .ok (.getfield 366, 3) := by decide +kernel
theorem dX11_beginPart_20 : decode cX11_beginPart 20 = .ok (.iaload, 1) := by decide +kernel
theorem dX11_beginPart_21 : decode cX11_beginPart 21 = .ok (.invokevirtual 369, 3) := by decide +kernel
theorem dX11_beginPart_24 : decode cX11_beginPart 24 = .ok (.iconst (-1), 1) := by decide +kernel
theorem dX11_beginPart_25 : decode cX11_beginPart 25 = .ok (.ireturn, 1) := by decide +kernel
theorem dX11_beginPart_26 : decode cX11_beginPart 26 = .ok (.iload_n 2, 1) := by decide +kernel
theorem dX11_beginPart_27 : decode cX11_beginPart 27 = .ok (.bipush 15, 2) := by decide +kernel
theorem dX11_beginPart_29 : decode cX11_beginPart 29 = .ok (.if_icmp .ne 36, 3) := by decide +kernel
theorem dX11_beginPart_32 : decode cX11_beginPart 32 = .ok (.aload_n 0, 1) := by decide +kernel
theorem dX11_beginPart_33 : decode cX11_beginPart 33 = .ok (.aload_n 0, 1) := by decide +kernel
theorem dX11_beginPart_34 : decode cX11_beginPart 34 = .ok (.getfield 19, 3) := by decide +kernel
theorem dX11_beginPart_37 : decode cX11_beginPart 37 = .ok (.aload_n 0, 1) := by decide +kernel
theorem dX11_beginPart_38 : decode cX11_beginPart 38 = .ok (.getfield 366, 3) := by decide +kernel
theorem dX11_beginPart_41 : decode cX11_beginPart 41 = .ok (.laload, 1) := by decide +kernel
theorem dX11_beginPart_42 : decode cX11_beginPart 42 = .ok (.invokevirtual 475, 3) := by decide +kernel
theorem dX11_beginPart_45 : decode cX11_beginPart 45 = .ok (.iconst (-1), 1) := by decide +kernel
theorem dX11_beginPart_46 : decode cX11_beginPart 46 = .ok (.if_icmp .ne 19, 3) := by decide +kernel
theorem dX11_beginPart_49 : decode cX11_beginPart 49 = .ok (.aload_n 0, 1) := by decide +kernel
theorem dX11_beginPart_50 : decode cX11_beginPart 50 = .ok (.iconst 4, 1) := by decide +kernel
theorem dX11_beginPart_51 : decode cX11_beginPart 51 = .ok (.aload_n 0, 1) := by decide +kernel
theorem dX11_beginPart_52 : decode cX11_beginPart 52 = .ok (.getfield 16, 3) := by decide +kernel
theorem dX11_beginPart_55 : decode cX11_beginPart 55 = .ok (.aload_n 0, 1) := by decide +kernel
theorem dX11_beginPart_56 : decode cX11_beginPart 56 = .ok (.getfield 366, 3) := by decide +kernel
theorem dX11_beginPart_59 : decode cX11_beginPart 59 = .ok (.iaload, 1) := by decide +kernel
theorem dX11_beginPart_60 : decode cX11_beginPart 60 = .ok (.invokevirtual 369, 3) := by decide +kernel
theorem dX11_beginPart_63 : decode cX11_beginPart 63 = .ok (.iconst (-1), 1) := by decide +kernel
theorem dX11_beginPart_64 : decode cX11_beginPart 64 = .ok (.ireturn, 1) := by decide +kernel
theorem dX11_beginPart_65 : decode cX11_beginPart 65 = .ok (.aload_n 0, 1) := by decide +kernel
theorem dX11_beginPart_66 : decode cX11_beginPart 66 = .ok (.getfield 84, 3) := by decide +kernel
theorem dX11_beginPart_69 : decode cX11_beginPart 69 = .ok (.aload_n 0, 1) := by decide +kernel
theorem dX11_beginPart_70 : decode cX11_beginPart 70 = .ok (.getfield 450, 3) := by decide +kernel
theorem dX11_beginPart_73 : decode cX11_beginPart 73 = .ok (.iaload, 1) := by decide +kernel
theorem dX11_beginPart_74 : decode cX11_beginPart 74 = .ok (.bipush 40, 2) := by decide +kernel
theorem dX11_beginPart_76 : decode cX11_beginPart 76 = .ok (.if_icmp .eq 38, 3) := by decide +kernel
theorem dX11_beginPart_79 : decode cX11_beginPart 79 = .ok (.aload_n 0, 1) := by decide +kernel
theorem dX11_beginPart_80 : decode cX11_beginPart 80 = .ok (.getfield 87, 3) := by decide +kernel
theorem dX11_beginPart_83 : decode cX11_beginPart 83 = .ok (.aload_n 0, 1) := by decide +kernel
theorem dX11_beginPart_84 : decode cX11_beginPart 84 = .ok (.getfield 450, 3) := by decide +kernel
theorem dX11_beginPart_87 : decode cX11_beginPart 87 = .ok (.iaload, 1) := by decide +kernel
theorem dX11_beginPart_88 : decode cX11_beginPart 88 = .ok (.iload_n 2, 1) := by decide +kernel
theorem dX11_beginPart_89 : decode cX11_beginPart 89 = .ok (.invokestatic 570, 3) := by decide +kernel
theorem dX11_beginPart_92 : decode cX11_beginPart 92 = .ok (.iadd, 1) := by decide +kernel
theorem dX11_beginPart_93 : decode cX11_beginPart 93 = .ok (.bipush 24, 2) := by decide +kernel
theorem dX11_beginPart_95 : decode cX11_beginPart 95 = .ok (.if_icmp .gt 19, 3) := by decide +kernel
theorem dX11_beginPart_98 : decode cX11_beginPart 98 = .ok (.iload_n 2, 1) := by decide +kernel
theorem dX11_beginPart_99 : decode cX11_beginPart 99 = .ok (.invokestatic 573, 3) := by decide +kernel
theorem dX11_beginPart_102 : decode cX11_beginPart 102 = .ok (.ifCond .eq 29, 3) := by decide +kernel
theorem dX11_beginPart_105 : decode cX11_beginPart 105 = .ok (.aload_n 0, 1) := by decide +kernel
theorem dX11_beginPart_106 : decode cX11_beginPart 106 = .ok (.getfield 486, 3) := by decide +kernel
theorem dX11_beginPart_109 : decode cX11_beginPart 109 = .ok (.bipush 15, 2) := by decide +kernel
theorem dX11_beginPart_111 : decode cX11_beginPart 111 = .ok (.if_icmp .ne 20, 3) := by decide +kernel
theorem dX11_beginPart_114 : decode cX11_beginPart 114 = .ok (.aload_n 0, 1) := by decide +kernel
theorem dX11_beginPart_115 : decode cX11_beginPart 115 = .ok (.bipush 6, 2) := by decide +kernel
theorem dX11_beginPart_117 : decode cX11_beginPart 117 = .ok (.aload_n 0, 1) := by decide +kernel
theorem dX11_beginPart_118 : decode cX11_beginPart 118 = .ok (.getfield 16, 3) := by decide +kernel
theorem dX11_beginPart_121 : decode cX11_beginPart 121 = .ok (.aload_n 0, 1) := by decide +kernel
theorem dX11_beginPart_122 : decode cX11_beginPart 122 = .ok (.getfield 366, 3) := by decide +kernel
theorem dX11_beginPart_125 : decode cX11_beginPart 125 = .ok (.iaload, 1) := by decide +kernel
theorem dX11_beginPart_126 : decode cX11_beginPart 126 = .ok (.invokevirtual 369, 3) := by decide +kernel
theorem dX11_beginPart_129 : decode cX11_beginPart 129 = .ok (.iconst (-1), 1) := by decide +kernel
theorem dX11_beginPart_130 : decode cX11_beginPart 130 = .ok (.ireturn, 1) := by decide +kernel
theorem dX11_beginPart_131 : decode cX11_beginPart 131 = .ok (.bipush 40, 2) := by decide +kernel
theorem dX11_beginPart_133 : decode cX11_beginPart 133 = .ok (.aload_n 0, 1) := by decide +kernel
theorem dX11_beginPart_134 : decode cX11_beginPart 134 = .ok (.getfield 450, 3) := by decide +kernel
theorem dX11_beginPart_137 : decode cX11_beginPart 137 = .ok (.imul, 1) := by decide +kernel
theorem dX11_beginPart_138 : decode cX11_beginPart 138 = .ok (.aload_n 0, 1) := by decide +kernel
theorem dX11_beginPart_139 : decode cX11_beginPart 139 = .ok (.getfield 84, 3) := by decide +kernel
theorem dX11_beginPart_142 : decode cX11_beginPart 142 = .ok (.aload_n 0, 1) := by decide +kernel
theorem dX11_beginPart_143 : decode cX11_beginPart 143 = .ok (.getfield 450, 3) := by decide +kernel
theorem dX11_beginPart_146 : decode cX11_beginPart 146 = .ok (.iaload, 1) := by decide +kernel
theorem dX11_beginPart_147 : decode cX11_beginPart 147 = .ok (.iadd, 1) := by decide +kernel
theorem dX11_beginPart_148 : decode cX11_beginPart 148 = .ok (.istore_n 3, 1) := by decide +kernel
theorem dX11_beginPart_149 : decode cX11_beginPart 149 = .ok (.aload_n 0, 1) := by decide +kernel
theorem dX11_beginPart_150 : decode cX11_beginPart 150 = .ok (.getfield 84, 3) := by decide +kernel
theorem dX11_beginPart_153 : decode cX11_beginPart 153 = .ok (.aload_n 0, 1) := by decide +kernel
theorem dX11_beginPart_154 : decode cX11_beginPart 154 = .ok (.getfield 450, 3) := by decide +kernel
theorem dX11_beginPart_157 : decode cX11_beginPart 157 = .ok (.dup2, 1) := by decide +kernel
theorem dX11_beginPart_158 : decode cX11_beginPart 158 = .ok (.iaload, 1) := by decide +kernel
theorem dX11_beginPart_159 : decode cX11_beginPart 159 = .ok (.iconst 1, 1) := by decide +kernel
theorem dX11_beginPart_160 : decode cX11_beginPart 160 = .ok (.iadd, 1) := by decide +kernel
theorem dX11_beginPart_161 : decode cX11_beginPart 161 = .ok (.iastore, 1) := by decide +kernel
theorem dX11_beginPart_162 : decode cX11_beginPart 162 = .ok (.aload_n 0, 1) := by decide +kernel
theorem dX11_beginPart_163 : decode cX11_beginPart 163 = .ok (.getfield 87, 3) := by decide +kernel
theorem dX11_beginPart_166 : decode cX11_beginPart 166 = .ok (.aload_n 0, 1) := by decide +kernel
theorem dX11_beginPart_167 : decode cX11_beginPart 167 = .ok (.getfield 450, 3) := by decide +kernel
theorem dX11_beginPart_170 : decode cX11_beginPart 170 = .ok (.dup2, 1) := by decide +kernel
theorem dX11_beginPart_171 : decode cX11_beginPart 171 = .ok (.iaload, 1) := by decide +kernel
theorem dX11_beginPart_172 : decode cX11_beginPart 172 = .ok (.iload_n 2, 1) := by decide +kernel
theorem dX11_beginPart_173 : decode cX11_beginPart 173 = .ok (.invokestatic 570, 3) := by decide +kernel
theorem dX11_beginPart_176 : decode cX11_beginPart 176 = .ok (.iadd, 1) := by decide +kernel
theorem dX11_beginPart_177 : decode cX11_beginPart 177 = .ok (.iastore, 1) := by decide +kernel
theorem dX11_beginPart_178 : decode cX11_beginPart 178 = .ok (.aload_n 0, 1) := by decide +kernel
theorem dX11_beginPart_179 : decode cX11_beginPart 179 = .ok (.getfield 90, 3) := by decide +kernel
theorem dX11_beginPart_182 : decode cX11_beginPart 182 = .ok (.aload_n 0, 1) := by decide +kernel
theorem dX11_beginPart_183 : decode cX11_beginPart 183 = .ok (.getfield 450, 3) := by decide +kernel
theorem dX11_beginPart_186 : decode cX11_beginPart 186 = .ok (.dup2, 1) := by decide +kernel
theorem dX11_beginPart_187 : decode cX11_beginPart 187 = .ok (.iaload, 1) := by decide +kernel
theorem dX11_beginPart_188 : decode cX11_beginPart 188 = .ok (.iload_n 2, 1) := by decide +kernel
theorem dX11_beginPart_189 : decode cX11_beginPart 189 = .ok (.bipush 14, 2) := by decide +kernel
theorem dX11_beginPart_191 : decode cX11_beginPart 191 = .ok (.if_icmp .ne 7, 3) := by decide +kernel
theorem dX11_beginPart_194 : decode cX11_beginPart 194 = .ok (.iconst 1, 1) := by decide +kernel
theorem dX11_beginPart_195 : decode cX11_beginPart 195 = .ok (.goto 4, 3) := by decide +kernel
theorem dX11_beginPart_198 : decode cX11_beginPart 198 = .ok (.iconst 0, 1) := by decide +kernel
theorem dX11_beginPart_199 : decode cX11_beginPart 199 = .ok (.iadd, 1) := by decide +kernel
theorem dX11_beginPart_200 : decode cX11_beginPart 200 = .ok (.iastore, 1) := by decide +kernel
theorem dX11_beginPart_201 : decode cX11_beginPart 201 = .ok (.aload_n 0, 1) := by decide +kernel
theorem dX11_beginPart_202 : decode cX11_beginPart 202 = .ok (.dup, 1) := by decide +kernel
theorem dX11_beginPart_203 : decode cX11_beginPart 203 = .ok (.getfield 486, 3) := by decide +kernel
theorem dX11_beginPart_206 : decode cX11_beginPart 206 = .ok (.iload_n 2, 1) := by decide +kernel
theorem dX11_beginPart_207 : decode cX11_beginPart 207 = .ok (.invokestatic 573, 3) := by decide +kernel
theorem dX11_beginPart_210 : decode cX11_beginPart 210 = .ok (.ifCond .eq 7, 3) := by decide +kernel
theorem dX11_beginPart_213 : decode cX11_beginPart 213 = .ok (.iconst 1, 1) := by decide +kernel
theorem dX11_beginPart_214 : decode cX11_beginPart 214 = .ok (.goto 4, 3) := by decide +kernel
theorem dX11_beginPart_217 : decode cX11_beginPart 217 = .ok (.iconst 0, 1) := by decide +kernel
theorem dX11_beginPart_218 : decode cX11_beginPart 218 = .ok (.iadd, 1) := by decide +kernel
theorem dX11_beginPart_219 : decode cX11_beginPart 219 = .ok (.putfield 486, 3) := by decide +kernel
theorem dX11_beginPart_222 : decode cX11_beginPart 222 = .ok (.aload_n 0, 1) := by decide +kernel
theorem dX11_beginPart_223 : decode cX11_beginPart 223 = .ok (.getfield 93, 3) := by decide +kernel
theorem dX11_beginPart_226 : decode cX11_beginPart 226 = .ok (.aload_n 0, 1) := by decide +kernel
theorem dX11_beginPart_227 : decode cX11_beginPart 227 = .ok (.getfield 450, 3) := by decide +kernel
theorem dX11_beginPart_230 : decode cX11_beginPart 230 = .ok (.aload_n 0, 1) := by decide +kernel
theorem dX11_beginPart_231 : decode cX11_beginPart 231 = .ok (.getfield 576, 3) := by decide +kernel
theorem dX11_beginPart_234 : decode cX11_beginPart 234 = .ok (.iconst 1, 1) := by decide +kernel
theorem dX11_beginPart_235 : decode cX11_beginPart 235 = .ok (.iadd, 1) := by decide +kernel
theorem dX11_beginPart_236 : decode cX11_beginPart 236 = .ok (.aload_n 0, 1) := by decide +kernel
theorem dX11_beginPart_237 : decode cX11_beginPart 237 = .ok (.getfield 93, 3) := by decide +kernel
theorem dX11_beginPart_240 : decode cX11_beginPart 240 = .ok (.aload_n 0, 1) := by decide +kernel
theorem dX11_beginPart_241 : decode cX11_beginPart 241 = .ok (.getfield 450, 3) := by decide +kernel
theorem dX11_beginPart_244 : decode cX11_beginPart 244 = .ok (.iaload, 1) := by decide +kernel
theorem dX11_beginPart_245 : decode cX11_beginPart 245 = .ok (.if_icmp .le 12, 3) := by decide +kernel
theorem dX11_beginPart_248 : decode cX11_beginPart 248 = .ok (.aload_n 0, 1) := by decide +kernel
theorem dX11_beginPart_249 : decode cX11_beginPart 249 = .ok (.getfield 576, 3) := by decide +kernel
theorem dX11_beginPart_252 : decode cX11_beginPart 252 = .ok (.iconst 1, 1) := by decide +kernel
theorem dX11_beginPart_253 : decode cX11_beginPart 253 = .ok (.iadd, 1) := by decide +kernel
theorem dX11_beginPart_254 : decode cX11_beginPart 254 = .ok (.goto 12, 3) := by decide +kernel
theorem dX11_beginPart_257 : decode cX11_beginPart 257 = .ok (.aload_n 0, 1) := by decide +kernel
theorem dX11_beginPart_258 : decode cX11_beginPart 258 = .ok (.getfield 93, 3) := by decide +kernel
theorem dX11_beginPart_261 : decode cX11_beginPart 261 = .ok (.aload_n 0, 1) := by decide +kernel
theorem dX11_beginPart_262 : decode cX11_beginPart 262 = .ok (.getfield 450, 3) := by decide +kernel
theorem dX11_beginPart_265 : decode cX11_beginPart 265 = .ok (.iaload, 1) := by decide +kernel
theorem dX11_beginPart_266 : decode cX11_beginPart 266 = .ok (.iastore, 1) := by decide +kernel
theorem dX11_beginPart_267 : decode cX11_beginPart 267 = .ok (.aload_n 0, 1) := by decide +kernel
theorem dX11_beginPart_268 : decode cX11_beginPart 268 = .ok (.getfield 96, 3) := by decide +kernel
theorem dX11_beginPart_271 : decode cX11_beginPart 271 = .ok (.iload_n 3, 1) := by decide +kernel
theorem dX11_beginPart_272 : decode cX11_beginPart 272 = .ok (.iload_n 2, 1) := by decide +kernel
theorem dX11_beginPart_273 : decode cX11_beginPart 273 = .ok (.iastore, 1) := by decide +kernel
theorem dX11_beginPart_274 : decode cX11_beginPart 274 = .ok (.aload_n 0, 1) := by decide +kernel
theorem dX11_beginPart_275 : decode cX11_beginPart 275 = .ok (.getfield 99, 3) := by decide +kernel
theorem dX11_beginPart_278 : decode cX11_beginPart 278 = .ok (.iload_n 3, 1) := by decide +kernel
theorem dX11_beginPart_279 : decode cX11_beginPart 279 = .ok (.aload_n 0, 1) := by decide +kernel
theorem dX11_beginPart_280 : decode cX11_beginPart 280 = .ok (.getfield 16, 3) := by decide +kernel
theorem dX11_beginPart_283 : decode cX11_beginPart 283 = .ok (.aload_n 0, 1) := by decide +kernel
theorem dX11_beginPart_284 : decode cX11_beginPart 284 = .ok (.getfield 366, 3) := by decide +kernel
theorem dX11_beginPart_287 : decode cX11_beginPart 287 = .ok (.iaload, 1) := by decide +kernel
theorem dX11_beginPart_288 : decode cX11_beginPart 288 = .ok (.iastore, 1) := by decide +kernel
theorem dX11_beginPart_289 : decode cX11_beginPart 289 = .ok (.aload_n 0, 1) := by decide +kernel
theorem dX11_beginPart_290 : decode cX11_beginPart 290 = .ok (.getfield 102, 3) := by decide +kernel
theorem dX11_beginPart_293 : decode cX11_beginPart 293 = .ok (.iload_n 3, 1) := by decide +kernel
theorem dX11_beginPart_294 : decode cX11_beginPart 294 = .ok (.iload_n 2, 1) := by decide +kernel
theorem dX11_beginPart_295 : decode cX11_beginPart 295 = .ok (.bipush 15, 2) := by decide +kernel
theorem dX11_beginPart_297 : decode cX11_beginPart 297 = .ok (.if_icmp .ne 19, 3) := by decide +kernel
theorem dX11_beginPart_300 : decode cX11_beginPart 300 = .ok (.aload_n 0, 1) := by decide +kernel
theorem dX11_beginPart_301 : decode cX11_beginPart 301 = .ok (.aload_n 0, 1) := by decide +kernel
theorem dX11_beginPart_302 : decode cX11_beginPart 302 = .ok (.getfield 19, 3) := by decide +kernel
theorem dX11_beginPart_305 : decode cX11_beginPart 305 = .ok (.aload_n 0, 1) := by decide +kernel
theorem dX11_beginPart_306 : decode cX11_beginPart 306 = .ok (.getfield 366, 3) := by decide +kernel
theorem dX11_beginPart_309 : decode cX11_beginPart 309 = .ok (.laload, 1) := by decide +kernel
theorem dX11_beginPart_310 : decode cX11_beginPart 310 = .ok (.invokevirtual 475, 3) := by decide +kernel
theorem dX11_beginPart_313 : decode cX11_beginPart 313 = .ok (.goto 4, 3) := by decide +kernel
theorem dX11_beginPart_316 : decode cX11_beginPart 316 = .ok (.iconst (-1), 1) := by decide +kernel
theorem dX11_beginPart_317 : decode cX11_beginPart 317 = .ok (.iastore, 1) := by decide +kernel
theorem dX11_beginPart_318 : decode cX11_beginPart 318 = .ok (.aload_n 0, 1) := by decide +kernel
theorem dX11_beginPart_319 : decode cX11_beginPart 319 = .ok (.getfield 105, 3) := by decide +kernel
theorem dX11_beginPart_322 : decode cX11_beginPart 322 = .ok (.iload_n 3, 1) := by decide +kernel
theorem dX11_beginPart_323 : decode cX11_beginPart 323 = .ok (.iconst 0, 1) := by decide +kernel
theorem dX11_beginPart_324 : decode cX11_beginPart 324 = .ok (.bastore, 1) := by decide +kernel
theorem dX11_beginPart_325 : decode cX11_beginPart 325 = .ok (.aload_n 0, 1) := by decide +kernel
theorem dX11_beginPart_326 : decode cX11_beginPart 326 = .ok (.getfield 111, 3) := by decide +kernel
theorem dX11_beginPart_329 : decode cX11_beginPart 329 = .ok (.iload_n 3, 1) := by decide +kernel
theorem dX11_beginPart_330 : decode cX11_beginPart 330 = .ok (.iconst (-1), 1) := by decide +kernel
theorem dX11_beginPart_331 : decode cX11_beginPart 331 = .ok (.iastore, 1) := by decide +kernel
theorem dX11_beginPart_332 : decode cX11_beginPart 332 = .ok (.aload_n 0, 1) := by decide +kernel
theorem dX11_beginPart_333 : decode cX11_beginPart 333 = .ok (.getfield 117, 3) := by decide +kernel
theorem dX11_beginPart_336 : decode cX11_beginPart 336 = .ok (.iload_n 3, 1) := by decide +kernel
theorem dX11_beginPart_337 : decode cX11_beginPart 337 = .ok (.iconst (-1), 1) := by decide +kernel
theorem dX11_beginPart_338 : decode cX11_beginPart 338 = .ok (.iastore, 1) := by decide +kernel
theorem dX11_beginPart_339 : decode cX11_beginPart 339 = .ok (.aload_n 0, 1) := by decide +kernel
theorem dX11_beginPart_340 : decode cX11_beginPart 340 = .ok (.getfield 123, 3) := by decide +kernel
theorem dX11_beginPart_343 : decode cX11_beginPart 343 = .ok (.iload_n 3, 1) := by decide +kernel
theorem dX11_beginPart_344 : decode cX11_beginPart 344 = .ok (.iconst (-1), 1) := by decide +kernel
theorem dX11_beginPart_345 : decode cX11_beginPart 345 = .ok (.iastore, 1) := by decide +kernel
theorem dX11_beginPart_346 : decode cX11_beginPart 346 = .ok (.aload_n 0, 1) := by decide +kernel
theorem dX11_beginPart_347 : decode cX11_beginPart 347 = .ok (.getfield 129, 3) := by decide +kernel
theorem dX11_beginPart_350 : decode cX11_beginPart 350 = .ok (.iload_n 3, 1) := by decide +kernel
theorem dX11_beginPart_351 : decode cX11_beginPart 351 = .ok (.iconst (-1), 1) := by decide +kernel
theorem dX11_beginPart_352 : decode cX11_beginPart 352 = .ok (.iastore, 1) := by decide +kernel
theorem dX11_beginPart_353 : decode cX11_beginPart 353 = .ok (.aload_n 0, 1) := by decide +kernel
theorem dX11_beginPart_354 : decode cX11_beginPart 354 = .ok (.getfield 132, 3) := by decide +kernel
theorem dX11_beginPart_357 : decode cX11_beginPart 357 = .ok (.iload_n 3, 1) := by decide +kernel
theorem dX11_beginPart_358 : decode cX11_beginPart 358 = .ok (.iconst (-1), 1) := by decide +kernel
theorem dX11_beginPart_359 : decode cX11_beginPart 359 = .ok (.iastore, 1) := by decide +kernel
theorem dX11_beginPart_360 : decode cX11_beginPart 360 = .ok (.aload_n 0, 1) := by decide +kernel
theorem dX11_beginPart_361 : decode cX11_beginPart 361 = .ok (.getfield 141, 3) := by decide +kernel
theorem dX11_beginPart_364 : decode cX11_beginPart 364 = .ok (.iload_n 1, 1) := by decide +kernel
theorem dX11_beginPart_365 : decode cX11_beginPart 365 = .ok (.iaload, 1) := by decide +kernel
theorem dX11_beginPart_366 : decode cX11_beginPart 366 = .ok (.iconst (-1), 1) := by decide +kernel
theorem dX11_beginPart_367 : decode cX11_beginPart 367 = .ok (.if_icmp .ne 13, 3) := by decide +kernel
theorem dX11_beginPart_370 : decode cX11_beginPart 370 = .ok (.aload_n 0, 1) := by decide +kernel
theorem dX11_beginPart_371 : decode cX11_beginPart 371 = .ok (.getfield 141, 3) := by decide +kernel
theorem dX11_beginPart_374 : decode cX11_beginPart 374 = .ok (.iload_n 1, 1) := by decide +kernel
theorem dX11_beginPart_375 : decode cX11_beginPart 375 = .ok (.iload_n 3, 1) := by decide +kernel
theorem dX11_beginPart_376 : decode cX11_beginPart 376 = .ok (.iastore, 1) := by decide +kernel
theorem dX11_beginPart_377 : decode cX11_beginPart 377 = .ok (.goto 15, 3) := by decide +kernel
theorem dX11_beginPart_380 : decode cX11_beginPart 380 = .ok (.aload_n 0, 1) := by decide +kernel
theorem dX11_beginPart_381 : decode cX11_beginPart 381 = .ok (.getfield 132, 3) := by decide +kernel
theorem dX11_beginPart_384 : decode cX11_beginPart 384 = .ok (.aload_n 0, 1) := by decide +kernel
theorem dX11_beginPart_385 : decode cX11_beginPart 385 = .ok (.getfield 144, 3) := by decide +kernel
theorem dX11_beginPart_388 : decode cX11_beginPart 388 = .ok (.iload_n 1, 1) := by decide +kernel
theorem dX11_beginPart_389 : decode cX11_beginPart 389 = .ok (.iaload, 1) := by decide +kernel
theorem dX11_beginPart_390 : decode cX11_beginPart 390 = .ok (.iload_n 3, 1) := by decide +kernel
theorem dX11_beginPart_391 : decode cX11_beginPart 391 = .ok (.iastore, 1) := by decide +kernel
theorem dX11_beginPart_392 : decode cX11_beginPart 392 = .ok (.aload_n 0, 1) := by decide +kernel
theorem dX11_beginPart_393 : decode cX11_beginPart 393 = .ok (.getfield 144, 3) := by decide +kernel
theorem dX11_beginPart_396 : decode cX11_beginPart 396 = .ok (.iload_n 1, 1) := by decide +kernel
theorem dX11_beginPart_397 : decode cX11_beginPart 397 = .ok (.iload_n 3, 1) := by decide +kernel
theorem dX11_beginPart_398 : decode cX11_beginPart 398 = .ok (.iastore, 1) := by decide +kernel
theorem dX11_beginPart_399 : decode cX11_beginPart 399 = .ok (.aload_n 0, 1) := by decide +kernel
theorem dX11_beginPart_400 : decode cX11_beginPart 400 = .ok (.invokevirtual 377, 3) := by decide +kernel
theorem dX11_beginPart_403 : decode cX11_beginPart 403 = .ok (.iload_n 3, 1) := by decide +kernel
theorem dX11_beginPart_404 : decode cX11_beginPart 404 = .ok (.ireturn, 1) := by decide +kernel
theorem dX11_condOf_0 : decode cX11_condOf 0 = .ok (.aload_n 0, 1) := by decide +kernel
theorem dX11_condOf_1 : decode cX11_condOf 1 = .ok (.getfield 360, 3) := by decide +kernel
theorem dX11_condOf_4 : decode cX11_condOf 4 = .ok (.ifCond .ne 37, 3) := by decide +kernel
theorem dX11_condOf_7 : decode cX11_condOf 7 = .ok (.aload_n 0, 1) := by decide +kernel
theorem dX11_condOf_8 : decode cX11_condOf 8 = .ok (.getfield 108, 3) := by decide +kernel
theorem dX11_condOf_11 : decode cX11_condOf 11 = .ok (.iload_n 1, 1) := by decide +kernel
theorem dX11_condOf_12 : decode cX11_condOf 12 = .ok (.sipush 410, 3) := by decide +kernel
theorem dX11_condOf_15 : decode cX11_condOf 15 = .ok (.aload_n 0, 1) := by decide +kernel
theorem dX11_condOf_16 : decode cX11_condOf 16 = .ok (.getfield 450, 3) := by decide +kernel
theorem dX11_condOf_19 : decode cX11_condOf 19 = .ok (.imul, 1) := by decide +kernel
theorem dX11_condOf_20 : decode cX11_condOf 20 = .ok (.aload_n 0, 1) := by decide +kernel
theorem dX11_condOf_21 : decode cX11_condOf 21 = .ok (.getfield 54, 3) := by decide +kernel
theorem dX11_condOf_24 : decode cX11_condOf 24 = .ok (.aload_n 0, 1) := by decide +kernel
theorem dX11_condOf_25 : decode cX11_condOf 25 = .ok (.getfield 450, 3) := by decide +kernel
theorem dX11_condOf_28 : decode cX11_condOf 28 = .ok (.iaload, 1) := by decide +kernel
theorem dX11_condOf_29 : decode cX11_condOf 29 = .ok (.iadd, 1) := by decide +kernel
theorem dX11_condOf_30 : decode cX11_condOf 30 = .ok (.iastore, 1) := by decide +kernel
theorem dX11_condOf_31 : decode cX11_condOf 31 = .ok (.aload_n 0, 1) := by decide +kernel
theorem dX11_condOf_32 : decode cX11_condOf 32 = .ok (.getfield 111, 3) := by decide +kernel
theorem dX11_condOf_35 : decode cX11_condOf 35 = .ok (.iload_n 1, 1) := by decide +kernel
theorem dX11_condOf_36 : decode cX11_condOf 36 = .ok (.aload_n 0, 1) := by decide +kernel
theorem dX11_condOf_37 : decode cX11_condOf 37 = .ok (.invokevirtual 579, 3) := by decide +kernel
theorem dX11_condOf_40 : decode cX11_condOf 40 = .ok (.iastore, 1) := by decide +kernel
theorem dX11_condOf_41 : decode cX11_condOf 41 = .ok (.return_, 1) := by decide +kernel
theorem dX11_atOnceOf_0 : decode cX11_atOnceOf 0 = .ok (.aload_n 0, 1) := by decide +kernel
theorem dX11_atOnceOf_1 : decode cX11_atOnceOf 1 = .ok (.getfield 360, 3) := by decide +kernel
theorem dX11_atOnceOf_4 : decode cX11_atOnceOf 4 = .ok (.ifCond .ne 25, 3) := by decide +kernel
theorem dX11_atOnceOf_7 : decode cX11_atOnceOf 7 = .ok (.aload_n 0, 1) := by decide +kernel
theorem dX11_atOnceOf_8 : decode cX11_atOnceOf 8 = .ok (.iconst 1, 1) := by decide +kernel
theorem dX11_atOnceOf_9 : decode cX11_atOnceOf 9 = .ok (.ldc2_w 430, 3) := by decide +kernel
theorem dX11_atOnceOf_12 : decode cX11_atOnceOf 12 = .ok (.invokevirtual 373, 3) := by decide +kernel
theorem dX11_atOnceOf_15 : decode cX11_atOnceOf 15 = .ok (.ifCond .eq 14, 3) := by decide +kernel
theorem dX11_atOnceOf_18 : decode cX11_atOnceOf 18 = .ok (.aload_n 0, 1) := by decide +kernel
theorem dX11_atOnceOf_19 : decode cX11_atOnceOf 19 = .ok (.getfield 105, 3) := by decide +kernel
theorem dX11_atOnceOf_22 : decode cX11_atOnceOf 22 = .ok (.iload_n 1, 1) := by decide +kernel
theorem dX11_atOnceOf_23 : decode cX11_atOnceOf 23 = .ok (.iconst 1, 1) := by decide +kernel
theorem dX11_atOnceOf_24 : decode cX11_atOnceOf 24 = .ok (.bastore, 1) := by decide +kernel
theorem dX11_atOnceOf_25 : decode cX11_atOnceOf 25 = .ok (.aload_n 0, 1) := by decide +kernel
theorem dX11_atOnceOf_26 : decode cX11_atOnceOf 26 = .ok (.invokevirtual 377, 3) := by decide +kernel
theorem dX11_atOnceOf_29 : decode cX11_atOnceOf 29 = .ok (.aload_n 0, 1) := by decide +kernel
theorem dX11_atOnceOf_30 : decode cX11_atOnceOf 30 = .ok (.iload_n 1, 1) := by decide +kernel
theorem dX11_atOnceOf_31 : decode cX11_atOnceOf 31 = .ok (.invokevirtual 582, 3) := by decide +kernel
theorem dX11_atOnceOf_34 : decode cX11_atOnceOf 34 = .ok (.return_, 1) := by decide +kernel
theorem dX11_sumOf_0 : decode cX11_sumOf 0 = .ok (.aload_n 0, 1) := by decide +kernel
theorem dX11_sumOf_1 : decode cX11_sumOf 1 = .ok (.getfield 360, 3) := by decide +kernel
theorem dX11_sumOf_4 : decode cX11_sumOf 4 = .ok (.ifCond .ne 65, 3) := by decide +kernel
theorem dX11_sumOf_7 : decode cX11_sumOf 7 = .ok (.sipush 810, 3) := by decide +kernel
theorem dX11_sumOf_10 : decode cX11_sumOf 10 = .ok (.aload_n 0, 1) := by decide +kernel
theorem dX11_sumOf_11 : decode cX11_sumOf 11 = .ok (.getfield 450, 3) := by decide +kernel
theorem dX11_sumOf_14 : decode cX11_sumOf 14 = .ok (.imul, 1) := by decide +kernel
theorem dX11_sumOf_15 : decode cX11_sumOf 15 = .ok (.aload_n 0, 1) := by decide +kernel
theorem dX11_sumOf_16 : decode cX11_sumOf 16 = .ok (.getfield 66, 3) := by decide +kernel
theorem dX11_sumOf_19 : decode cX11_sumOf 19 = .ok (.aload_n 0, 1) := by decide +kernel
theorem dX11_sumOf_20 : decode cX11_sumOf 20 = .ok (.getfield 450, 3) := by decide +kernel
theorem dX11_sumOf_23 : decode cX11_sumOf 23 = .ok (.iaload, 1) := by decide +kernel
theorem dX11_sumOf_24 : decode cX11_sumOf 24 = .ok (.iadd, 1) := by decide +kernel
theorem dX11_sumOf_25 : decode cX11_sumOf 25 = .ok (.istore_n 3, 1) := by decide +kernel
theorem dX11_sumOf_26 : decode cX11_sumOf 26 = .ok (.aload_n 0, 1) := by decide +kernel
theorem dX11_sumOf_27 : decode cX11_sumOf 27 = .ok (.invokevirtual 585, 3) := by decide +kernel
theorem dX11_sumOf_30 : decode cX11_sumOf 30 = .ok (.istore 4, 2) := by decide +kernel
theorem dX11_sumOf_32 : decode cX11_sumOf 32 = .ok (.iload_n 2, 1) := by decide +kernel
theorem dX11_sumOf_33 : decode cX11_sumOf 33 = .ok (.ifCond .eq 21, 3) := by decide +kernel
theorem dX11_sumOf_36 : decode cX11_sumOf 36 = .ok (.aload_n 0, 1) := by decide +kernel
theorem dX11_sumOf_37 : decode cX11_sumOf 37 = .ok (.getfield 120, 3) := by decide +kernel
theorem dX11_sumOf_40 : decode cX11_sumOf 40 = .ok (.iload_n 1, 1) := by decide +kernel
theorem dX11_sumOf_41 : decode cX11_sumOf 41 = .ok (.iload_n 3, 1) := by decide +kernel
theorem dX11_sumOf_42 : decode cX11_sumOf 42 = .ok (.iastore, 1) := by decide +kernel
theorem dX11_sumOf_43 : decode cX11_sumOf 43 = .ok (.aload_n 0, 1) := by decide +kernel
theorem dX11_sumOf_44 : decode cX11_sumOf 44 = .ok (.getfield 123, 3) := by decide +kernel
theorem dX11_sumOf_47 : decode cX11_sumOf 47 = .ok (.iload_n 1, 1) := by decide +kernel
theorem dX11_sumOf_48 : decode cX11_sumOf 48 = .ok (.iload 4, 2) := by decide +kernel
theorem dX11_sumOf_50 : decode cX11_sumOf 50 = .ok (.iastore, 1) := by decide +kernel
theorem dX11_sumOf_51 : decode cX11_sumOf 51 = .ok (.goto 18, 3) := by decide +kernel
theorem dX11_sumOf_54 : decode cX11_sumOf 54 = .ok (.aload_n 0, 1) := by decide +kernel
theorem dX11_sumOf_55 : decode cX11_sumOf 55 = .ok (.getfield 114, 3) := by decide +kernel
theorem dX11_sumOf_58 : decode cX11_sumOf 58 = .ok (.iload_n 1, 1) := by decide +kernel
theorem dX11_sumOf_59 : decode cX11_sumOf 59 = .ok (.iload_n 3, 1) := by decide +kernel
theorem dX11_sumOf_60 : decode cX11_sumOf 60 = .ok (.iastore, 1) := by decide +kernel
theorem dX11_sumOf_61 : decode cX11_sumOf 61 = .ok (.aload_n 0, 1) := by decide +kernel
theorem dX11_sumOf_62 : decode cX11_sumOf 62 = .ok (.getfield 117, 3) := by decide +kernel
theorem dX11_sumOf_65 : decode cX11_sumOf 65 = .ok (.iload_n 1, 1) := by decide +kernel
theorem dX11_sumOf_66 : decode cX11_sumOf 66 = .ok (.iload 4, 2) := by decide +kernel
theorem dX11_sumOf_68 : decode cX11_sumOf 68 = .ok (.iastore, 1) := by decide +kernel
theorem dX11_sumOf_69 : decode cX11_sumOf 69 = .ok (.return_, 1) := by decide +kernel
theorem dX11_emitOf_0 : decode cX11_emitOf 0 = .ok (.aload_n 0, 1) := by decide +kernel
theorem dX11_emitOf_1 : decode cX11_emitOf 1 = .ok (.invokevirtual 468, 3) := by decide +kernel
theorem dX11_emitOf_4 : decode cX11_emitOf 4 = .ok (.ifCond .eq 19, 3) := by decide +kernel
theorem dX11_emitOf_7 : decode cX11_emitOf 7 = .ok (.aload_n 0, 1) := by decide +kernel
theorem dX11_emitOf_8 : decode cX11_emitOf 8 = .ok (.aload_n 0, 1) := by decide +kernel
theorem dX11_emitOf_9 : decode cX11_emitOf 9 = .ok (.getfield 19, 3) := by decide +kernel
theorem dX11_emitOf_12 : decode cX11_emitOf 12 = .ok (.aload_n 0, 1) := by decide +kernel
theorem dX11_emitOf_13 : decode cX11_emitOf 13 = .ok (.getfield 366, 3) := by decide +kernel
theorem dX11_emitOf_16 : decode cX11_emitOf 16 = .ok (.laload, 1) := by decide +kernel
theorem dX11_emitOf_17 : decode cX11_emitOf 17 = .ok (.invokevirtual 471, 3) := by decide +kernel
theorem dX11_emitOf_20 : decode cX11_emitOf 20 = .ok (.goto 4, 3) := by decide +kernel
theorem dX11_emitOf_23 : decode cX11_emitOf 23 = .ok (.iconst (-1), 1) := by decide +kernel
theorem dX11_emitOf_24 : decode cX11_emitOf 24 = .ok (.istore_n 2, 1) := by decide +kernel
theorem dX11_emitOf_25 : decode cX11_emitOf 25 = .ok (.aload_n 0, 1) := by decide +kernel
theorem dX11_emitOf_26 : decode cX11_emitOf 26 = .ok (.getfield 16, 3) := by decide +kernel
theorem dX11_emitOf_29 : decode cX11_emitOf 29 = .ok (.aload_n 0, 1) := by decide +kernel
theorem dX11_emitOf_30 : decode cX11_emitOf 30 = .ok (.getfield 366, 3) := by decide +kernel
theorem dX11_emitOf_33 : decode cX11_emitOf 33 = .ok (.iaload, 1) := by decide +kernel
theorem dX11_emitOf_34 : decode cX11_emitOf 34 = .ok (.istore_n 3, 1) := by decide +kernel
theorem dX11_emitOf_35 : decode cX11_emitOf 35 = .ok (.aload_n 0, 1) := by decide +kernel
theorem dX11_emitOf_36 : decode cX11_emitOf 36 = .ok (.invokevirtual 468, 3) := by decide +kernel
theorem dX11_emitOf_39 : decode cX11_emitOf 39 = .ok (.ifCond .ne 12, 3) := by decide +kernel
theorem dX11_emitOf_42 : decode cX11_emitOf 42 = .ok (.aload_n 0, 1) := by decide +kernel
theorem dX11_emitOf_43 : decode cX11_emitOf 43 = .ok (.iconst 2, 1) := by decide +kernel
theorem dX11_emitOf_44 : decode cX11_emitOf 44 = .ok (.iload_n 3, 1) := by decide +kernel
theorem dX11_emitOf_45 : decode cX11_emitOf 45 = .ok (.invokevirtual 369, 3) := by decide +kernel
theorem dX11_emitOf_48 : decode cX11_emitOf 48 = .ok (.goto 31, 3) := by decide +kernel
theorem dX11_emitOf_51 : decode cX11_emitOf 51 = .ok (.iload_n 2, 1) := by decide +kernel
theorem dX11_emitOf_52 : decode cX11_emitOf 52 = .ok (.iconst (-1), 1) := by decide +kernel
theorem dX11_emitOf_53 : decode cX11_emitOf 53 = .ok (.if_icmp .eq 20, 3) := by decide +kernel
theorem dX11_emitOf_56 : decode cX11_emitOf 56 = .ok (.aload_n 0, 1) := by decide +kernel
theorem dX11_emitOf_57 : decode cX11_emitOf 57 = .ok (.getfield 35, 3) := by decide +kernel
theorem dX11_emitOf_60 : decode cX11_emitOf 60 = .ok (.bipush 16, 2) := by decide +kernel
theorem dX11_emitOf_62 : decode cX11_emitOf 62 = .ok (.aload_n 0, 1) := by decide +kernel
theorem dX11_emitOf_63 : decode cX11_emitOf 63 = .ok (.getfield 450, 3) := by decide +kernel
theorem dX11_emitOf_66 : decode cX11_emitOf 66 = .ok (.imul, 1) := by decide +kernel
theorem dX11_emitOf_67 : decode cX11_emitOf 67 = .ok (.iload_n 2, 1) := by decide +kernel
theorem dX11_emitOf_68 : decode cX11_emitOf 68 = .ok (.iadd, 1) := by decide +kernel
theorem dX11_emitOf_69 : decode cX11_emitOf 69 = .ok (.iaload, 1) := by decide +kernel
theorem dX11_emitOf_70 : decode cX11_emitOf 70 = .ok (.ifCond .ne 9, 3) := by decide +kernel
theorem dX11_emitOf_73 : decode cX11_emitOf 73 = .ok (.aload_n 0, 1) := by decide +kernel
theorem dX11_emitOf_74 : decode cX11_emitOf 74 = .ok (.iconst 4, 1) := by decide +kernel
theorem dX11_emitOf_75 : decode cX11_emitOf 75 = .ok (.iload_n 3, 1) := by decide +kernel
theorem dX11_emitOf_76 : decode cX11_emitOf 76 = .ok (.invokevirtual 369, 3) := by decide +kernel
theorem dX11_emitOf_79 : decode cX11_emitOf 79 = .ok (.aload_n 0, 1) := by decide +kernel
theorem dX11_emitOf_80 : decode cX11_emitOf 80 = .ok (.getfield 360, 3) := by decide +kernel
theorem dX11_emitOf_83 : decode cX11_emitOf 83 = .ok (.ifCond .le 4, 3) := by decide +kernel
theorem dX11_emitOf_86 : decode cX11_emitOf 86 = .ok (.return_, 1) := by decide +kernel
theorem dX11_emitOf_87 : decode cX11_emitOf 87 = .ok (.aload_n 0, 1) := by decide +kernel
theorem dX11_emitOf_88 : decode cX11_emitOf 88 = .ok (.getfield 102, 3) := by decide +kernel
theorem dX11_emitOf_91 : decode cX11_emitOf 91 = .ok (.iload_n 1, 1) := by decide +kernel
theorem dX11_emitOf_92 : decode cX11_emitOf 92 = .ok (.iload_n 2, 1) := by decide +kernel
theorem dX11_emitOf_93 : decode cX11_emitOf 93 = .ok (.iastore, 1) := by decide +kernel
theorem dX11_emitOf_94 : decode cX11_emitOf 94 = .ok (.aload_n 0, 1) := by decide +kernel
theorem dX11_emitOf_95 : decode cX11_emitOf 95 = .ok (.getfield 38, 3) := by decide +kernel
theorem dX11_emitOf_98 : decode cX11_emitOf 98 = .ok (.bipush 16, 2) := by decide +kernel
theorem dX11_emitOf_100 : decode cX11_emitOf 100 = .ok (.aload_n 0, 1) := by decide +kernel
theorem dX11_emitOf_101 : decode cX11_emitOf 101 = .ok (.getfield 450, 3) := by decide +kernel
theorem dX11_emitOf_104 : decode cX11_emitOf 104 = .ok (.imul, 1) := by decide +kernel
theorem dX11_emitOf_105 : decode cX11_emitOf 105 = .ok (.iload_n 2, 1) := by decide +kernel
