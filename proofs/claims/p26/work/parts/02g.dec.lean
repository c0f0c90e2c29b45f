theorem dX11_solve_95 : decode cX11_solve 95 = .ok (.iaload, 1) := by decide +kernel
theorem dX11_solve_96 : decode cX11_solve 96 = .ok (.if_icmp .ge 37, 3) := by decide +kernel
theorem dX11_solve_99 : decode cX11_solve 99 = .ok (.aload_n 0, 1) := by decide +kernel
theorem dX11_solve_100 : decode cX11_solve 100 = .ok (.getfield 222, 3) := by decide +kernel
theorem dX11_solve_103 : decode cX11_solve 103 = .ok (.iload_n 2, 1) := by decide +kernel
theorem dX11_solve_104 : decode cX11_solve 104 = .ok (.aload_n 0, 1) := by decide +kernel
theorem dX11_solve_105 : decode cX11_solve 105 = .ok (.getfield 35, 3) := by decide +kernel
theorem dX11_solve_108 : decode cX11_solve 108 = .ok (.bipush 16, 2) := by decide +kernel
theorem dX11_solve_110 : decode cX11_solve 110 = .ok (.aload_n 0, 1) := by decide +kernel
theorem dX11_solve_111 : decode cX11_solve 111 = .ok (.getfield 742, 3) := by decide +kernel
theorem dX11_solve_114 : decode cX11_solve 114 = .ok (.imul, 1) := by decide +kernel
theorem dX11_solve_115 : decode cX11_solve 115 = .ok (.iload_n 2, 1) := by decide +kernel
theorem dX11_solve_116 : decode cX11_solve 116 = .ok (.iadd, 1) := by decide +kernel
theorem dX11_solve_117 : decode cX11_solve 117 = .ok (.iaload, 1) := by decide +kernel
theorem dX11_solve_118 : decode cX11_solve 118 = .ok (.ifCond .le 7, 3) := by decide +kernel
theorem dX11_solve_121 : decode cX11_solve 121 = .ok (.iconst 2, 1) := by decide +kernel
theorem dX11_solve_122 : decode cX11_solve 122 = .ok (.goto 4, 3) := by decide +kernel
theorem dX11_solve_125 : decode cX11_solve 125 = .ok (.iconst 0, 1) := by decide +kernel
theorem dX11_solve_126 : decode cX11_solve 126 = .ok (.iastore, 1) := by decide +kernel
theorem dX11_solve_127 : decode cX11_solve 127 = .ok (.iinc 2 1, 3) := by decide +kernel
theorem dX11_solve_130 : decode cX11_solve 130 = .ok (.goto (-44), 3) := by decide +kernel
theorem dX11_solve_133 : decode cX11_solve 133 = .ok (.iconst 0, 1) := by decide +kernel
theorem dX11_solve_134 : decode cX11_solve 134 = .ok (.istore_n 2, 1) := by decide +kernel
theorem dX11_solve_135 : decode cX11_solve 135 = .ok (.iload_n 2, 1) := by decide +kernel
theorem dX11_solve_136 : decode cX11_solve 136 = .ok (.aload_n 0, 1) := by decide +kernel
theorem dX11_solve_137 : decode cX11_solve 137 = .ok (.getfield 26, 3) := by decide +kernel
theorem dX11_solve_140 : decode cX11_solve 140 = .ok (.aload_n 0, 1) := by decide +kernel
theorem dX11_solve_141 : decode cX11_solve 141 = .ok (.getfield 742, 3) := by decide +kernel
theorem dX11_solve_144 : decode cX11_solve 144 = .ok (.iaload, 1) := by decide +kernel
theorem dX11_solve_145 : decode cX11_solve 145 = .ok (.if_icmp .ge 35, 3) := by decide +kernel
theorem dX11_solve_148 : decode cX11_solve 148 = .ok (.aload_n 0, 1) := by decide +kernel
theorem dX11_solve_149 : decode cX11_solve 149 = .ok (.getfield 222, 3) := by decide +kernel
theorem dX11_solve_152 : decode cX11_solve 152 = .ok (.aload_n 0, 1) := by decide +kernel
theorem dX11_solve_153 : decode cX11_solve 153 = .ok (.getfield 45, 3) := by decide +kernel
theorem dX11_solve_156 : decode cX11_solve 156 = .ok (.iconst 4, 1) := by decide +kernel
theorem dX11_solve_157 : decode cX11_solve 157 = .ok (.aload_n 0, 1) := by decide +kernel
theorem dX11_solve_158 : decode cX11_solve 158 = .ok (.getfield 742, 3) := by decide +kernel
theorem dX11_solve_161 : decode cX11_solve 161 = .ok (.imul, 1) := by decide +kernel
theorem dX11_solve_162 : decode cX11_solve 162 = .ok (.iload_n 2, 1) := by decide +kernel
theorem dX11_solve_163 : decode cX11_solve 163 = .ok (.iadd, 1) := by decide +kernel
theorem dX11_solve_164 : decode cX11_solve 164 = .ok (.iaload, 1) := by decide +kernel
theorem dX11_solve_165 : decode cX11_solve 165 = .ok (.aload_n 0, 1) := by decide +kernel
theorem dX11_solve_166 : decode cX11_solve 166 = .ok (.getfield 777, 3) := by decide +kernel
theorem dX11_solve_169 : decode cX11_solve 169 = .ok (.iload_n 2, 1) := by decide +kernel
theorem dX11_solve_170 : decode cX11_solve 170 = .ok (.ishr, 1) := by decide +kernel
theorem dX11_solve_171 : decode cX11_solve 171 = .ok (.iconst 1, 1) := by decide +kernel
theorem dX11_solve_172 : decode cX11_solve 172 = .ok (.iand, 1) := by decide +kernel
theorem dX11_solve_173 : decode cX11_solve 173 = .ok (.iastore, 1) := by decide +kernel
theorem dX11_solve_174 : decode cX11_solve 174 = .ok (.iinc 2 1, 3) := by decide +kernel
theorem dX11_solve_177 : decode cX11_solve 177 = .ok (.goto (-42), 3) := by decide +kernel
theorem dX11_solve_180 : decode cX11_solve 180 = .ok (.aload_n 0, 1) := by decide +kernel
theorem dX11_solve_181 : decode cX11_solve 181 = .ok (.iconst 1, 1) := by decide +kernel
theorem dX11_solve_182 : decode cX11_solve 182 = .ok (.putfield 745, 3) := by decide +kernel
theorem dX11_solve_185 : decode cX11_solve 185 = .ok (.aload_n 0, 1) := by decide +kernel
theorem dX11_solve_186 : decode cX11_solve 186 = .ok (.getfield 745, 3) := by decide +kernel
theorem dX11_solve_189 : decode cX11_solve 189 = .ok (.ifCond .eq 128, 3) := by decide +kernel
theorem dX11_solve_192 : decode cX11_solve 192 = .ok (.aload_n 0, 1) := by decide +kernel
theorem dX11_solve_193 : decode cX11_solve 193 = .ok (.iconst 0, 1) := by decide +kernel
theorem dX11_solve_194 : decode cX11_solve 194 = .ok (.putfield 745, 3) := by decide +kernel
theorem dX11_solve_197 : decode cX11_solve 197 = .ok (.iconst 0, 1) := by decide +kernel
theorem dX11_solve_198 : decode cX11_solve 198 = .ok (.istore_n 2, 1) := by decide +kernel
theorem dX11_solve_199 : decode cX11_solve 199 = .ok (.iload_n 2, 1) := by decide +kernel
theorem dX11_solve_200 : decode cX11_solve 200 = .ok (.aload_n 0, 1) := by decide +kernel
theorem dX11_solve_201 : decode cX11_solve 201 = .ok (.getfield 204, 3) := by decide +kernel
theorem dX11_solve_204 : decode cX11_solve 204 = .ok (.aload_n 0, 1) := by decide +kernel
theorem dX11_solve_205 : decode cX11_solve 205 = .ok (.getfield 742, 3) := by decide +kernel
theorem dX11_solve_208 : decode cX11_solve 208 = .ok (.iaload, 1) := by decide +kernel
theorem dX11_solve_209 : decode cX11_solve 209 = .ok (.if_icmp .ge 101, 3) := by decide +kernel
theorem dX11_solve_212 : decode cX11_solve 212 = .ok (.aload_n 0, 1) := by decide +kernel
theorem dX11_solve_213 : decode cX11_solve 213 = .ok (.getfield 201, 3) := by decide +kernel
theorem dX11_solve_216 : decode cX11_solve 216 = .ok (.sipush 1400, 3) := by decide +kernel
theorem dX11_solve_219 : decode cX11_solve 219 = .ok (.aload_n 0, 1) := by decide +kernel
theorem dX11_solve_220 : decode cX11_solve 220 = .ok (.getfield 742, 3) := by decide +kernel
theorem dX11_solve_223 : decode cX11_solve 223 = .ok (.imul, 1) := by decide +kernel
theorem dX11_solve_224 : decode cX11_solve 224 = .ok (.iload_n 2, 1) := by decide +kernel
theorem dX11_solve_225 : decode cX11_solve 225 = .ok (.iadd, 1) := by decide +kernel
theorem dX11_solve_226 : decode cX11_solve 226 = .ok (.iaload, 1) := by decide +kernel
theorem dX11_solve_227 : decode cX11_solve 227 = .ok (.istore_n 3, 1) := by decide +kernel
theorem dX11_solve_228 : decode cX11_solve 228 = .ok (.iload_n 3, 1) := by decide +kernel
theorem dX11_solve_229 : decode cX11_solve 229 = .ok (.iconst 1, 1) := by decide +kernel
theorem dX11_solve_230 : decode cX11_solve 230 = .ok (.ishr, 1) := by decide +kernel
theorem dX11_solve_231 : decode cX11_solve 231 = .ok (.istore 4, 2) := by decide +kernel
theorem dX11_solve_233 : decode cX11_solve 233 = .ok (.iload_n 3, 1) := by decide +kernel
theorem dX11_solve_234 : decode cX11_solve 234 = .ok (.iconst 1, 1) := by decide +kernel
theorem dX11_solve_235 : decode cX11_solve 235 = .ok (.iand, 1) := by decide +kernel
theorem dX11_solve_236 : decode cX11_solve 236 = .ok (.ifCond .ne 12, 3) := by decide +kernel
theorem dX11_solve_239 : decode cX11_solve 239 = .ok (.aload_n 0, 1) := by decide +kernel
theorem dX11_solve_240 : decode cX11_solve 240 = .ok (.iload 4, 2) := by decide +kernel
theorem dX11_solve_242 : decode cX11_solve 242 = .ok (.invokevirtual 780, 3) := by decide +kernel
theorem dX11_solve_245 : decode cX11_solve 245 = .ok (.goto 59, 3) := by decide +kernel
theorem dX11_solve_248 : decode cX11_solve 248 = .ok (.iconst 0, 1) := by decide +kernel
theorem dX11_solve_249 : decode cX11_solve 249 = .ok (.istore 5, 2) := by decide +kernel
theorem dX11_solve_251 : decode cX11_solve 251 = .ok (.iload 5, 2) := by decide +kernel
theorem dX11_solve_253 : decode cX11_solve 253 = .ok (.aload_n 0, 1) := by decide +kernel
theorem dX11_solve_254 : decode cX11_solve 254 = .ok (.getfield 198, 3) := by decide +kernel
theorem dX11_solve_257 : decode cX11_solve 257 = .ok (.aload_n 0, 1) := by decide +kernel
theorem dX11_solve_258 : decode cX11_solve 258 = .ok (.getfield 742, 3) := by decide +kernel
theorem dX11_solve_261 : decode cX11_solve 261 = .ok (.iaload, 1) := by decide +kernel
theorem dX11_solve_262 : decode cX11_solve 262 = .ok (.if_icmp .ge 42, 3) := by decide +kernel
theorem dX11_solve_265 : decode cX11_solve 265 = .ok (.aload_n 0, 1) := by decide +kernel
theorem dX11_solve_266 : decode cX11_solve 266 = .ok (.aload_n 0, 1) := by decide +kernel
theorem dX11_solve_267 : decode cX11_solve 267 = .ok (.getfield 219, 3) := by decide +kernel
theorem dX11_solve_270 : decode cX11_solve 270 = .ok (.bipush 24, 2) := by decide +kernel
theorem dX11_solve_272 : decode cX11_solve 272 = .ok (.iload 4, 2) := by decide +kernel
theorem dX11_solve_274 : decode cX11_solve 274 = .ok (.sipush 700, 3) := by decide +kernel
theorem dX11_solve_277 : decode cX11_solve 277 = .ok (.aload_n 0, 1) := by decide +kernel
theorem dX11_solve_278 : decode cX11_solve 278 = .ok (.getfield 742, 3) := by decide +kernel
theorem dX11_solve_281 : decode cX11_solve 281 = .ok (.imul, 1) := by decide +kernel
theorem dX11_solve_282 : decode cX11_solve 282 = .ok (.isub, 1) := by decide +kernel
theorem dX11_solve_283 : decode cX11_solve 283 = .ok (.imul, 1) := by decide +kernel
theorem dX11_solve_284 : decode cX11_solve 284 = .ok (.iload 5, 2) := by decide +kernel
theorem dX11_solve_286 : decode cX11_solve 286 = .ok (.iadd, 1) := by decide +kernel
theorem dX11_solve_287 : decode cX11_solve 287 = .ok (.aload_n 0, 1) := by decide +kernel
theorem dX11_solve_288 : decode cX11_solve 288 = .ok (.iload 4, 2) := by decide +kernel
theorem dX11_solve_290 : decode cX11_solve 290 = .ok (.iload 5, 2) := by decide +kernel
theorem dX11_solve_292 : decode cX11_solve 292 = .ok (.invokevirtual 783, 3) := by decide +kernel
theorem dX11_solve_295 : decode cX11_solve 295 = .ok (.invokevirtual 767, 3) := by decide +kernel
theorem dX11_solve_298 : decode cX11_solve 298 = .ok (.iinc 5 1, 3) := by decide +kernel
theorem dX11_solve_301 : decode cX11_solve 301 = .ok (.goto (-50), 3) := by decide +kernel
theorem dX11_solve_304 : decode cX11_solve 304 = .ok (.iinc 2 1, 3) := by decide +kernel
theorem dX11_solve_307 : decode cX11_solve 307 = .ok (.goto (-108), 3) := by decide +kernel
theorem dX11_solve_310 : decode cX11_solve 310 = .ok (.aload_n 0, 1) := by decide +kernel
theorem dX11_solve_311 : decode cX11_solve 311 = .ok (.invokevirtual 786, 3) := by decide +kernel
theorem dX11_solve_314 : decode cX11_solve 314 = .ok (.goto (-129), 3) := by decide +kernel
theorem dX11_solve_317 : decode cX11_solve 317 = .ok (.iconst 1, 1) := by decide +kernel
theorem dX11_solve_318 : decode cX11_solve 318 = .ok (.istore_n 2, 1) := by decide +kernel
theorem dX11_solve_319 : decode cX11_solve 319 = .ok (.iconst 0, 1) := by decide +kernel
theorem dX11_solve_320 : decode cX11_solve 320 = .ok (.istore_n 3, 1) := by decide +kernel
theorem dX11_solve_321 : decode cX11_solve 321 = .ok (.iload_n 3, 1) := by decide +kernel
theorem dX11_solve_322 : decode cX11_solve 322 = .ok (.iload_n 1, 1) := by decide +kernel
theorem dX11_solve_323 : decode cX11_solve 323 = .ok (.if_icmp .ge 108, 3) := by decide +kernel
theorem dX11_solve_326 : decode cX11_solve 326 = .ok (.iload_n 2, 1) := by decide +kernel
theorem dX11_solve_327 : decode cX11_solve 327 = .ok (.ifCond .eq 47, 3) := by decide +kernel
theorem dX11_solve_330 : decode cX11_solve 330 = .ok (.aload_n 0, 1) := by decide +kernel
theorem dX11_solve_331 : decode cX11_solve 331 = .ok (.getfield 207, 3) := by decide +kernel
theorem dX11_solve_334 : decode cX11_solve 334 = .ok (.iload_n 3, 1) := by decide +kernel
theorem dX11_solve_335 : decode cX11_solve 335 = .ok (.iaload, 1) := by decide +kernel
theorem dX11_solve_336 : decode cX11_solve 336 = .ok (.iconst 2, 1) := by decide +kernel
theorem dX11_solve_337 : decode cX11_solve 337 = .ok (.if_icmp .ge 37, 3) := by decide +kernel
theorem dX11_solve_340 : decode cX11_solve 340 = .ok (.aload_n 0, 1) := by decide +kernel
theorem dX11_solve_341 : decode cX11_solve 341 = .ok (.getfield 210, 3) := by decide +kernel
theorem dX11_solve_344 : decode cX11_solve 344 = .ok (.iload_n 3, 1) := by decide +kernel
theorem dX11_solve_345 : decode cX11_solve 345 = .ok (.iaload, 1) := by decide +kernel
theorem dX11_solve_346 : decode cX11_solve 346 = .ok (.iconst 2, 1) := by decide +kernel
theorem dX11_solve_347 : decode cX11_solve 347 = .ok (.if_icmp .ge 27, 3) := by decide +kernel
theorem dX11_solve_350 : decode cX11_solve 350 = .ok (.aload_n 0, 1) := by decide +kernel
theorem dX11_solve_351 : decode cX11_solve 351 = .ok (.getfield 213, 3) := by decide +kernel
theorem dX11_solve_354 : decode cX11_solve 354 = .ok (.iload_n 3, 1) := by decide +kernel
theorem dX11_solve_355 : decode cX11_solve 355 = .ok (.iaload, 1) := by decide +kernel
theorem dX11_solve_356 : decode cX11_solve 356 = .ok (.iconst 2, 1) := by decide +kernel
theorem dX11_solve_357 : decode cX11_solve 357 = .ok (.if_icmp .ge 17, 3) := by decide +kernel
theorem dX11_solve_360 : decode cX11_solve 360 = .ok (.aload_n 0, 1) := by decide +kernel
theorem dX11_solve_361 : decode cX11_solve 361 = .ok (.getfield 216, 3) := by decide +kernel
theorem dX11_solve_364 : decode cX11_solve 364 = .ok (.iload_n 3, 1) := by decide +kernel
theorem dX11_solve_365 : decode cX11_solve 365 = .ok (.iaload, 1) := by decide +kernel
theorem dX11_solve_366 : decode cX11_solve 366 = .ok (.iconst 2, 1) := by decide +kernel
theorem dX11_solve_367 : decode cX11_solve 367 = .ok (.if_icmp .ge 7, 3) := by decide +kernel
theorem dX11_solve_370 : decode cX11_solve 370 = .ok (.iconst 1, 1) := by decide +kernel
theorem dX11_solve_371 : decode cX11_solve 371 = .ok (.goto 4, 3) := by decide +kernel
theorem dX11_solve_374 : decode cX11_solve 374 = .ok (.iconst 0, 1) := by decide +kernel
theorem dX11_solve_375 : decode cX11_solve 375 = .ok (.istore_n 2, 1) := by decide +kernel
theorem dX11_solve_376 : decode cX11_solve 376 = .ok (.iconst 0, 1) := by decide +kernel
theorem dX11_solve_377 : decode cX11_solve 377 = .ok (.istore 4, 2) := by decide +kernel
theorem dX11_solve_379 : decode cX11_solve 379 = .ok (.iload 4, 2) := by decide +kernel
theorem dX11_solve_381 : decode cX11_solve 381 = .ok (.aload_n 0, 1) := by decide +kernel
theorem dX11_solve_382 : decode cX11_solve 382 = .ok (.getfield 198, 3) := by decide +kernel
theorem dX11_solve_385 : decode cX11_solve 385 = .ok (.aload_n 0, 1) := by decide +kernel
theorem dX11_solve_386 : decode cX11_solve 386 = .ok (.getfield 742, 3) := by decide +kernel
theorem dX11_solve_389 : decode cX11_solve 389 = .ok (.iaload, 1) := by decide +kernel
theorem dX11_solve_390 : decode cX11_solve 390 = .ok (.if_icmp .ge 35, 3) := by decide +kernel
theorem dX11_solve_393 : decode cX11_solve 393 = .ok (.iload_n 2, 1) := by decide +kernel
theorem dX11_solve_394 : decode cX11_solve 394 = .ok (.ifCond .eq 31, 3) := by decide +kernel
theorem dX11_solve_397 : decode cX11_solve 397 = .ok (.aload_n 0, 1) := by decide +kernel
theorem dX11_solve_398 : decode cX11_solve 398 = .ok (.getfield 219, 3) := by decide +kernel
theorem dX11_solve_401 : decode cX11_solve 401 = .ok (.bipush 24, 2) := by decide +kernel
theorem dX11_solve_403 : decode cX11_solve 403 = .ok (.iload_n 3, 1) := by decide +kernel
theorem dX11_solve_404 : decode cX11_solve 404 = .ok (.imul, 1) := by decide +kernel
theorem dX11_solve_405 : decode cX11_solve 405 = .ok (.iload 4, 2) := by decide +kernel
theorem dX11_solve_407 : decode cX11_solve 407 = .ok (.iadd, 1) := by decide +kernel
theorem dX11_solve_408 : decode cX11_solve 408 = .ok (.iaload, 1) := by decide +kernel
theorem dX11_solve_409 : decode cX11_solve 409 = .ok (.iconst 2, 1) := by decide +kernel
theorem dX11_solve_410 : decode cX11_solve 410 = .ok (.if_icmp .ge 7, 3) := by decide +kernel
theorem dX11_solve_413 : decode cX11_solve 413 = .ok (.iconst 1, 1) := by decide +kernel
theorem dX11_solve_414 : decode cX11_solve 414 = .ok (.goto 4, 3) := by decide +kernel
theorem dX11_solve_417 : decode cX11_solve 417 = .ok (.iconst 0, 1) := by decide +kernel
theorem dX11_solve_418 : decode cX11_solve 418 = .ok (.istore_n 2, 1) := by decide +kernel
theorem dX11_solve_419 : decode cX11_solve 419 = .ok (.iinc 4 1, 3) := by decide +kernel
theorem dX11_solve_422 : decode cX11_solve 422 = .ok (.goto (-43), 3) := by decide +kernel
theorem dX11_solve_425 : decode cX11_solve 425 = .ok (.iinc 3 1, 3) := by decide +kernel
theorem dX11_solve_428 : decode cX11_solve 428 = .ok (.goto (-107), 3) := by decide +kernel
theorem dX11_solve_431 : decode cX11_solve 431 = .ok (.iload_n 2, 1) := by decide +kernel
theorem dX11_solve_432 : decode cX11_solve 432 = .ok (.ireturn, 1) := by decide +kernel
theorem dX11_presentNow_0 : decode cX11_presentNow 0 = .ok (.iconst 0, 1) := by decide +kernel
theorem dX11_presentNow_1 : decode cX11_presentNow 1 = .ok (.istore_n 1, 1) := by decide +kernel
theorem dX11_presentNow_2 : decode cX11_presentNow 2 = .ok (.iconst 0, 1) := by decide +kernel
theorem dX11_presentNow_3 : decode cX11_presentNow 3 = .ok (.istore_n 2, 1) := by decide +kernel
theorem dX11_presentNow_4 : decode cX11_presentNow 4 = .ok (.iload_n 2, 1) := by decide +kernel
theorem dX11_presentNow_5 : decode cX11_presentNow 5 = .ok (.aload_n 0, 1) := by decide +kernel
theorem dX11_presentNow_6 : decode cX11_presentNow 6 = .ok (.getfield 23, 3) := by decide +kernel
theorem dX11_presentNow_9 : decode cX11_presentNow 9 = .ok (.aload_n 0, 1) := by decide +kernel
theorem dX11_presentNow_10 : decode cX11_presentNow 10 = .ok (.getfield 742, 3) := by decide +kernel
theorem dX11_presentNow_13 : decode cX11_presentNow 13 = .ok (.iaload, 1) := by decide +kernel
theorem dX11_presentNow_14 : decode cX11_presentNow 14 = .ok (.if_icmp .ge 29, 3) := by decide +kernel
theorem dX11_presentNow_17 : decode cX11_presentNow 17 = .ok (.iload_n 1, 1) := by decide +kernel
theorem dX11_presentNow_18 : decode cX11_presentNow 18 = .ok (.aload_n 0, 1) := by decide +kernel
theorem dX11_presentNow_19 : decode cX11_presentNow 19 = .ok (.getfield 222, 3) := by decide +kernel
theorem dX11_presentNow_22 : decode cX11_presentNow 22 = .ok (.iload_n 2, 1) := by decide +kernel
theorem dX11_presentNow_23 : decode cX11_presentNow 23 = .ok (.iaload, 1) := by decide +kernel
theorem dX11_presentNow_24 : decode cX11_presentNow 24 = .ok (.iconst 1, 1) := by decide +kernel
theorem dX11_presentNow_25 : decode cX11_presentNow 25 = .ok (.if_icmp .ne 9, 3) := by decide +kernel
theorem dX11_presentNow_28 : decode cX11_presentNow 28 = .ok (.iconst 1, 1) := by decide +kernel
theorem dX11_presentNow_29 : decode cX11_presentNow 29 = .ok (.iload_n 2, 1) := by decide +kernel
theorem dX11_presentNow_30 : decode cX11_presentNow 30 = .ok (.ishl, 1) := by decide +kernel
theorem dX11_presentNow_31 : decode cX11_presentNow 31 = .ok (.goto 4, 3) := by decide +kernel
theorem dX11_presentNow_34 : decode cX11_presentNow 34 = .ok (.iconst 0, 1) := by decide +kernel
theorem dX11_presentNow_35 : decode cX11_presentNow 35 = .ok (.ior, 1) := by decide +kernel
theorem dX11_presentNow_36 : decode cX11_presentNow 36 = .ok (.istore_n 1, 1) := by decide +kernel
theorem dX11_presentNow_37 : decode cX11_presentNow 37 = .ok (.iinc 2 1, 3) := by decide +kernel
theorem dX11_presentNow_40 : decode cX11_presentNow 40 = .ok (.goto (-36), 3) := by decide +kernel
theorem dX11_presentNow_43 : decode cX11_presentNow 43 = .ok (.iload_n 1, 1) := by decide +kernel
theorem dX11_presentNow_44 : decode cX11_presentNow 44 = .ok (.ireturn, 1) := by decide +kernel
theorem dX11_setNow_0 : decode cX11_setNow 0 = .ok (.iconst 0, 1) := by decide +kernel
theorem dX11_setNow_1 : decode cX11_setNow 1 = .ok (.istore_n 1, 1) := by decide +kernel
theorem dX11_setNow_2 : decode cX11_setNow 2 = .ok (.sipush 700, 3) := by decide +kernel
theorem dX11_setNow_5 : decode cX11_setNow 5 = .ok (.aload_n 0, 1) := by decide +kernel
theorem dX11_setNow_6 : decode cX11_setNow 6 = .ok (.getfield 742, 3) := by decide +kernel
theorem dX11_setNow_9 : decode cX11_setNow 9 = .ok (.imul, 1) := by decide +kernel
theorem dX11_setNow_10 : decode cX11_setNow 10 = .ok (.istore_n 2, 1) := by decide +kernel
theorem dX11_setNow_11 : decode cX11_setNow 11 = .ok (.iload_n 2, 1) := by decide +kernel
theorem dX11_setNow_12 : decode cX11_setNow 12 = .ok (.sipush 700, 3) := by decide +kernel
theorem dX11_setNow_15 : decode cX11_setNow 15 = .ok (.aload_n 0, 1) := by decide +kernel
theorem dX11_setNow_16 : decode cX11_setNow 16 = .ok (.getfield 742, 3) := by decide +kernel
theorem dX11_setNow_19 : decode cX11_setNow 19 = .ok (.imul, 1) := by decide +kernel
theorem dX11_setNow_20 : decode cX11_setNow 20 = .ok (.aload_n 0, 1) := by decide +kernel
theorem dX11_setNow_21 : decode cX11_setNow 21 = .ok (.getfield 159, 3) := by decide +kernel
theorem dX11_setNow_24 : decode cX11_setNow 24 = .ok (.aload_n 0, 1) := by decide +kernel
theorem dX11_setNow_25 : decode cX11_setNow 25 = .ok (.getfield 742, 3) := by decide +kernel
theorem dX11_setNow_28 : decode cX11_setNow 28 = .ok (.iaload, 1) := by decide +kernel
theorem dX11_setNow_29 : decode cX11_setNow 29 = .ok (.iadd, 1) := by decide +kernel
theorem dX11_setNow_30 : decode cX11_setNow 30 = .ok (.if_icmp .ge 94, 3) := by decide +kernel
theorem dX11_setNow_33 : decode cX11_setNow 33 = .ok (.iload_n 2, 1) := by decide +kernel
theorem dX11_setNow_34 : decode cX11_setNow 34 = .ok (.sipush 700, 3) := by decide +kernel
theorem dX11_setNow_37 : decode cX11_setNow 37 = .ok (.aload_n 0, 1) := by decide +kernel
theorem dX11_setNow_38 : decode cX11_setNow 38 = .ok (.getfield 742, 3) := by decide +kernel
theorem dX11_setNow_41 : decode cX11_setNow 41 = .ok (.imul, 1) := by decide +kernel
theorem dX11_setNow_42 : decode cX11_setNow 42 = .ok (.isub, 1) := by decide +kernel
theorem dX11_setNow_43 : decode cX11_setNow 43 = .ok (.istore_n 3, 1) := by decide +kernel
theorem dX11_setNow_44 : decode cX11_setNow 44 = .ok (.aload_n 0, 1) := by decide +kernel
theorem dX11_setNow_45 : decode cX11_setNow 45 = .ok (.getfield 213, 3) := by decide +kernel
theorem dX11_setNow_48 : decode cX11_setNow 48 = .ok (.iload_n 3, 1) := by decide +kernel
theorem dX11_setNow_49 : decode cX11_setNow 49 = .ok (.iaload, 1) := by decide +kernel
theorem dX11_setNow_50 : decode cX11_setNow 50 = .ok (.iconst 1, 1) := by decide +kernel
theorem dX11_setNow_51 : decode cX11_setNow 51 = .ok (.if_icmp .ne 21, 3) := by decide +kernel
theorem dX11_setNow_54 : decode cX11_setNow 54 = .ok (.aload_n 0, 1) := by decide +kernel
theorem dX11_setNow_55 : decode cX11_setNow 55 = .ok (.getfield 764, 3) := by decide +kernel
theorem dX11_setNow_58 : decode cX11_setNow 58 = .ok (.aload_n 0, 1) := by decide +kernel
theorem dX11_setNow_59 : decode cX11_setNow 59 = .ok (.getfield 183, 3) := by decide +kernel
theorem dX11_setNow_62 : decode cX11_setNow 62 = .ok (.iload_n 2, 1) := by decide +kernel
theorem dX11_setNow_63 : decode cX11_setNow 63 = .ok (.iaload, 1) := by decide +kernel
theorem dX11_setNow_64 : decode cX11_setNow 64 = .ok (.iand, 1) := by decide +kernel
theorem dX11_setNow_65 : decode cX11_setNow 65 = .ok (.ifCond .eq 7, 3) := by decide +kernel
theorem dX11_setNow_68 : decode cX11_setNow 68 = .ok (.iconst 1, 1) := by decide +kernel
theorem dX11_setNow_69 : decode cX11_setNow 69 = .ok (.goto 4, 3) := by decide +kernel
theorem dX11_setNow_72 : decode cX11_setNow 72 = .ok (.iconst 0, 1) := by decide +kernel
theorem dX11_setNow_73 : decode cX11_setNow 73 = .ok (.istore 4, 2) := by decide +kernel
theorem dX11_setNow_75 : decode cX11_setNow 75 = .ok (.aload_n 0, 1) := by decide +kernel
theorem dX11_setNow_76 : decode cX11_setNow 76 = .ok (.getfield 162, 3) := by decide +kernel
theorem dX11_setNow_79 : decode cX11_setNow 79 = .ok (.iload_n 2, 1) := by decide +kernel
theorem dX11_setNow_80 : decode cX11_setNow 80 = .ok (.iaload, 1) := by decide +kernel
theorem dX11_setNow_81 : decode cX11_setNow 81 = .ok (.iconst 2, 1) := by decide +kernel
theorem dX11_setNow_82 : decode cX11_setNow 82 = .ok (.if_icmp .ne 36, 3) := by decide +kernel
theorem dX11_setNow_85 : decode cX11_setNow 85 = .ok (.aload_n 0, 1) := by decide +kernel
theorem dX11_setNow_86 : decode cX11_setNow 86 = .ok (.getfield 216, 3) := by decide +kernel
theorem dX11_setNow_89 : decode cX11_setNow 89 = .ok (.iload_n 3, 1) := by decide +kernel
theorem dX11_setNow_90 : decode cX11_setNow 90 = .ok (.iaload, 1) := by decide +kernel
theorem dX11_setNow_91 : decode cX11_setNow 91 = .ok (.ifCond .ne 27, 3) := by decide +kernel
theorem dX11_setNow_94 : decode cX11_setNow 94 = .ok (.aload_n 0, 1) := by decide +kernel
theorem dX11_setNow_95 : decode cX11_setNow 95 = .ok (.getfield 207, 3) := by decide +kernel
theorem dX11_setNow_98 : decode cX11_setNow 98 = .ok (.iload_n 3, 1) := by decide +kernel
theorem dX11_setNow_99 : decode cX11_setNow 99 = .ok (.iaload, 1) := by decide +kernel
theorem dX11_setNow_100 : decode cX11_setNow 100 = .ok (.iconst 1, 1) := by decide +kernel
theorem dX11_setNow_101 : decode cX11_setNow 101 = .ok (.if_icmp .eq 8, 3) := by decide +kernel
theorem dX11_setNow_104 : decode cX11_setNow 104 = .ok (.iload 4, 2) := by decide +kernel
theorem dX11_setNow_106 : decode cX11_setNow 106 = .ok (.ifCond .eq 12, 3) := by decide +kernel
theorem dX11_setNow_109 : decode cX11_setNow 109 = .ok (.iload_n 1, 1) := by decide +kernel
theorem dX11_setNow_110 : decode cX11_setNow 110 = .ok (.aload_n 0, 1) := by decide +kernel
theorem dX11_setNow_111 : decode cX11_setNow 111 = .ok (.getfield 183, 3) := by decide +kernel
theorem dX11_setNow_114 : decode cX11_setNow 114 = .ok (.iload_n 2, 1) := by decide +kernel
theorem dX11_setNow_115 : decode cX11_setNow 115 = .ok (.iaload, 1) := by decide +kernel
theorem dX11_setNow_116 : decode cX11_setNow 116 = .ok (.ior, 1) := by decide +kernel
theorem dX11_setNow_117 : decode cX11_setNow 117 = .ok (.istore_n 1, 1) := by decide +kernel
theorem dX11_setNow_118 : decode cX11_setNow 118 = .ok (.iinc 2 1, 3) := by decide +kernel
theorem dX11_setNow_121 : decode cX11_setNow 121 = .ok (.goto (-110), 3) := by decide +kernel
theorem dX11_setNow_124 : decode cX11_setNow 124 = .ok (.iload_n 1, 1) := by decide +kernel
theorem dX11_setNow_125 : decode cX11_setNow 125 = .ok (.ireturn, 1) := by decide +kernel
theorem dX11_isGovernor_0 : decode cX11_isGovernor 0 = .ok (.iload_n 1, 1) := by decide +kernel
theorem dX11_isGovernor_1 : decode cX11_isGovernor 1 = .ok (.i2l, 1) := by decide +kernel
theorem dX11_isGovernor_2 : decode cX11_isGovernor 2 = .ok (.lconst 0, 1) := by decide +kernel
theorem dX11_isGovernor_3 : decode cX11_isGovernor 3 = .ok (.aload_n 0, 1) := by decide +kernel
theorem dX11_isGovernor_4 : decode cX11_isGovernor 4 = .ok (.getfield 789, 3) := by decide +kernel
theorem dX11_isGovernor_7 : decode cX11_isGovernor 7 = .ok (.iconst 1, 1) := by decide +kernel
theorem dX11_isGovernor_8 : decode cX11_isGovernor 8 = .ok (.isub, 1) := by decide +kernel
theorem dX11_isGovernor_9 : decode cX11_isGovernor 9 = .ok (.i2l, 1) := by decide +kernel
theorem dX11_isGovernor_10 : decode cX11_isGovernor 10 = .ok (.invokestatic 332, 3) := by decide +kernel
theorem dX11_isGovernor_13 : decode cX11_isGovernor 13 = .ok (.ireturn, 1) := by decide +kernel
theorem dX11_noAnswer_0 : decode cX11_noAnswer 0 = .ok (.aload_n 0, 1) := by decide +kernel
theorem dX11_noAnswer_1 : decode cX11_noAnswer 1 = .ok (.getfield 261, 3) := by decide +kernel
theorem dX11_noAnswer_4 : decode cX11_noAnswer 4 = .ok (.iload_n 1, 1) := by decide +kernel
theorem dX11_noAnswer_5 : decode cX11_noAnswer 5 = .ok (.iconst (-1), 1) := by decide +kernel
theorem dX11_noAnswer_6 : decode cX11_noAnswer 6 = .ok (.iastore, 1) := by decide +kernel
theorem dX11_noAnswer_7 : decode cX11_noAnswer 7 = .ok (.aload_n 0, 1) := by decide +kernel
theorem dX11_noAnswer_8 : decode cX11_noAnswer 8 = .ok (.getfield 264, 3) := by decide +kernel
theorem dX11_noAnswer_11 : decode cX11_noAnswer 11 = .ok (.iload_n 1, 1) := by decide +kernel
theorem dX11_noAnswer_12 : decode cX11_noAnswer 12 = .ok (.iconst 0, 1) := by decide +kernel
theorem dX11_noAnswer_13 : decode cX11_noAnswer 13 = .ok (.iastore, 1) := by decide +kernel
theorem dX11_noAnswer_14 : decode cX11_noAnswer 14 = .ok (.aload_n 0, 1) := by decide +kernel
theorem dX11_noAnswer_15 : decode cX11_noAnswer 15 = .ok (.getfield 267, 3) := by decide +kernel
theorem dX11_noAnswer_18 : decode cX11_noAnswer 18 = .ok (.iload_n 1, 1) := by decide +kernel
theorem dX11_noAnswer_19 : decode cX11_noAnswer 19 = .ok (.iconst (-1), 1) := by decide +kernel
theorem dX11_noAnswer_20 : decode cX11_noAnswer 20 = .ok (.iastore, 1) := by decide +kernel
theorem dX11_noAnswer_21 : decode cX11_noAnswer 21 = .ok (.aload_n 0, 1) := by decide +kernel
theorem dX11_noAnswer_22 : decode cX11_noAnswer 22 = .ok (.getfield 270, 3) := by decide +kernel
theorem dX11_noAnswer_25 : decode cX11_noAnswer 25 = .ok (.iload_n 1, 1) := by decide +kernel
theorem dX11_noAnswer_26 : decode cX11_noAnswer 26 = .ok (.iconst 0, 1) := by decide +kernel
theorem dX11_noAnswer_27 : decode cX11_noAnswer 27 = .ok (.iastore, 1) := by decide +kernel
theorem dX11_noAnswer_28 : decode cX11_noAnswer 28 = .ok (.aload_n 0, 1) := by decide +kernel
theorem dX11_noAnswer_29 : decode cX11_noAnswer 29 = .ok (.getfield 255, 3) := by decide +kernel
theorem dX11_noAnswer_32 : decode cX11_noAnswer 32 = .ok (.iload_n 1, 1) := by decide +kernel
theorem dX11_noAnswer_33 : decode cX11_noAnswer 33 = .ok (.iconst 0, 1) := by decide +kernel
theorem dX11_noAnswer_34 : decode cX11_noAnswer 34 = .ok (.iastore, 1) := by decide +kernel
theorem dX11_noAnswer_35 : decode cX11_noAnswer 35 = .ok (.iconst 0, 1) := by decide +kernel
theorem dX11_noAnswer_36 : decode cX11_noAnswer 36 = .ok (.istore_n 2, 1) := by decide +kernel
theorem dX11_noAnswer_37 : decode cX11_noAnswer 37 = .ok (.iload_n 2, 1) := by decide +kernel
theorem dX11_noAnswer_38 : decode cX11_noAnswer 38 = .ok (.sipush 200, 3) := by decide +kernel
theorem dX11_noAnswer_41 : decode cX11_noAnswer 41 = .ok (.if_icmp .ge 22, 3) := by decide +kernel
theorem dX11_noAnswer_44 : decode cX11_noAnswer 44 = .ok (.aload_n 0, 1) := by decide +kernel
theorem dX11_noAnswer_45 : decode cX11_noAnswer 45 = .ok (.getfield 273, 3) := by decide +kernel
theorem dX11_noAnswer_48 : decode cX11_noAnswer 48 = .ok (.sipush 200, 3) := by decide +kernel
theorem dX11_noAnswer_51 : decode cX11_noAnswer 51 = .ok (.iload_n 1, 1) := by decide +kernel
theorem dX11_noAnswer_52 : decode cX11_noAnswer 52 = .ok (.imul, 1) := by decide +kernel
theorem dX11_noAnswer_53 : decode cX11_noAnswer 53 = .ok (.iload_n 2, 1) := by decide +kernel
theorem dX11_noAnswer_54 : decode cX11_noAnswer 54 = .ok (.iadd, 1) := by decide +kernel
theorem dX11_noAnswer_55 : decode cX11_noAnswer 55 = .ok (.iconst 0, 1) := by decide +kernel
theorem dX11_noAnswer_56 : decode cX11_noAnswer 56 = .ok (.iastore, 1) := by decide +kernel
theorem dX11_noAnswer_57 : decode cX11_noAnswer 57 = .ok (.iinc 2 1, 3) := by decide +kernel
theorem dX11_noAnswer_60 : decode cX11_noAnswer 60 = .ok (.goto (-23), 3) := by decide +kernel
theorem dX11_noAnswer_63 : decode cX11_noAnswer 63 = .ok (.return_, 1) := by decide +kernel
theorem dX11_governor_0 : decode cX11_governor 0 = .ok (.aload_n 0, 1) := by decide +kernel
theorem dX11_governor_1 : decode cX11_governor 1 = .ok (.iload_n 1, 1) := by decide +kernel
theorem dX11_governor_2 : decode cX11_governor 2 = .ok (.invokevirtual 727, 3) := by decide +kernel
theorem dX11_governor_5 : decode cX11_governor 5 = .ok (.ifCond .ne 5, 3) := by decide +kernel
theorem dX11_governor_8 : decode cX11_governor 8 = .ok (.iconst (-1), 1) := by decide +kernel
theorem dX11_governor_9 : decode cX11_governor 9 = .ok (.ireturn, 1) := by decide +kernel
theorem dX11_governor_10 : decode cX11_governor 10 = .ok (.aload_n 0, 1) := by decide +kernel
theorem dX11_governor_11 : decode cX11_governor 11 = .ok (.getfield 789, 3) := by decide +kernel
theorem dX11_governor_14 : decode cX11_governor 14 = .ok (.bipush 8, 2) := by decide +kernel
theorem dX11_governor_16 : decode cX11_governor 16 = .ok (.if_icmp .ne 6, 3) := by decide +kernel
theorem dX11_governor_19 : decode cX11_governor 19 = .ok (.bipush (-3), 2) := by decide +kernel
theorem dX11_governor_21 : decode cX11_governor 21 = .ok (.ireturn, 1) := by decide +kernel
theorem dX11_governor_22 : decode cX11_governor 22 = .ok (.aload_n 0, 1) := by decide +kernel
theorem dX11_governor_23 : decode cX11_governor 23 = .ok (.getfield 789, 3) := by decide +kernel
theorem dX11_governor_26 : decode cX11_governor 26 = .ok (.istore_n 2, 1) := by decide +kernel
theorem dX11_governor_27 : decode cX11_governor 27 = .ok (.aload_n 0, 1) := by decide +kernel
theorem dX11_governor_28 : decode cX11_governor 28 = .ok (.dup, 1) := by decide +kernel
theorem dX11_governor_29 : decode cX11_governor 29 = .ok (.getfield 789, 3) := by decide +kernel
theorem dX11_governor_32 : decode cX11_governor 32 = .ok (.iconst 1, 1) := by decide +kernel
theorem dX11_governor_33 : decode cX11_governor 33 = .ok (.iadd, 1) := by decide +kernel
theorem dX11_governor_34 : decode cX11_governor 34 = .ok (.putfield 789, 3) := by decide +kernel
theorem dX11_governor_37 : decode cX11_governor 37 = .ok (.aload_n 0, 1) := by decide +kernel
theorem dX11_governor_38 : decode cX11_governor 38 = .ok (.getfield 228, 3) := by decide +kernel
theorem dX11_governor_41 : decode cX11_governor 41 = .ok (.iload_n 2, 1) := by decide +kernel
theorem dX11_governor_42 : decode cX11_governor 42 = .ok (.iload_n 1, 1) := by decide +kernel
theorem dX11_governor_43 : decode cX11_governor 43 = .ok (.iastore, 1) := by decide +kernel
theorem dX11_governor_44 : decode cX11_governor 44 = .ok (.aload_n 0, 1) := by decide +kernel
theorem dX11_governor_45 : decode cX11_governor 45 = .ok (.getfield 231, 3) := by decide +kernel
theorem dX11_governor_48 : decode cX11_governor 48 = .ok (.iload_n 2, 1) := by decide +kernel
theorem dX11_governor_49 : decode cX11_governor 49 = .ok (.iconst 1, 1) := by decide +kernel
theorem dX11_governor_50 : decode cX11_governor 50 = .ok (.bastore, 1) := by decide +kernel
theorem dX11_governor_51 : decode cX11_governor 51 = .ok (.aload_n 0, 1) := by decide +kernel
theorem dX11_governor_52 : decode cX11_governor 52 = .ok (.getfield 234, 3) := by decide +kernel
theorem dX11_governor_55 : decode cX11_governor 55 = .ok (.iload_n 2, 1) := by decide +kernel
theorem dX11_governor_56 : decode cX11_governor 56 = .ok (.iconst 0, 1) := by decide +kernel
theorem dX11_governor_57 : decode cX11_governor 57 = .ok (.bastore, 1) := by decide +kernel
theorem dX11_governor_58 : decode cX11_governor 58 = .ok (.aload_n 0, 1) := by decide +kernel
theorem dX11_governor_59 : decode cX11_governor 59 = .ok (.getfield 237, 3) := by decide +kernel
theorem dX11_governor_62 : decode cX11_governor 62 = .ok (.iload_n 2, 1) := by decide +kernel
theorem dX11_governor_63 : decode cX11_governor 63 = .ok (.iconst 0, 1) := by decide +kernel
theorem dX11_governor_64 : decode cX11_governor 64 = .ok (.iastore, 1) := by decide +kernel
theorem dX11_governor_65 : decode cX11_governor 65 = .ok (.aload_n 0, 1) := by decide +kernel
theorem dX11_governor_66 : decode cX11_governor 66 = .ok (.getfield 240, 3) := by decide +kernel
theorem dX11_governor_69 : decode cX11_governor 69 = .ok (.iload_n 2, 1) := by decide +kernel
theorem dX11_governor_70 : decode cX11_governor 70 = .ok (.iconst 0, 1) := by decide +kernel
theorem dX11_governor_71 : decode cX11_governor 71 = .ok (.iastore, 1) := by decide +kernel
theorem dX11_governor_72 : decode cX11_governor 72 = .ok (.aload_n 0, 1) := by decide +kernel
theorem dX11_governor_73 : decode cX11_governor 73 = .ok (.getfield 249, 3) := by decide +kernel
theorem dX11_governor_76 : decode cX11_governor 76 = .ok (.iload_n 2, 1) := by decide +kernel
theorem dX11_governor_77 : decode cX11_governor 77 = .ok (.iconst 0, 1) := by decide +kernel
theorem dX11_governor_78 : decode cX11_governor 78 = .ok (.iastore, 1) := by decide +kernel
theorem dX11_governor_79 : decode cX11_governor 79 = .ok (.aload_n 0, 1) := by decide +kernel
theorem dX11_governor_80 : decode cX11_governor 80 = .ok (.getfield 252, 3) := by decide +kernel
theorem dX11_governor_83 : decode cX11_governor 83 = .ok (.iload_n 2, 1) := by decide +kernel
theorem dX11_governor_84 : decode cX11_governor 84 = .ok (.iconst 0, 1) := by decide +kernel
theorem dX11_governor_85 : decode cX11_governor 85 = .ok (.iastore, 1) := by decide +kernel
theorem dX11_governor_86 : decode cX11_governor 86 = .ok (.iconst 0, 1) := by decide +kernel
theorem dX11_governor_87 : decode cX11_governor 87 = .ok (.istore_n 3, 1) := by decide +kernel
theorem dX11_governor_88 : decode cX11_governor 88 = .ok (.iload_n 3, 1) := by decide +kernel
theorem dX11_governor_89 : decode cX11_governor 89 = .ok (.bipush 16, 2) := by decide +kernel
theorem dX11_governor_91 : decode cX11_governor 91 = .ok (.if_icmp .ge 21, 3) := by decide +kernel
theorem dX11_governor_94 : decode cX11_governor 94 = .ok (.aload_n 0, 1) := by decide +kernel
theorem dX11_governor_95 : decode cX11_governor 95 = .ok (.getfield 243, 3) := by decide +kernel
theorem dX11_governor_98 : decode cX11_governor 98 = .ok (.bipush 16, 2) := by decide +kernel
theorem dX11_governor_100 : decode cX11_governor 100 = .ok (.iload_n 2, 1) := by decide +kernel
theorem dX11_governor_101 : decode cX11_governor 101 = .ok (.imul, 1) := by decide +kernel
theorem dX11_governor_102 : decode cX11_governor 102 = .ok (.iload_n 3, 1) := by decide +kernel
theorem dX11_governor_103 : decode cX11_governor 103 = .ok (.iadd, 1) := by decide +kernel
theorem dX11_governor_104 : decode cX11_governor 104 = .ok (.lconst 0, 1) := by decide +kernel
theorem dX11_governor_105 : decode cX11_governor 105 = .ok (.lastore, 1) := by decide +kernel
theorem dX11_governor_106 : decode cX11_governor 106 = .ok (.iinc 3 1, 3) := by decide +kernel
theorem dX11_governor_109 : decode cX11_governor 109 = .ok (.goto (-21), 3) := by decide +kernel
theorem dX11_governor_112 : decode cX11_governor 112 = .ok (.iconst 0, 1) := by decide +kernel
theorem dX11_governor_113 : decode cX11_governor 113 = .ok (.istore_n 3, 1) := by decide +kernel
theorem dX11_governor_114 : decode cX11_governor 114 = .ok (.iload_n 3, 1) := by decide +kernel
theorem dX11_governor_115 : decode cX11_governor 115 = .ok (.bipush 6, 2) := by decide +kernel
theorem dX11_governor_117 : decode cX11_governor 117 = .ok (.if_icmp .ge 45, 3) := by decide +kernel
theorem dX11_governor_120 : decode cX11_governor 120 = .ok (.aload_n 0, 1) := by decide +kernel
theorem dX11_governor_121 : decode cX11_governor 121 = .ok (.getfield 246, 3) := by decide +kernel
theorem dX11_governor_124 : decode cX11_governor 124 = .ok (.bipush 6, 2) := by decide +kernel
theorem dX11_governor_126 : decode cX11_governor 126 = .ok (.iload_n 2, 1) := by decide +kernel
theorem dX11_governor_127 : decode cX11_governor 127 = .ok (.imul, 1) := by decide +kernel
theorem dX11_governor_128 : decode cX11_governor 128 = .ok (.iload_n 3, 1) := by decide +kernel
theorem dX11_governor_129 : decode cX11_governor 129 = .ok (.iadd, 1) := by decide +kernel
theorem dX11_governor_130 : decode cX11_governor 130 = .ok (.iload_n 3, 1) := by decide +kernel
theorem dX11_governor_131 : decode cX11_governor 131 = .ok (.aload_n 0, 1) := by decide +kernel
theorem dX11_governor_132 : decode cX11_governor 132 = .ok (.getfield 29, 3) := by decide +kernel
theorem dX11_governor_135 : decode cX11_governor 135 = .ok (.iload_n 1, 1) := by decide +kernel
theorem dX11_governor_136 : decode cX11_governor 136 = .ok (.iaload, 1) := by decide +kernel
theorem dX11_governor_137 : decode cX11_governor 137 = .ok (.if_icmp .ge 17, 3) := by decide +kernel
theorem dX11_governor_140 : decode cX11_governor 140 = .ok (.aload_n 0, 1) := by decide +kernel
theorem dX11_governor_141 : decode cX11_governor 141 = .ok (.getfield 51, 3) := by decide +kernel
theorem dX11_governor_144 : decode cX11_governor 144 = .ok (.bipush 6, 2) := by decide +kernel
theorem dX11_governor_146 : decode cX11_governor 146 = .ok (.iload_n 1, 1) := by decide +kernel
theorem dX11_governor_147 : decode cX11_governor 147 = .ok (.imul, 1) := by decide +kernel
theorem dX11_governor_148 : decode cX11_governor 148 = .ok (.iload_n 3, 1) := by decide +kernel
theorem dX11_governor_149 : decode cX11_governor 149 = .ok (.iadd, 1) := by decide +kernel
theorem dX11_governor_150 : decode cX11_governor 150 = .ok (.laload, 1) := by decide +kernel
theorem dX11_governor_151 : decode cX11_governor 151 = .ok (.goto 4, 3) := by decide +kernel
theorem dX11_governor_154 : decode cX11_governor 154 = .ok (.lconst 0, 1) := by decide +kernel
theorem dX11_governor_155 : decode cX11_governor 155 = .ok (.lastore, 1) := by decide +kernel
theorem dX11_governor_156 : decode cX11_governor 156 = .ok (.iinc 3 1, 3) := by decide +kernel
theorem dX11_governor_159 : decode cX11_governor 159 = .ok (.goto (-45), 3) := by decide +kernel
theorem dX11_governor_162 : decode cX11_governor 162 = .ok (.aload_n 0, 1) := by decide +kernel
theorem dX11_governor_163 : decode cX11_governor 163 = .ok (.iload_n 2, 1) := by decide +kernel
theorem dX11_governor_164 : decode cX11_governor 164 = .ok (.invokevirtual 792, 3) := by decide +kernel
theorem dX11_governor_167 : decode cX11_governor 167 = .ok (.iload_n 2, 1) := by decide +kernel
theorem dX11_governor_168 : decode cX11_governor 168 = .ok (.ireturn, 1) := by decide +kernel
theorem dX11_give_0 : decode cX11_give 0 = .ok (.aload_n 0, 1) := by decide +kernel
theorem dX11_give_1 : decode cX11_give 1 = .ok (.iload_n 1, 1) := by decide +kernel
theorem dX11_give_2 : decode cX11_give 2 = .ok (.invokevirtual 795, 3) := by decide +kernel
theorem dX11_give_5 : decode cX11_give 5 = .ok (.ifCond .eq 41, 3) := by decide +kernel
theorem dX11_give_8 : decode cX11_give 8 = .ok (.iload_n 2, 1) := by decide +kernel
theorem dX11_give_9 : decode cX11_give 9 = .ok (.i2l, 1) := by decide +kernel
theorem dX11_give_10 : decode cX11_give 10 = .ok (.lconst 0, 1) := by decide +kernel
theorem dX11_give_11 : decode cX11_give 11 = .ok (.aload_n 0, 1) := by decide +kernel
theorem dX11_give_12 : decode cX11_give 12 = .ok (.getfield 26, 3) := by decide +kernel
theorem dX11_give_15 : decode cX11_give 15 = .ok (.aload_n 0, 1) := by decide +kernel
theorem dX11_give_16 : decode cX11_give 16 = .ok (.getfield 228, 3) := by decide +kernel
theorem dX11_give_19 : decode cX11_give 19 = .ok (.iload_n 1, 1) := by decide +kernel
theorem dX11_give_20 : decode cX11_give 20 = .ok (.iaload, 1) := by decide +kernel
theorem dX11_give_21 : decode cX11_give 21 = .ok (.iaload, 1) := by decide +kernel
theorem dX11_give_22 : decode cX11_give 22 = .ok (.iconst 1, 1) := by decide +kernel
theorem dX11_give_23 : decode cX11_give 23 = .ok (.isub, 1) := by decide +kernel
theorem dX11_give_24 : decode cX11_give 24 = .ok (.i2l, 1) := by decide +kernel
theorem dX11_give_25 : decode cX11_give 25 = .ok (.invokestatic 332, 3) := by decide +kernel
theorem dX11_give_28 : decode cX11_give 28 = .ok (.ifCond .eq 18, 3) := by decide +kernel
theorem dX11_give_31 : decode cX11_give 31 = .ok (.iload 4, 2) := by decide +kernel
theorem dX11_give_33 : decode cX11_give 33 = .ok (.i2l, 1) := by decide +kernel
theorem dX11_give_34 : decode cX11_give 34 = .ok (.ldc2_w 798, 3) := by decide +kernel
theorem dX11_give_37 : decode cX11_give 37 = .ok (.ldc2_w 800, 3) := by decide +kernel
theorem dX11_give_40 : decode cX11_give 40 = .ok (.invokestatic 332, 3) := by decide +kernel
theorem dX11_give_43 : decode cX11_give 43 = .ok (.ifCond .ne 5, 3) := by decide +kernel
theorem dX11_give_46 : decode cX11_give 46 = .ok (.iconst (-1), 1) := by decide +kernel
theorem dX11_give_47 : decode cX11_give 47 = .ok (.ireturn, 1) := by decide +kernel
theorem dX11_give_48 : decode cX11_give 48 = .ok (.aload_n 0, 1) := by decide +kernel
theorem dX11_give_49 : decode cX11_give 49 = .ok (.getfield 234, 3) := by decide +kernel
theorem dX11_give_52 : decode cX11_give 52 = .ok (.iload_n 1, 1) := by decide +kernel
theorem dX11_give_53 : decode cX11_give 53 = .ok (.baload, 1) := by decide +kernel
theorem dX11_give_54 : decode cX11_give 54 = .ok (.ifCond .eq 6, 3) := by decide +kernel
theorem dX11_give_57 : decode cX11_give 57 = .ok (.bipush (-2), 2) := by decide +kernel
theorem dX11_give_59 : decode cX11_give 59 = .ok (.ireturn, 1) := by decide +kernel
theorem dX11_give_60 : decode cX11_give 60 = .ok (.aload_n 0, 1) := by decide +kernel
theorem dX11_give_61 : decode cX11_give 61 = .ok (.getfield 255, 3) := by decide +kernel
theorem dX11_give_64 : decode cX11_give 64 = .ok (.iload_n 1, 1) := by decide +kernel
theorem dX11_give_65 : decode cX11_give 65 = .ok (.iload_n 3, 1) := by decide +kernel
theorem dX11_give_66 : decode cX11_give 66 = .ok (.ifCond .eq 16, 3) := by decide +kernel
theorem dX11_give_69 : decode cX11_give 69 = .ok (.aload_n 0, 1) := by decide +kernel
theorem dX11_give_70 : decode cX11_give 70 = .ok (.getfield 255, 3) := by decide +kernel
theorem dX11_give_73 : decode cX11_give 73 = .ok (.iload_n 1, 1) := by decide +kernel
theorem dX11_give_74 : decode cX11_give 74 = .ok (.iaload, 1) := by decide +kernel
theorem dX11_give_75 : decode cX11_give 75 = .ok (.iconst 1, 1) := by decide +kernel
theorem dX11_give_76 : decode cX11_give 76 = .ok (.iload_n 2, 1) := by decide +kernel
theorem dX11_give_77 : decode cX11_give 77 = .ok (.ishl, 1) := by decide +kernel
theorem dX11_give_78 : decode cX11_give 78 = .ok (.ior, 1) := by decide +kernel
theorem dX11_give_79 : decode cX11_give 79 = .ok (.goto 15, 3) := by decide +kernel
theorem dX11_give_82 : decode cX11_give 82 = .ok (.aload_n 0, 1) := by decide +kernel
theorem dX11_give_83 : decode cX11_give 83 = .ok (.getfield 255, 3) := by decide +kernel
theorem dX11_give_86 : decode cX11_give 86 = .ok (.iload_n 1, 1) := by decide +kernel
theorem dX11_give_87 : decode cX11_give 87 = .ok (.iaload, 1) := by decide +kernel
theorem dX11_give_88 : decode cX11_give 88 = .ok (.iconst 1, 1) := by decide +kernel
theorem dX11_give_89 : decode cX11_give 89 = .ok (.iload_n 2, 1) := by decide +kernel
theorem dX11_give_90 : decode cX11_give 90 = .ok (.ishl, 1) := by decide +kernel
theorem dX11_give_91 : decode cX11_give 91 = .ok (.iconst (-1), 1) := by decide +kernel
theorem dX11_give_92 : decode cX11_give 92 = .ok (.ixor, 1) := by decide +kernel
theorem dX11_give_93 : decode cX11_give 93 = .ok (.iand, 1) := by decide +kernel
theorem dX11_give_94 : decode cX11_give 94 = .ok (.iastore, 1) := by decide +kernel
theorem dX11_give_95 : decode cX11_give 95 = .ok (.aload_n 0, 1) := by decide +kernel
theorem dX11_give_96 : decode cX11_give 96 = .ok (.getfield 258, 3) := by decide +kernel
theorem dX11_give_99 : decode cX11_give 99 = .ok (.iconst 4, 1) := by decide +kernel
theorem dX11_give_100 : decode cX11_give 100 = .ok (.iload_n 1, 1) := by decide +kernel
theorem dX11_give_101 : decode cX11_give 101 = .ok (.imul, 1) := by decide +kernel
theorem dX11_give_102 : decode cX11_give 102 = .ok (.iload_n 2, 1) := by decide +kernel
theorem dX11_give_103 : decode cX11_give 103 = .ok (.iadd, 1) := by decide +kernel
theorem dX11_give_104 : decode cX11_give 104 = .ok (.iload 4, 2) := by decide +kernel
theorem dX11_give_106 : decode cX11_give 106 = .ok (.i2l, 1) := by decide +kernel
theorem dX11_give_107 : decode cX11_give 107 = .ok (.lastore, 1) := by decide +kernel
theorem dX11_give_108 : decode cX11_give 108 = .ok (.iconst 1, 1) := by decide +kernel
theorem dX11_give_109 : decode cX11_give 109 = .ok (.ireturn, 1) := by decide +kernel
theorem dX11_workedNode_0 : decode cX11_workedNode 0 = .ok (.aload_n 0, 1) := by decide +kernel
theorem dX11_workedNode_1 : decode cX11_workedNode 1 = .ok (.getfield 69, 3) := by decide +kernel
theorem dX11_workedNode_4 : decode cX11_workedNode 4 = .ok (.iload_n 1, 1) := by decide +kernel
theorem dX11_workedNode_5 : decode cX11_workedNode 5 = .ok (.iaload, 1) := by decide +kernel
theorem dX11_workedNode_6 : decode cX11_workedNode 6 = .ok (.iconst 3, 1) := by decide +kernel
theorem dX11_workedNode_7 : decode cX11_workedNode 7 = .ok (.if_icmp .ge 12, 3) := by decide +kernel
theorem dX11_workedNode_10 : decode cX11_workedNode 10 = .ok (.aload_n 0, 1) := by decide +kernel
theorem dX11_workedNode_11 : decode cX11_workedNode 11 = .ok (.getfield 72, 3) := by decide +kernel
theorem dX11_workedNode_14 : decode cX11_workedNode 14 = .ok (.iload_n 1, 1) := by decide +kernel
theorem dX11_workedNode_15 : decode cX11_workedNode 15 = .ok (.laload, 1) := by decide +kernel
theorem dX11_workedNode_16 : decode cX11_workedNode 16 = .ok (.goto 15, 3) := by decide +kernel
theorem dX11_workedNode_19 : decode cX11_workedNode 19 = .ok (.aload_n 0, 1) := by decide +kernel
theorem dX11_workedNode_20 : decode cX11_workedNode 20 = .ok (.getfield 276, 3) := by decide +kernel
theorem dX11_workedNode_23 : decode cX11_workedNode 23 = .ok (.aload_n 0, 1) := by decide +kernel
theorem dX11_workedNode_24 : decode cX11_workedNode 24 = .ok (.getfield 72, 3) := by decide +kernel
theorem dX11_workedNode_27 : decode cX11_workedNode 27 = .ok (.iload_n 1, 1) := by decide +kernel
theorem dX11_workedNode_28 : decode cX11_workedNode 28 = .ok (.laload, 1) := by decide +kernel
theorem dX11_workedNode_29 : decode cX11_workedNode 29 = .ok (.l2i, 1) := by decide +kernel
theorem dX11_workedNode_30 : decode cX11_workedNode 30 = .ok (.laload, 1) := by decide +kernel
theorem dX11_workedNode_31 : decode cX11_workedNode 31 = .ok (.lstore_n 2, 1) := by decide +kernel
theorem dX11_workedNode_32 : decode cX11_workedNode 32 = .ok (.aload_n 0, 1) := by decide +kernel
theorem dX11_workedNode_33 : decode cX11_workedNode 33 = .ok (.getfield 69, 3) := by decide +kernel
theorem dX11_workedNode_36 : decode cX11_workedNode 36 = .ok (.iload_n 1, 1) := by decide +kernel
theorem dX11_workedNode_37 : decode cX11_workedNode 37 = .ok (.iaload, 1) := by decide +kernel
theorem dX11_workedNode_38 : decode cX11_workedNode 38 = .ok (.iconst 3, 1) := by decide +kernel
theorem dX11_workedNode_39 : decode cX11_workedNode 39 = .ok (.if_icmp .le 17, 3) := by decide +kernel
theorem dX11_workedNode_42 : decode cX11_workedNode 42 = .ok (.aload_n 0, 1) := by decide +kernel
theorem dX11_workedNode_43 : decode cX11_workedNode 43 = .ok (.getfield 276, 3) := by decide +kernel
theorem dX11_workedNode_46 : decode cX11_workedNode 46 = .ok (.aload_n 0, 1) := by decide +kernel
theorem dX11_workedNode_47 : decode cX11_workedNode 47 = .ok (.getfield 75, 3) := by decide +kernel
theorem dX11_workedNode_50 : decode cX11_workedNode 50 = .ok (.iload_n 1, 1) := by decide +kernel
theorem dX11_workedNode_51 : decode cX11_workedNode 51 = .ok (.iaload, 1) := by decide +kernel
theorem dX11_workedNode_52 : decode cX11_workedNode 52 = .ok (.laload, 1) := by decide +kernel
theorem dX11_workedNode_53 : decode cX11_workedNode 53 = .ok (.goto 4, 3) := by decide +kernel
theorem dX11_workedNode_56 : decode cX11_workedNode 56 = .ok (.lconst 0, 1) := by decide +kernel
theorem dX11_workedNode_57 : decode cX11_workedNode 57 = .ok (.lstore 4, 2) := by decide +kernel
theorem dX11_workedNode_59 : decode cX11_workedNode 59 = .ok (.aload_n 0, 1) := by decide +kernel
theorem dX11_workedNode_60 : decode cX11_workedNode 60 = .ok (.getfield 69, 3) := by decide +kernel
theorem dX11_workedNode_63 : decode cX11_workedNode 63 = .ok (.iload_n 1, 1) := by decide +kernel
theorem dX11_workedNode_64 : decode cX11_workedNode 64 = .ok (.iaload, 1) := by decide +kernel
theorem dX11_workedNode_65 : decode cX11_workedNode 65 = .ok (.tableswitch 117 1 8 #[47, 55, 63, 66, 71, 71, 107, 112], 47) := by decide +kernel
theorem dX11_workedNode_112 : decode cX11_workedNode 112 = .ok (.aload_n 0, 1) := by decide +kernel
theorem dX11_workedNode_113 : decode cX11_workedNode 113 = .ok (.getfield 282, 3) := by decide +kernel
theorem dX11_workedNode_116 : decode cX11_workedNode 116 = .ok (.lload_n 2, 1) := by decide +kernel
theorem dX11_workedNode_117 : decode cX11_workedNode 117 = .ok (.l2i, 1) := by decide +kernel
theorem dX11_workedNode_118 : decode cX11_workedNode 118 = .ok (.laload, 1) := by decide +kernel
theorem dX11_workedNode_119 : decode cX11_workedNode 119 = .ok (.lreturn, 1) := by decide +kernel
theorem dX11_workedNode_120 : decode cX11_workedNode 120 = .ok (.aload_n 0, 1) := by decide +kernel
theorem dX11_workedNode_121 : decode cX11_workedNode 121 = .ok (.getfield 279, 3) := by decide +kernel
theorem dX11_workedNode_124 : decode cX11_workedNode 124 = .ok (.lload_n 2, 1) := by decide +kernel
theorem dX11_workedNode_125 : decode cX11_workedNode 125 = .ok (.l2i, 1) := by decide +kernel
theorem dX11_workedNode_126 : decode cX11_workedNode 126 = .ok (.laload, 1) := by decide +kernel
theorem dX11_workedNode_127 : decode cX11_workedNode 127 = .ok (.lreturn, 1) := by decide +kernel
theorem dX11_workedNode_128 : decode cX11_workedNode 128 = .ok (.lload_n 2, 1) := by decide +kernel
theorem dX11_workedNode_129 : decode cX11_workedNode 129 = .ok (.lneg, 1) := by decide +kernel
theorem dX11_workedNode_130 : decode cX11_workedNode 130 = .ok (.lreturn, 1) := by decide +kernel
theorem dX11_workedNode_131 : decode cX11_workedNode 131 = .ok (.lload_n 2, 1) := by decide +kernel
theorem dX11_workedNode_132 : decode cX11_workedNode 132 = .ok (.lload 4, 2) := by decide +kernel
theorem dX11_workedNode_134 : decode cX11_workedNode 134 = .ok (.lmul, 1) := by decide +kernel
theorem dX11_workedNode_135 : decode cX11_workedNode 135 = .ok (.lreturn, 1) := by decide +kernel
theorem dX11_workedNode_136 : decode cX11_workedNode 136 = .ok (.lload 4, 2) := by decide +kernel
theorem dX11_workedNode_138 : decode cX11_workedNode 138 = .ok (.lconst 0, 1) := by decide +kernel
theorem dX11_workedNode_139 : decode cX11_workedNode 139 = .ok (.lcmp, 1) := by decide +kernel
theorem dX11_workedNode_140 : decode cX11_workedNode 140 = .ok (.ifCond .ne 10, 3) := by decide +kernel
theorem dX11_workedNode_143 : decode cX11_workedNode 143 = .ok (.aload_n 0, 1) := by decide +kernel
theorem dX11_workedNode_144 : decode cX11_workedNode 144 = .ok (.iconst 1, 1) := by decide +kernel
theorem dX11_workedNode_145 : decode cX11_workedNode 145 = .ok (.putfield 802, 3) := by decide +kernel
theorem dX11_workedNode_148 : decode cX11_workedNode 148 = .ok (.lconst 0, 1) := by decide +kernel
theorem dX11_workedNode_149 : decode cX11_workedNode 149 = .ok (.lreturn, 1) := by decide +kernel
theorem dX11_workedNode_150 : decode cX11_workedNode 150 = .ok (.aload_n 0, 1) := by decide +kernel
theorem dX11_workedNode_151 : decode cX11_workedNode 151 = .ok (.getfield 69, 3) := by decide +kernel
theorem dX11_workedNode_154 : decode cX11_workedNode 154 = .ok (.iload_n 1, 1) := by decide +kernel
theorem dX11_workedNode_155 : decode cX11_workedNode 155 = .ok (.iaload, 1) := by decide +kernel
theorem dX11_workedNode_156 : decode cX11_workedNode 156 = .ok (.iconst 5, 1) := by decide +kernel
theorem dX11_workedNode_157 : decode cX11_workedNode 157 = .ok (.if_icmp .ne 10, 3) := by decide +kernel
theorem dX11_workedNode_160 : decode cX11_workedNode 160 = .ok (.lload_n 2, 1) := by decide +kernel
theorem dX11_workedNode_161 : decode cX11_workedNode 161 = .ok (.lload 4, 2) := by decide +kernel
theorem dX11_workedNode_163 : decode cX11_workedNode 163 = .ok (.ldiv, 1) := by decide +kernel
theorem dX11_workedNode_164 : decode cX11_workedNode 164 = .ok (.goto 7, 3) := by decide +kernel
theorem dX11_workedNode_167 : decode cX11_workedNode 167 = .ok (.lload_n 2, 1) := by decide +kernel
theorem dX11_workedNode_168 : decode cX11_workedNode 168 = .ok (.lload 4, 2) := by decide +kernel
theorem dX11_workedNode_170 : decode cX11_workedNode 170 = .ok (.lrem, 1) := by decide +kernel
theorem dX11_workedNode_171 : decode cX11_workedNode 171 = .ok (.lreturn, 1) := by decide +kernel
theorem dX11_workedNode_172 : decode cX11_workedNode 172 = .ok (.lload_n 2, 1) := by decide +kernel
theorem dX11_workedNode_173 : decode cX11_workedNode 173 = .ok (.lload 4, 2) := by decide +kernel
theorem dX11_workedNode_175 : decode cX11_workedNode 175 = .ok (.ladd, 1) := by decide +kernel
theorem dX11_workedNode_176 : decode cX11_workedNode 176 = .ok (.lreturn, 1) := by decide +kernel
theorem dX11_workedNode_177 : decode cX11_workedNode 177 = .ok (.lload_n 2, 1) := by decide +kernel
theorem dX11_workedNode_178 : decode cX11_workedNode 178 = .ok (.lload 4, 2) := by decide +kernel
theorem dX11_workedNode_180 : decode cX11_workedNode 180 = .ok (.lsub, 1) := by decide +kernel
theorem dX11_workedNode_181 : decode cX11_workedNode 181 = .ok (.lreturn, 1) := by decide +kernel
theorem dX11_workedNode_182 : decode cX11_workedNode 182 = .ok (.lload_n 2, 1) := by decide +kernel
theorem dX11_workedNode_183 : decode cX11_workedNode 183 = .ok (.lreturn, 1) := by decide +kernel
theorem dX11_work_0 : decode cX11_work 0 = .ok (.iload_n 1, 1) := by decide +kernel
theorem dX11_work_1 : decode cX11_work 1 = .ok (.istore_n 3, 1) := by decide +kernel
theorem dX11_work_2 : decode cX11_work 2 = .ok (.iload_n 3, 1) := by decide +kernel
theorem dX11_work_3 : decode cX11_work 3 = .ok (.iload_n 2, 1) := by decide +kernel
theorem dX11_work_4 : decode cX11_work 4 = .ok (.if_icmp .gt 57, 3) := by decide +kernel
theorem dX11_work_7 : decode cX11_work 7 = .ok (.aload_n 0, 1) := by decide +kernel
theorem dX11_work_8 : decode cX11_work 8 = .ok (.getfield 802, 3) := by decide +kernel
theorem dX11_work_11 : decode cX11_work 11 = .ok (.ifCond .ne 50, 3) := by decide +kernel
theorem dX11_work_14 : decode cX11_work 14 = .ok (.aload_n 0, 1) := by decide +kernel
theorem dX11_work_15 : decode cX11_work 15 = .ok (.getfield 276, 3) := by decide +kernel
theorem dX11_work_18 : decode cX11_work 18 = .ok (.iload_n 3, 1) := by decide +kernel
theorem dX11_work_19 : decode cX11_work 19 = .ok (.aload_n 0, 1) := by decide +kernel
theorem dX11_work_20 : decode cX11_work 20 = .ok (.iload_n 3, 1) := by decide +kernel
theorem dX11_work_21 : decode cX11_work 21 = .ok (.invokevirtual 805, 3) := by decide +kernel
theorem dX11_work_24 : decode cX11_work 24 = .ok (.lastore, 1) := by decide +kernel
theorem dX11_work_25 : decode cX11_work 25 = .ok (.aload_n 0, 1) := by decide +kernel
theorem dX11_work_26 : decode cX11_work 26 = .ok (.getfield 802, 3) := by decide +kernel
theorem dX11_work_29 : decode cX11_work 29 = .ok (.ifCond .ne 26, 3) := by decide +kernel
theorem dX11_work_32 : decode cX11_work 32 = .ok (.aload_n 0, 1) := by decide +kernel
theorem dX11_work_33 : decode cX11_work 33 = .ok (.getfield 276, 3) := by decide +kernel
theorem dX11_work_36 : decode cX11_work 36 = .ok (.iload_n 3, 1) := by decide +kernel
theorem dX11_work_37 : decode cX11_work 37 = .ok (.laload, 1) := by decide +kernel
theorem dX11_work_38 : decode cX11_work 38 = .ok (.ldc2_w 798, 3) := by decide +kernel
theorem dX11_work_41 : decode cX11_work 41 = .ok (.ldc2_w 800, 3) := by decide +kernel
theorem dX11_work_44 : decode cX11_work 44 = .ok (.invokestatic 332, 3) := by decide +kernel
theorem dX11_work_47 : decode cX11_work 47 = .ok (.ifCond .ne 8, 3) := by decide +kernel
theorem dX11_work_50 : decode cX11_work 50 = .ok (.aload_n 0, 1) := by decide +kernel
theorem dX11_work_51 : decode cX11_work 51 = .ok (.iconst 2, 1) := by decide +kernel
theorem dX11_work_52 : decode cX11_work 52 = .ok (.putfield 802, 3) := by decide +kernel
theorem dX11_work_55 : decode cX11_work 55 = .ok (.iinc 3 1, 3) := by decide +kernel
theorem dX11_work_58 : decode cX11_work 58 = .ok (.goto (-56), 3) := by decide +kernel
theorem dX11_work_61 : decode cX11_work 61 = .ok (.aload_n 0, 1) := by decide +kernel
theorem dX11_work_62 : decode cX11_work 62 = .ok (.getfield 802, 3) := by decide +kernel
theorem dX11_work_65 : decode cX11_work 65 = .ok (.ifCond .ne 12, 3) := by decide +kernel
theorem dX11_work_68 : decode cX11_work 68 = .ok (.aload_n 0, 1) := by decide +kernel
theorem dX11_work_69 : decode cX11_work 69 = .ok (.getfield 276, 3) := by decide +kernel
theorem dX11_work_72 : decode cX11_work 72 = .ok (.iload_n 2, 1) := by decide +kernel
theorem dX11_work_73 : decode cX11_work 73 = .ok (.laload, 1) := by decide +kernel
theorem dX11_work_74 : decode cX11_work 74 = .ok (.goto 4, 3) := by decide +kernel
theorem dX11_work_77 : decode cX11_work 77 = .ok (.lconst 0, 1) := by decide +kernel
theorem dX11_work_78 : decode cX11_work 78 = .ok (.lreturn, 1) := by decide +kernel
theorem dX11_holds_0 : decode cX11_holds 0 = .ok (.iload_n 0, 1) := by decide +kernel
theorem dX11_holds_1 : decode cX11_holds 1 = .ok (.tableswitch 95 0 4 #[35, 47, 59, 71, 83], 35) := by decide +kernel
theorem dX11_holds_36 : decode cX11_holds 36 = .ok (.lload_n 1, 1) := by decide +kernel
theorem dX11_holds_37 : decode cX11_holds 37 = .ok (.lload_n 3, 1) := by decide +kernel
theorem dX11_holds_38 : decode cX11_holds 38 = .ok (.lcmp, 1) := by decide +kernel
theorem dX11_holds_39 : decode cX11_holds 39 = .ok (.ifCond .ne 7, 3) := by decide +kernel
theorem dX11_holds_42 : decode cX11_holds 42 = .ok (.iconst 1, 1) := by decide +kernel
theorem dX11_holds_43 : decode cX11_holds 43 = .ok (.goto 4, 3) := by decide +kernel
theorem dX11_holds_46 : decode cX11_holds 46 = .ok (.iconst 0, 1) := by decide +kernel
theorem dX11_holds_47 : decode cX11_holds 47 = .ok (.ireturn, 1) := by decide +kernel
theorem dX11_holds_48 : decode cX11_holds 48 = .ok (.lload_n 1, 1) := by decide +kernel
theorem dX11_holds_49 : decode cX11_holds 49 = .ok (.lload_n 3, 1) := by decide +kernel
theorem dX11_holds_50 : decode cX11_holds 50 = .ok (.lcmp, 1) := by decide +kernel
theorem dX11_holds_51 : decode cX11_holds 51 = .ok (.ifCond .eq 7, 3) := by decide +kernel
theorem dX11_holds_54 : decode cX11_holds 54 = .ok (.iconst 1, 1) := by decide +kernel
theorem dX11_holds_55 : decode cX11_holds 55 = .ok (.goto 4, 3) := by decide +kernel
theorem dX11_holds_58 : decode cX11_holds 58 = .ok (.iconst 0, 1) := by decide +kernel
theorem dX11_holds_59 : decode cX11_holds 59 = .ok (.ireturn, 1) := by decide +kernel
theorem dX11_holds_60 : decode cX11_holds 60 = .ok (.lload_n 1, 1) := by decide +kernel
theorem dX11_holds_61 : decode cX11_holds 61 = .ok (.lload_n 3, 1) := by decide +kernel
theorem dX11_holds_62 : decode cX11_holds 62 = .ok (.lcmp, 1) := by decide +kernel
theorem dX11_holds_63 : decode cX11_holds 63 = .ok (.ifCond .ge 7, 3) := by decide +kernel
theorem dX11_holds_66 : decode cX11_holds 66 = .ok (.iconst 1, 1) := by decide +kernel
theorem dX11_holds_67 : decode cX11_holds 67 = .ok (.goto 4, 3) := by decide +kernel
theorem dX11_holds_70 : decode cX11_holds 70 = .ok (.iconst 0, 1) := by decide +kernel
theorem dX11_holds_71 : decode cX11_holds 71 = .ok (.ireturn, 1) := by decide +kernel
theorem dX11_holds_72 : decode cX11_holds 72 = .ok (.lload_n 1, 1) := by decide +kernel
theorem dX11_holds_73 : decode cX11_holds 73 = .ok (.lload_n 3, 1) := by decide +kernel
theorem dX11_holds_74 : decode cX11_holds 74 = .ok (.lcmp, 1) := by decide +kernel
theorem dX11_holds_75 : decode cX11_holds 75 = .ok (.ifCond .gt 7, 3) := by decide +kernel
theorem dX11_holds_78 : decode cX11_holds 78 = .ok (.iconst 1, 1) := by decide +kernel
theorem dX11_holds_79 : decode cX11_holds 79 = .ok (.goto 4, 3) := by decide +kernel
theorem dX11_holds_82 : decode cX11_holds 82 = .ok (.iconst 0, 1) := by decide +kernel
theorem dX11_holds_83 : decode cX11_holds 83 = .ok (.ireturn, 1) := by decide +kernel
theorem dX11_holds_84 : decode cX11_holds 84 = .ok (.lload_n 1, 1) := by decide +kernel
theorem dX11_holds_85 : decode cX11_holds 85 = .ok (.lload_n 3, 1) := by decide +kernel
theorem dX11_holds_86 : decode cX11_holds 86 = .ok (.lcmp, 1) := by decide +kernel
theorem dX11_holds_87 : decode cX11_holds 87 = .ok (.ifCond .le 7, 3) := by decide +kernel
theorem dX11_holds_90 : decode cX11_holds 90 = .ok (.iconst 1, 1) := by decide +kernel
theorem dX11_holds_91 : decode cX11_holds 91 = .ok (.goto 4, 3) := by decide +kernel
theorem dX11_holds_94 : decode cX11_holds 94 = .ok (.iconst 0, 1) := by decide +kernel
theorem dX11_holds_95 : decode cX11_holds 95 = .ok (.ireturn, 1) := by decide +kernel
theorem dX11_holds_96 : decode cX11_holds 96 = .ok (.lload_n 1, 1) := by decide +kernel
theorem dX11_holds_97 : decode cX11_holds 97 = .ok (.lload_n 3, 1) := by decide +kernel
theorem dX11_holds_98 : decode cX11_holds 98 = .ok (.lcmp, 1) := by decide +kernel
theorem dX11_holds_99 : decode cX11_holds 99 = .ok (.ifCond .lt 7, 3) := by decide +kernel
theorem dX11_holds_102 : decode cX11_holds 102 = .ok (.iconst 1, 1) := by decide +kernel
theorem dX11_holds_103 : decode cX11_holds 103 = .ok (.goto 4, 3) := by decide +kernel
theorem dX11_holds_106 : decode cX11_holds 106 = .ok (.iconst 0, 1) := by decide +kernel
theorem dX11_holds_107 : decode cX11_holds 107 = .ok (.ireturn, 1) := by decide +kernel
theorem dX11_workIfs_0 : decode cX11_workIfs 0 = .ok (.aload_n 0, 1) := by decide +kernel
theorem dX11_workIfs_1 : decode cX11_workIfs 1 = .ok (.iconst 0, 1) := by decide +kernel
theorem dX11_workIfs_2 : decode cX11_workIfs 2 = .ok (.putfield 749, 3) := by decide +kernel
theorem dX11_workIfs_5 : decode cX11_workIfs 5 = .ok (.iconst 0, 1) := by decide +kernel
theorem dX11_workIfs_6 : decode cX11_workIfs 6 = .ok (.istore_n 1, 1) := by decide +kernel
theorem dX11_workIfs_7 : decode cX11_workIfs 7 = .ok (.bipush 40, 2) := by decide +kernel
theorem dX11_workIfs_9 : decode cX11_workIfs 9 = .ok (.aload_n 0, 1) := by decide +kernel
theorem dX11_workIfs_10 : decode cX11_workIfs 10 = .ok (.getfield 742, 3) := by decide +kernel
theorem dX11_workIfs_13 : decode cX11_workIfs 13 = .ok (.imul, 1) := by decide +kernel
theorem dX11_workIfs_14 : decode cX11_workIfs 14 = .ok (.istore_n 2, 1) := by decide +kernel
theorem dX11_workIfs_15 : decode cX11_workIfs 15 = .ok (.iload_n 2, 1) := by decide +kernel
theorem dX11_workIfs_16 : decode cX11_workIfs 16 = .ok (.bipush 40, 2) := by decide +kernel
theorem dX11_workIfs_18 : decode cX11_workIfs 18 = .ok (.aload_n 0, 1) := by decide +kernel
theorem dX11_workIfs_19 : decode cX11_workIfs 19 = .ok (.getfield 742, 3) := by decide +kernel
theorem dX11_workIfs_22 : decode cX11_workIfs 22 = .ok (.imul, 1) := by decide +kernel
theorem dX11_workIfs_23 : decode cX11_workIfs 23 = .ok (.aload_n 0, 1) := by decide +kernel
theorem dX11_workIfs_24 : decode cX11_workIfs 24 = .ok (.getfield 84, 3) := by decide +kernel
theorem dX11_workIfs_27 : decode cX11_workIfs 27 = .ok (.aload_n 0, 1) := by decide +kernel
theorem dX11_workIfs_28 : decode cX11_workIfs 28 = .ok (.getfield 742, 3) := by decide +kernel
theorem dX11_workIfs_31 : decode cX11_workIfs 31 = .ok (.iaload, 1) := by decide +kernel
theorem dX11_workIfs_32 : decode cX11_workIfs 32 = .ok (.iadd, 1) := by decide +kernel
theorem dX11_workIfs_33 : decode cX11_workIfs 33 = .ok (.if_icmp .ge 134, 3) := by decide +kernel
theorem dX11_workIfs_36 : decode cX11_workIfs 36 = .ok (.aload_n 0, 1) := by decide +kernel
theorem dX11_workIfs_37 : decode cX11_workIfs 37 = .ok (.getfield 285, 3) := by decide +kernel
theorem dX11_workIfs_40 : decode cX11_workIfs 40 = .ok (.iload_n 2, 1) := by decide +kernel
theorem dX11_workIfs_41 : decode cX11_workIfs 41 = .ok (.bipush 40, 2) := by decide +kernel
theorem dX11_workIfs_43 : decode cX11_workIfs 43 = .ok (.aload_n 0, 1) := by decide +kernel
theorem dX11_workIfs_44 : decode cX11_workIfs 44 = .ok (.getfield 742, 3) := by decide +kernel
theorem dX11_workIfs_47 : decode cX11_workIfs 47 = .ok (.imul, 1) := by decide +kernel
theorem dX11_workIfs_48 : decode cX11_workIfs 48 = .ok (.isub, 1) := by decide +kernel
theorem dX11_workIfs_49 : decode cX11_workIfs 49 = .ok (.iconst 0, 1) := by decide +kernel
theorem dX11_workIfs_50 : decode cX11_workIfs 50 = .ok (.iastore, 1) := by decide +kernel
theorem dX11_workIfs_51 : decode cX11_workIfs 51 = .ok (.aload_n 0, 1) := by decide +kernel
theorem dX11_workIfs_52 : decode cX11_workIfs 52 = .ok (.getfield 96, 3) := by decide +kernel
theorem dX11_workIfs_55 : decode cX11_workIfs 55 = .ok (.iload_n 2, 1) := by decide +kernel
theorem dX11_workIfs_56 : decode cX11_workIfs 56 = .ok (.iaload, 1) := by decide +kernel
theorem dX11_workIfs_57 : decode cX11_workIfs 57 = .ok (.bipush 14, 2) := by decide +kernel
theorem dX11_workIfs_59 : decode cX11_workIfs 59 = .ok (.if_icmp .ne 102, 3) := by decide +kernel
theorem dX11_workIfs_62 : decode cX11_workIfs 62 = .ok (.aload_n 0, 1) := by decide +kernel
theorem dX11_workIfs_63 : decode cX11_workIfs 63 = .ok (.iconst 0, 1) := by decide +kernel
theorem dX11_workIfs_64 : decode cX11_workIfs 64 = .ok (.putfield 802, 3) := by decide +kernel
theorem dX11_workIfs_67 : decode cX11_workIfs 67 = .ok (.aload_n 0, 1) := by decide +kernel
theorem dX11_workIfs_68 : decode cX11_workIfs 68 = .ok (.aload_n 0, 1) := by decide +kernel
theorem dX11_workIfs_69 : decode cX11_workIfs 69 = .ok (.getfield 114, 3) := by decide +kernel
theorem dX11_workIfs_72 : decode cX11_workIfs 72 = .ok (.iload_n 2, 1) := by decide +kernel
theorem dX11_workIfs_73 : decode cX11_workIfs 73 = .ok (.iaload, 1) := by decide +kernel
theorem dX11_workIfs_74 : decode cX11_workIfs 74 = .ok (.aload_n 0, 1) := by decide +kernel
theorem dX11_workIfs_75 : decode cX11_workIfs 75 = .ok (.getfield 117, 3) := by decide +kernel
theorem dX11_workIfs_78 : decode cX11_workIfs 78 = .ok (.iload_n 2, 1) := by decide +kernel
theorem dX11_workIfs_79 : decode cX11_workIfs 79 = .ok (.iaload, 1) := by decide +kernel
theorem dX11_workIfs_80 : decode cX11_workIfs 80 = .ok (.invokevirtual 809, 3) := by decide +kernel
theorem dX11_workIfs_83 : decode cX11_workIfs 83 = .ok (.lstore_n 3, 1) := by decide +kernel
theorem dX11_workIfs_84 : decode cX11_workIfs 84 = .ok (.aload_n 0, 1) := by decide +kernel
theorem dX11_workIfs_85 : decode cX11_workIfs 85 = .ok (.aload_n 0, 1) := by decide +kernel
theorem dX11_workIfs_86 : decode cX11_workIfs 86 = .ok (.getfield 120, 3) := by decide +kernel
theorem dX11_workIfs_89 : decode cX11_workIfs 89 = .ok (.iload_n 2, 1) := by decide +kernel
theorem dX11_workIfs_90 : decode cX11_workIfs 90 = .ok (.iaload, 1) := by decide +kernel
theorem dX11_workIfs_91 : decode cX11_workIfs 91 = .ok (.aload_n 0, 1) := by decide +kernel
theorem dX11_workIfs_92 : decode cX11_workIfs 92 = .ok (.getfield 123, 3) := by decide +kernel
theorem dX11_workIfs_95 : decode cX11_workIfs 95 = .ok (.iload_n 2, 1) := by decide +kernel
theorem dX11_workIfs_96 : decode cX11_workIfs 96 = .ok (.iaload, 1) := by decide +kernel
theorem dX11_workIfs_97 : decode cX11_workIfs 97 = .ok (.invokevirtual 809, 3) := by decide +kernel
theorem dX11_workIfs_100 : decode cX11_workIfs 100 = .ok (.lstore 5, 2) := by decide +kernel
theorem dX11_workIfs_102 : decode cX11_workIfs 102 = .ok (.aload_n 0, 1) := by decide +kernel
theorem dX11_workIfs_103 : decode cX11_workIfs 103 = .ok (.getfield 285, 3) := by decide +kernel
theorem dX11_workIfs_106 : decode cX11_workIfs 106 = .ok (.iload_n 2, 1) := by decide +kernel
theorem dX11_workIfs_107 : decode cX11_workIfs 107 = .ok (.bipush 40, 2) := by decide +kernel
theorem dX11_workIfs_109 : decode cX11_workIfs 109 = .ok (.aload_n 0, 1) := by decide +kernel
theorem dX11_workIfs_110 : decode cX11_workIfs 110 = .ok (.getfield 742, 3) := by decide +kernel
theorem dX11_workIfs_113 : decode cX11_workIfs 113 = .ok (.imul, 1) := by decide +kernel
theorem dX11_workIfs_114 : decode cX11_workIfs 114 = .ok (.isub, 1) := by decide +kernel
theorem dX11_workIfs_115 : decode cX11_workIfs 115 = .ok (.aload_n 0, 1) := by decide +kernel
theorem dX11_workIfs_116 : decode cX11_workIfs 116 = .ok (.getfield 802, 3) := by decide +kernel
theorem dX11_workIfs_119 : decode cX11_workIfs 119 = .ok (.iastore, 1) := by decide +kernel
theorem dX11_workIfs_120 : decode cX11_workIfs 120 = .ok (.aload_n 0, 1) := by decide +kernel
theorem dX11_workIfs_121 : decode cX11_workIfs 121 = .ok (.dup, 1) := by decide +kernel
theorem dX11_workIfs_122 : decode cX11_workIfs 122 = .ok (.getfield 749, 3) := by decide +kernel
theorem dX11_workIfs_125 : decode cX11_workIfs 125 = .ok (.aload_n 0, 1) := by decide +kernel
theorem dX11_workIfs_126 : decode cX11_workIfs 126 = .ok (.getfield 802, 3) := by decide +kernel
theorem dX11_workIfs_129 : decode cX11_workIfs 129 = .ok (.ifCond .ne 24, 3) := by decide +kernel
theorem dX11_workIfs_132 : decode cX11_workIfs 132 = .ok (.aload_n 0, 1) := by decide +kernel
theorem dX11_workIfs_133 : decode cX11_workIfs 133 = .ok (.getfield 126, 3) := by decide +kernel
theorem dX11_workIfs_136 : decode cX11_workIfs 136 = .ok (.iload_n 2, 1) := by decide +kernel
theorem dX11_workIfs_137 : decode cX11_workIfs 137 = .ok (.iaload, 1) := by decide +kernel
theorem dX11_workIfs_138 : decode cX11_workIfs 138 = .ok (.lload_n 3, 1) := by decide +kernel
theorem dX11_workIfs_139 : decode cX11_workIfs 139 = .ok (.lload 5, 2) := by decide +kernel
theorem dX11_workIfs_141 : decode cX11_workIfs 141 = .ok (.invokestatic 813, 3) := by decide +kernel
theorem dX11_workIfs_144 : decode cX11_workIfs 144 = .ok (.ifCond .eq 9, 3) := by decide +kernel
theorem dX11_workIfs_147 : decode cX11_workIfs 147 = .ok (.iconst 1, 1) := by decide +kernel
theorem dX11_workIfs_148 : decode cX11_workIfs 148 = .ok (.iload_n 1, 1) := by decide +kernel
theorem dX11_workIfs_149 : decode cX11_workIfs 149 = .ok (.ishl, 1) := by decide +kernel
theorem dX11_workIfs_150 : decode cX11_workIfs 150 = .ok (.goto 4, 3) := by decide +kernel
theorem dX11_workIfs_153 : decode cX11_workIfs 153 = .ok (.iconst 0, 1) := by decide +kernel
theorem dX11_workIfs_154 : decode cX11_workIfs 154 = .ok (.ior, 1) := by decide +kernel
theorem dX11_workIfs_155 : decode cX11_workIfs 155 = .ok (.putfield 749, 3) := by decide +kernel
theorem dX11_workIfs_158 : decode cX11_workIfs 158 = .ok (.iinc 1 1, 3) := by decide +kernel
theorem dX11_workIfs_161 : decode cX11_workIfs 161 = .ok (.iinc 2 1, 3) := by decide +kernel
theorem dX11_workIfs_164 : decode cX11_workIfs 164 = .ok (.goto (-149), 3) := by decide +kernel
theorem dX11_workIfs_167 : decode cX11_workIfs 167 = .ok (.aload_n 0, 1) := by decide +kernel
theorem dX11_workIfs_168 : decode cX11_workIfs 168 = .ok (.iconst 0, 1) := by decide +kernel
theorem dX11_workIfs_169 : decode cX11_workIfs 169 = .ok (.putfield 802, 3) := by decide +kernel
theorem dX11_workIfs_172 : decode cX11_workIfs 172 = .ok (.return_, 1) := by decide +kernel
theorem dX11_emits_0 : decode cX11_emits 0 = .ok (.aload_n 0, 1) := by decide +kernel
theorem dX11_emits_1 : decode cX11_emits 1 = .ok (.getfield 102, 3) := by decide +kernel
theorem dX11_emits_4 : decode cX11_emits 4 = .ok (.iload_n 1, 1) := by decide +kernel
theorem dX11_emits_5 : decode cX11_emits 5 = .ok (.iaload, 1) := by decide +kernel
theorem dX11_emits_6 : decode cX11_emits 6 = .ok (.istore 4, 2) := by decide +kernel
theorem dX11_emits_8 : decode cX11_emits 8 = .ok (.aload_n 0, 1) := by decide +kernel
theorem dX11_emits_9 : decode cX11_emits 9 = .ok (.getfield 38, 3) := by decide +kernel
theorem dX11_emits_12 : decode cX11_emits 12 = .ok (.bipush 16, 2) := by decide +kernel
theorem dX11_emits_14 : decode cX11_emits 14 = .ok (.aload_n 0, 1) := by decide +kernel
theorem dX11_emits_15 : decode cX11_emits 15 = .ok (.getfield 742, 3) := by decide +kernel
theorem dX11_emits_18 : decode cX11_emits 18 = .ok (.imul, 1) := by decide +kernel
theorem dX11_emits_19 : decode cX11_emits 19 = .ok (.iload 4, 2) := by decide +kernel
theorem dX11_emits_21 : decode cX11_emits 21 = .ok (.iadd, 1) := by decide +kernel
theorem dX11_emits_22 : decode cX11_emits 22 = .ok (.iaload, 1) := by decide +kernel
theorem dX11_emits_23 : decode cX11_emits 23 = .ok (.istore 5, 2) := by decide +kernel
theorem dX11_emits_25 : decode cX11_emits 25 = .ok (.iload 5, 2) := by decide +kernel
theorem dX11_emits_27 : decode cX11_emits 27 = .ok (.ifCond .ne 4, 3) := by decide +kernel
theorem dX11_emits_30 : decode cX11_emits 30 = .ok (.return_, 1) := by decide +kernel
theorem dX11_emits_31 : decode cX11_emits 31 = .ok (.aload_n 0, 1) := by decide +kernel
theorem dX11_emits_32 : decode cX11_emits 32 = .ok (.getfield 817, 3) := by decide +kernel
theorem dX11_emits_35 : decode cX11_emits 35 = .ok (.iload 4, 2) := by decide +kernel
theorem dX11_emits_37 : decode cX11_emits 37 = .ok (.ishr, 1) := by decide +kernel
theorem dX11_emits_38 : decode cX11_emits 38 = .ok (.iconst 1, 1) := by decide +kernel
theorem dX11_emits_39 : decode cX11_emits 39 = .ok (.iand, 1) := by decide +kernel
theorem dX11_emits_40 : decode cX11_emits 40 = .ok (.ifCond .ne 14, 3) := by decide +kernel
theorem dX11_emits_43 : decode cX11_emits 43 = .ok (.aload_n 0, 1) := by decide +kernel
theorem dX11_emits_44 : decode cX11_emits 44 = .ok (.getfield 279, 3) := by decide +kernel
theorem dX11_emits_47 : decode cX11_emits 47 = .ok (.iload 4, 2) := by decide +kernel
theorem dX11_emits_49 : decode cX11_emits 49 = .ok (.lload_n 2, 1) := by decide +kernel
theorem dX11_emits_50 : decode cX11_emits 50 = .ok (.lastore, 1) := by decide +kernel
theorem dX11_emits_51 : decode cX11_emits 51 = .ok (.goto 95, 3) := by decide +kernel
theorem dX11_emits_54 : decode cX11_emits 54 = .ok (.iload 5, 2) := by decide +kernel
theorem dX11_emits_56 : decode cX11_emits 56 = .ok (.iconst 1, 1) := by decide +kernel
theorem dX11_emits_57 : decode cX11_emits 57 = .ok (.if_icmp .ne 11, 3) := by decide +kernel
theorem dX11_emits_60 : decode cX11_emits 60 = .ok (.aload_n 0, 1) := by decide +kernel
theorem dX11_emits_61 : decode cX11_emits 61 = .ok (.iconst 3, 1) := by decide +kernel
theorem dX11_emits_62 : decode cX11_emits 62 = .ok (.putfield 802, 3) := by decide +kernel
theorem dX11_emits_65 : decode cX11_emits 65 = .ok (.goto 81, 3) := by decide +kernel
theorem dX11_emits_68 : decode cX11_emits 68 = .ok (.iload 5, 2) := by decide +kernel
theorem dX11_emits_70 : decode cX11_emits 70 = .ok (.iconst 2, 1) := by decide +kernel
theorem dX11_emits_71 : decode cX11_emits 71 = .ok (.if_icmp .ne 45, 3) := by decide +kernel
theorem dX11_emits_74 : decode cX11_emits 74 = .ok (.aload_n 0, 1) := by decide +kernel
theorem dX11_emits_75 : decode cX11_emits 75 = .ok (.getfield 279, 3) := by decide +kernel
theorem dX11_emits_78 : decode cX11_emits 78 = .ok (.iload 4, 2) := by decide +kernel
theorem dX11_emits_80 : decode cX11_emits 80 = .ok (.dup2, 1) := by decide +kernel
theorem dX11_emits_81 : decode cX11_emits 81 = .ok (.laload, 1) := by decide +kernel
theorem dX11_emits_82 : decode cX11_emits 82 = .ok (.lload_n 2, 1) := by decide +kernel
theorem dX11_emits_83 : decode cX11_emits 83 = .ok (.ladd, 1) := by decide +kernel
theorem dX11_emits_84 : decode cX11_emits 84 = .ok (.lastore, 1) := by decide +kernel
theorem dX11_emits_85 : decode cX11_emits 85 = .ok (.aload_n 0, 1) := by decide +kernel
theorem dX11_emits_86 : decode cX11_emits 86 = .ok (.aload_n 0, 1) := by decide +kernel
theorem dX11_emits_87 : decode cX11_emits 87 = .ok (.getfield 279, 3) := by decide +kernel
theorem dX11_emits_90 : decode cX11_emits 90 = .ok (.iload 4, 2) := by decide +kernel
theorem dX11_emits_92 : decode cX11_emits 92 = .ok (.laload, 1) := by decide +kernel
theorem dX11_emits_93 : decode cX11_emits 93 = .ok (.ldc2_w 798, 3) := by decide +kernel
theorem dX11_emits_96 : decode cX11_emits 96 = .ok (.ldc2_w 800, 3) := by decide +kernel
theorem dX11_emits_99 : decode cX11_emits 99 = .ok (.invokestatic 332, 3) := by decide +kernel
theorem dX11_emits_102 : decode cX11_emits 102 = .ok (.ifCond .eq 7, 3) := by decide +kernel
theorem dX11_emits_105 : decode cX11_emits 105 = .ok (.iconst 0, 1) := by decide +kernel
theorem dX11_emits_106 : decode cX11_emits 106 = .ok (.goto 4, 3) := by decide +kernel
theorem dX11_emits_109 : decode cX11_emits 109 = .ok (.iconst 2, 1) := by decide +kernel
theorem dX11_emits_110 : decode cX11_emits 110 = .ok (.putfield 802, 3) := by decide +kernel
theorem dX11_emits_113 : decode cX11_emits 113 = .ok (.goto 33, 3) := by decide +kernel
theorem dX11_emits_116 : decode cX11_emits 116 = .ok (.aload_n 0, 1) := by decide +kernel
theorem dX11_emits_117 : decode cX11_emits 117 = .ok (.getfield 279, 3) := by decide +kernel
theorem dX11_emits_120 : decode cX11_emits 120 = .ok (.iload 4, 2) := by decide +kernel
theorem dX11_emits_122 : decode cX11_emits 122 = .ok (.lload_n 2, 1) := by decide +kernel
theorem dX11_emits_123 : decode cX11_emits 123 = .ok (.aload_n 0, 1) := by decide +kernel
theorem dX11_emits_124 : decode cX11_emits 124 = .ok (.getfield 279, 3) := by decide +kernel
theorem dX11_emits_127 : decode cX11_emits 127 = .ok (.iload 4, 2) := by decide +kernel
theorem dX11_emits_129 : decode cX11_emits 129 = .ok (.laload, 1) := by decide +kernel
theorem dX11_emits_130 : decode cX11_emits 130 = .ok (.lcmp, 1) := by decide +kernel
theorem dX11_emits_131 : decode cX11_emits 131 = .ok (.ifCond .le 7, 3) := by decide +kernel
theorem dX11_emits_134 : decode cX11_emits 134 = .ok (.lload_n 2, 1) := by decide +kernel
theorem dX11_emits_135 : decode cX11_emits 135 = .ok (.goto 10, 3) := by decide +kernel
theorem dX11_emits_138 : decode cX11_emits 138 = .ok (.aload_n 0, 1) := by decide +kernel
theorem dX11_emits_139 : decode cX11_emits 139 = .ok (.getfield 279, 3) := by decide +kernel
theorem dX11_emits_142 : decode cX11_emits 142 = .ok (.iload 4, 2) := by decide +kernel
theorem dX11_emits_144 : decode cX11_emits 144 = .ok (.laload, 1) := by decide +kernel
theorem dX11_emits_145 : decode cX11_emits 145 = .ok (.lastore, 1) := by decide +kernel
theorem dX11_emits_146 : decode cX11_emits 146 = .ok (.aload_n 0, 1) := by decide +kernel
theorem dX11_emits_147 : decode cX11_emits 147 = .ok (.dup, 1) := by decide +kernel
theorem dX11_emits_148 : decode cX11_emits 148 = .ok (.getfield 817, 3) := by decide +kernel
theorem dX11_emits_151 : decode cX11_emits 151 = .ok (.iconst 1, 1) := by decide +kernel
theorem dX11_emits_152 : decode cX11_emits 152 = .ok (.iload 4, 2) := by decide +kernel
theorem dX11_emits_154 : decode cX11_emits 154 = .ok (.ishl, 1) := by decide +kernel
theorem dX11_emits_155 : decode cX11_emits 155 = .ok (.ior, 1) := by decide +kernel
theorem dX11_emits_156 : decode cX11_emits 156 = .ok (.putfield 817, 3) := by decide +kernel
theorem dX11_emits_159 : decode cX11_emits 159 = .ok (.return_, 1) := by decide +kernel
theorem dX11_workParts_0 : decode cX11_workParts 0 = .ok (.aload_n 0, 1) := by decide +kernel
theorem dX11_workParts_1 : decode cX11_workParts 1 = .ok (.iconst 0, 1) := by decide +kernel
theorem dX11_workParts_2 : decode cX11_workParts 2 = .ok (.putfield 817, 3) := by decide +kernel
theorem dX11_workParts_5 : decode cX11_workParts 5 = .ok (.aload_n 0, 1) := by decide +kernel
theorem dX11_workParts_6 : decode cX11_workParts 6 = .ok (.iconst 0, 1) := by decide +kernel
theorem dX11_workParts_7 : decode cX11_workParts 7 = .ok (.putfield 802, 3) := by decide +kernel
theorem dX11_workParts_10 : decode cX11_workParts 10 = .ok (.bipush 40, 2) := by decide +kernel
theorem dX11_workParts_12 : decode cX11_workParts 12 = .ok (.aload_n 0, 1) := by decide +kernel
theorem dX11_workParts_13 : decode cX11_workParts 13 = .ok (.getfield 742, 3) := by decide +kernel
theorem dX11_workParts_16 : decode cX11_workParts 16 = .ok (.imul, 1) := by decide +kernel
theorem dX11_workParts_17 : decode cX11_workParts 17 = .ok (.istore_n 1, 1) := by decide +kernel
theorem dX11_workParts_18 : decode cX11_workParts 18 = .ok (.iload_n 1, 1) := by decide +kernel
theorem dX11_workParts_19 : decode cX11_workParts 19 = .ok (.bipush 40, 2) := by decide +kernel
theorem dX11_workParts_21 : decode cX11_workParts 21 = .ok (.aload_n 0, 1) := by decide +kernel
theorem dX11_workParts_22 : decode cX11_workParts 22 = .ok (.getfield 742, 3) := by decide +kernel
theorem dX11_workParts_25 : decode cX11_workParts 25 = .ok (.imul, 1) := by decide +kernel
theorem dX11_workParts_26 : decode cX11_workParts 26 = .ok (.aload_n 0, 1) := by decide +kernel
theorem dX11_workParts_27 : decode cX11_workParts 27 = .ok (.getfield 84, 3) := by decide +kernel
theorem dX11_workParts_30 : decode cX11_workParts 30 = .ok (.aload_n 0, 1) := by decide +kernel
theorem dX11_workParts_31 : decode cX11_workParts 31 = .ok (.getfield 742, 3) := by decide +kernel
theorem dX11_workParts_34 : decode cX11_workParts 34 = .ok (.iaload, 1) := by decide +kernel
theorem dX11_workParts_35 : decode cX11_workParts 35 = .ok (.iadd, 1) := by decide +kernel
theorem dX11_workParts_36 : decode cX11_workParts 36 = .ok (.if_icmp .ge 182, 3) := by decide +kernel
theorem dX11_workParts_39 : decode cX11_workParts 39 = .ok (.aload_n 0, 1) := by decide +kernel
theorem dX11_workParts_40 : decode cX11_workParts 40 = .ok (.getfield 207, 3) := by decide +kernel
theorem dX11_workParts_43 : decode cX11_workParts 43 = .ok (.aload_n 0, 1) := by decide +kernel
theorem dX11_workParts_44 : decode cX11_workParts 44 = .ok (.getfield 192, 3) := by decide +kernel
theorem dX11_workParts_47 : decode cX11_workParts 47 = .ok (.iload_n 1, 1) := by decide +kernel
theorem dX11_workParts_48 : decode cX11_workParts 48 = .ok (.iaload, 1) := by decide +kernel
theorem dX11_workParts_49 : decode cX11_workParts 49 = .ok (.sipush 700, 3) := by decide +kernel
theorem dX11_workParts_52 : decode cX11_workParts 52 = .ok (.aload_n 0, 1) := by decide +kernel
theorem dX11_workParts_53 : decode cX11_workParts 53 = .ok (.getfield 742, 3) := by decide +kernel
theorem dX11_workParts_56 : decode cX11_workParts 56 = .ok (.imul, 1) := by decide +kernel
theorem dX11_workParts_57 : decode cX11_workParts 57 = .ok (.isub, 1) := by decide +kernel
theorem dX11_workParts_58 : decode cX11_workParts 58 = .ok (.iaload, 1) := by decide +kernel
theorem dX11_workParts_59 : decode cX11_workParts 59 = .ok (.iconst 1, 1) := by decide +kernel
theorem dX11_workParts_60 : decode cX11_workParts 60 = .ok (.if_icmp .ne 152, 3) := by decide +kernel
theorem dX11_workParts_63 : decode cX11_workParts 63 = .ok (.aload_n 0, 1) := by decide +kernel
theorem dX11_workParts_64 : decode cX11_workParts 64 = .ok (.getfield 96, 3) := by decide +kernel
theorem dX11_workParts_67 : decode cX11_workParts 67 = .ok (.iload_n 1, 1) := by decide +kernel
theorem dX11_workParts_68 : decode cX11_workParts 68 = .ok (.iaload, 1) := by decide +kernel
theorem dX11_workParts_69 : decode cX11_workParts 69 = .ok (.bipush 14, 2) := by decide +kernel
theorem dX11_workParts_71 : decode cX11_workParts 71 = .ok (.if_icmp .ne 24, 3) := by decide +kernel
theorem dX11_workParts_74 : decode cX11_workParts 74 = .ok (.aload_n 0, 1) := by decide +kernel
theorem dX11_workParts_75 : decode cX11_workParts 75 = .ok (.aload_n 0, 1) := by decide +kernel
theorem dX11_workParts_76 : decode cX11_workParts 76 = .ok (.getfield 285, 3) := by decide +kernel
theorem dX11_workParts_79 : decode cX11_workParts 79 = .ok (.iload_n 1, 1) := by decide +kernel
theorem dX11_workParts_80 : decode cX11_workParts 80 = .ok (.bipush 40, 2) := by decide +kernel
theorem dX11_workParts_82 : decode cX11_workParts 82 = .ok (.aload_n 0, 1) := by decide +kernel
theorem dX11_workParts_83 : decode cX11_workParts 83 = .ok (.getfield 742, 3) := by decide +kernel
theorem dX11_workParts_86 : decode cX11_workParts 86 = .ok (.imul, 1) := by decide +kernel
theorem dX11_workParts_87 : decode cX11_workParts 87 = .ok (.isub, 1) := by decide +kernel
theorem dX11_workParts_88 : decode cX11_workParts 88 = .ok (.iaload, 1) := by decide +kernel
theorem dX11_workParts_89 : decode cX11_workParts 89 = .ok (.putfield 802, 3) := by decide +kernel
theorem dX11_workParts_92 : decode cX11_workParts 92 = .ok (.goto 103, 3) := by decide +kernel
theorem dX11_workParts_95 : decode cX11_workParts 95 = .ok (.aload_n 0, 1) := by decide +kernel
theorem dX11_workParts_96 : decode cX11_workParts 96 = .ok (.getfield 96, 3) := by decide +kernel
theorem dX11_workParts_99 : decode cX11_workParts 99 = .ok (.iload_n 1, 1) := by decide +kernel
theorem dX11_workParts_100 : decode cX11_workParts 100 = .ok (.iaload, 1) := by decide +kernel
theorem dX11_workParts_101 : decode cX11_workParts 101 = .ok (.iconst 3, 1) := by decide +kernel
theorem dX11_workParts_102 : decode cX11_workParts 102 = .ok (.if_icmp .ne 46, 3) := by decide +kernel
theorem dX11_workParts_105 : decode cX11_workParts 105 = .ok (.aload_n 0, 1) := by decide +kernel
theorem dX11_workParts_106 : decode cX11_workParts 106 = .ok (.getfield 117, 3) := by decide +kernel
theorem dX11_workParts_109 : decode cX11_workParts 109 = .ok (.iload_n 1, 1) := by decide +kernel
theorem dX11_workParts_110 : decode cX11_workParts 110 = .ok (.iaload, 1) := by decide +kernel
theorem dX11_workParts_111 : decode cX11_workParts 111 = .ok (.iconst (-1), 1) := by decide +kernel
theorem dX11_workParts_112 : decode cX11_workParts 112 = .ok (.if_icmp .eq 36, 3) := by decide +kernel
theorem dX11_workParts_115 : decode cX11_workParts 115 = .ok (.aload_n 0, 1) := by decide +kernel
theorem dX11_workParts_116 : decode cX11_workParts 116 = .ok (.aload_n 0, 1) := by decide +kernel
theorem dX11_workParts_117 : decode cX11_workParts 117 = .ok (.getfield 114, 3) := by decide +kernel
theorem dX11_workParts_120 : decode cX11_workParts 120 = .ok (.iload_n 1, 1) := by decide +kernel
theorem dX11_workParts_121 : decode cX11_workParts 121 = .ok (.iaload, 1) := by decide +kernel
theorem dX11_workParts_122 : decode cX11_workParts 122 = .ok (.aload_n 0, 1) := by decide +kernel
theorem dX11_workParts_123 : decode cX11_workParts 123 = .ok (.getfield 117, 3) := by decide +kernel
theorem dX11_workParts_126 : decode cX11_workParts 126 = .ok (.iload_n 1, 1) := by decide +kernel
theorem dX11_workParts_127 : decode cX11_workParts 127 = .ok (.iaload, 1) := by decide +kernel
theorem dX11_workParts_128 : decode cX11_workParts 128 = .ok (.invokevirtual 809, 3) := by decide +kernel
theorem dX11_workParts_131 : decode cX11_workParts 131 = .ok (.lstore_n 2, 1) := by decide +kernel
theorem dX11_workParts_132 : decode cX11_workParts 132 = .ok (.aload_n 0, 1) := by decide +kernel
theorem dX11_workParts_133 : decode cX11_workParts 133 = .ok (.getfield 802, 3) := by decide +kernel
theorem dX11_workParts_136 : decode cX11_workParts 136 = .ok (.ifCond .ne 9, 3) := by decide +kernel
theorem dX11_workParts_139 : decode cX11_workParts 139 = .ok (.aload_n 0, 1) := by decide +kernel
theorem dX11_workParts_140 : decode cX11_workParts 140 = .ok (.iload_n 1, 1) := by decide +kernel
theorem dX11_workParts_141 : decode cX11_workParts 141 = .ok (.lload_n 2, 1) := by decide +kernel
theorem dX11_workParts_142 : decode cX11_workParts 142 = .ok (.invokevirtual 820, 3) := by decide +kernel
theorem dX11_workParts_145 : decode cX11_workParts 145 = .ok (.goto 50, 3) := by decide +kernel
theorem dX11_workParts_148 : decode cX11_workParts 148 = .ok (.aload_n 0, 1) := by decide +kernel
theorem dX11_workParts_149 : decode cX11_workParts 149 = .ok (.getfield 96, 3) := by decide +kernel
theorem dX11_workParts_152 : decode cX11_workParts 152 = .ok (.iload_n 1, 1) := by decide +kernel
theorem dX11_workParts_153 : decode cX11_workParts 153 = .ok (.iaload, 1) := by decide +kernel
theorem dX11_workParts_154 : decode cX11_workParts 154 = .ok (.bipush 15, 2) := by decide +kernel
theorem dX11_workParts_156 : decode cX11_workParts 156 = .ok (.if_icmp .ne 39, 3) := by decide +kernel
theorem dX11_workParts_159 : decode cX11_workParts 159 = .ok (.aload_n 0, 1) := by decide +kernel
theorem dX11_workParts_160 : decode cX11_workParts 160 = .ok (.aload_n 0, 1) := by decide +kernel
theorem dX11_workParts_161 : decode cX11_workParts 161 = .ok (.getfield 114, 3) := by decide +kernel
theorem dX11_workParts_164 : decode cX11_workParts 164 = .ok (.iload_n 1, 1) := by decide +kernel
theorem dX11_workParts_165 : decode cX11_workParts 165 = .ok (.iaload, 1) := by decide +kernel
theorem dX11_workParts_166 : decode cX11_workParts 166 = .ok (.aload_n 0, 1) := by decide +kernel
theorem dX11_workParts_167 : decode cX11_workParts 167 = .ok (.getfield 117, 3) := by decide +kernel
theorem dX11_workParts_170 : decode cX11_workParts 170 = .ok (.iload_n 1, 1) := by decide +kernel
theorem dX11_workParts_171 : decode cX11_workParts 171 = .ok (.iaload, 1) := by decide +kernel
theorem dX11_workParts_172 : decode cX11_workParts 172 = .ok (.invokevirtual 809, 3) := by decide +kernel
theorem dX11_workParts_175 : decode cX11_workParts 175 = .ok (.lstore_n 2, 1) := by decide +kernel
theorem dX11_workParts_176 : decode cX11_workParts 176 = .ok (.aload_n 0, 1) := by decide +kernel
theorem dX11_workParts_177 : decode cX11_workParts 177 = .ok (.getfield 802, 3) := by decide +kernel
theorem dX11_workParts_180 : decode cX11_workParts 180 = .ok (.ifCond .ne 15, 3) := by decide +kernel
theorem dX11_workParts_183 : decode cX11_workParts 183 = .ok (.aload_n 0, 1) := by decide +kernel
theorem dX11_workParts_184 : decode cX11_workParts 184 = .ok (.getfield 282, 3) := by decide +kernel
theorem dX11_workParts_187 : decode cX11_workParts 187 = .ok (.aload_n 0, 1) := by decide +kernel
theorem dX11_workParts_188 : decode cX11_workParts 188 = .ok (.getfield 102, 3) := by decide +kernel
theorem dX11_workParts_191 : decode cX11_workParts 191 = .ok (.iload_n 1, 1) := by decide +kernel
theorem dX11_workParts_192 : decode cX11_workParts 192 = .ok (.iaload, 1) := by decide +kernel
theorem dX11_workParts_193 : decode cX11_workParts 193 = .ok (.lload_n 2, 1) := by decide +kernel
theorem dX11_workParts_194 : decode cX11_workParts 194 = .ok (.lastore, 1) := by decide +kernel
theorem dX11_workParts_195 : decode cX11_workParts 195 = .ok (.aload_n 0, 1) := by decide +kernel
theorem dX11_workParts_196 : decode cX11_workParts 196 = .ok (.getfield 802, 3) := by decide +kernel
theorem dX11_workParts_199 : decode cX11_workParts 199 = .ok (.ifCond .le 13, 3) := by decide +kernel
theorem dX11_workParts_202 : decode cX11_workParts 202 = .ok (.iload_n 1, 1) := by decide +kernel
theorem dX11_workParts_203 : decode cX11_workParts 203 = .ok (.bipush 40, 2) := by decide +kernel
theorem dX11_workParts_205 : decode cX11_workParts 205 = .ok (.aload_n 0, 1) := by decide +kernel
theorem dX11_workParts_206 : decode cX11_workParts 206 = .ok (.getfield 742, 3) := by decide +kernel
theorem dX11_workParts_209 : decode cX11_workParts 209 = .ok (.imul, 1) := by decide +kernel
theorem dX11_workParts_210 : decode cX11_workParts 210 = .ok (.isub, 1) := by decide +kernel
theorem dX11_workParts_211 : decode cX11_workParts 211 = .ok (.ireturn, 1) := by decide +kernel
theorem dX11_workParts_212 : decode cX11_workParts 212 = .ok (.iinc 1 1, 3) := by decide +kernel
theorem dX11_workParts_215 : decode cX11_workParts 215 = .ok (.goto (-197), 3) := by decide +kernel
theorem dX11_workParts_218 : decode cX11_workParts 218 = .ok (.iconst (-1), 1) := by decide +kernel
theorem dX11_workParts_219 : decode cX11_workParts 219 = .ok (.ireturn, 1) := by decide +kernel
theorem dX11_keepWires_0 : decode cX11_keepWires 0 = .ok (.iconst 0, 1) := by decide +kernel
theorem dX11_keepWires_1 : decode cX11_keepWires 1 = .ok (.istore_n 2, 1) := by decide +kernel
theorem dX11_keepWires_2 : decode cX11_keepWires 2 = .ok (.iload_n 2, 1) := by decide +kernel
theorem dX11_keepWires_3 : decode cX11_keepWires 3 = .ok (.aload_n 0, 1) := by decide +kernel
theorem dX11_keepWires_4 : decode cX11_keepWires 4 = .ok (.getfield 84, 3) := by decide +kernel
theorem dX11_keepWires_7 : decode cX11_keepWires 7 = .ok (.aload_n 0, 1) := by decide +kernel
theorem dX11_keepWires_8 : decode cX11_keepWires 8 = .ok (.getfield 742, 3) := by decide +kernel
theorem dX11_keepWires_11 : decode cX11_keepWires 11 = .ok (.iaload, 1) := by decide +kernel
theorem dX11_keepWires_12 : decode cX11_keepWires 12 = .ok (.if_icmp .ge 130, 3) := by decide +kernel
theorem dX11_keepWires_15 : decode cX11_keepWires 15 = .ok (.aload_n 0, 1) := by decide +kernel
theorem dX11_keepWires_16 : decode cX11_keepWires 16 = .ok (.getfield 192, 3) := by decide +kernel
theorem dX11_keepWires_19 : decode cX11_keepWires 19 = .ok (.bipush 40, 2) := by decide +kernel
theorem dX11_keepWires_21 : decode cX11_keepWires 21 = .ok (.aload_n 0, 1) := by decide +kernel
theorem dX11_keepWires_22 : decode cX11_keepWires 22 = .ok (.getfield 742, 3) := by decide +kernel
theorem dX11_keepWires_25 : decode cX11_keepWires 25 = .ok (.imul, 1) := by decide +kernel
theorem dX11_keepWires_26 : decode cX11_keepWires 26 = .ok (.iload_n 2, 1) := by decide +kernel
theorem dX11_keepWires_27 : decode cX11_keepWires 27 = .ok (.iadd, 1) := by decide +kernel
theorem dX11_keepWires_28 : decode cX11_keepWires 28 = .ok (.iaload, 1) := by decide +kernel
theorem dX11_keepWires_29 : decode cX11_keepWires 29 = .ok (.istore_n 3, 1) := by decide +kernel
theorem dX11_keepWires_30 : decode cX11_keepWires 30 = .ok (.sipush 200, 3) := by decide +kernel
theorem dX11_keepWires_33 : decode cX11_keepWires 33 = .ok (.iload_n 1, 1) := by decide +kernel
theorem dX11_keepWires_34 : decode cX11_keepWires 34 = .ok (.imul, 1) := by decide +kernel
theorem dX11_keepWires_35 : decode cX11_keepWires 35 = .ok (.iconst 5, 1) := by decide +kernel
theorem dX11_keepWires_36 : decode cX11_keepWires 36 = .ok (.iload_n 2, 1) := by decide +kernel
theorem dX11_keepWires_37 : decode cX11_keepWires 37 = .ok (.imul, 1) := by decide +kernel
theorem dX11_keepWires_38 : decode cX11_keepWires 38 = .ok (.iadd, 1) := by decide +kernel
theorem dX11_keepWires_39 : decode cX11_keepWires 39 = .ok (.istore 4, 2) := by decide +kernel
theorem dX11_keepWires_41 : decode cX11_keepWires 41 = .ok (.aload_n 0, 1) := by decide +kernel
theorem dX11_keepWires_42 : decode cX11_keepWires 42 = .ok (.getfield 273, 3) := by decide +kernel
theorem dX11_keepWires_45 : decode cX11_keepWires 45 = .ok (.iload 4, 2) := by decide +kernel
theorem dX11_keepWires_47 : decode cX11_keepWires 47 = .ok (.aload_n 0, 1) := by decide +kernel
theorem dX11_keepWires_48 : decode cX11_keepWires 48 = .ok (.getfield 207, 3) := by decide +kernel
theorem dX11_keepWires_51 : decode cX11_keepWires 51 = .ok (.iload_n 3, 1) := by decide +kernel
theorem dX11_keepWires_52 : decode cX11_keepWires 52 = .ok (.sipush 700, 3) := by decide +kernel
theorem dX11_keepWires_55 : decode cX11_keepWires 55 = .ok (.aload_n 0, 1) := by decide +kernel
theorem dX11_keepWires_56 : decode cX11_keepWires 56 = .ok (.getfield 742, 3) := by decide +kernel
theorem dX11_keepWires_59 : decode cX11_keepWires 59 = .ok (.imul, 1) := by decide +kernel
theorem dX11_keepWires_60 : decode cX11_keepWires 60 = .ok (.isub, 1) := by decide +kernel
theorem dX11_keepWires_61 : decode cX11_keepWires 61 = .ok (.iaload, 1) := by decide +kernel
theorem dX11_keepWires_62 : decode cX11_keepWires 62 = .ok (.iastore, 1) := by decide +kernel
theorem dX11_keepWires_63 : decode cX11_keepWires 63 = .ok (.aload_n 0, 1) := by decide +kernel
theorem dX11_keepWires_64 : decode cX11_keepWires 64 = .ok (.getfield 273, 3) := by decide +kernel
theorem dX11_keepWires_67 : decode cX11_keepWires 67 = .ok (.iload 4, 2) := by decide +kernel
theorem dX11_keepWires_69 : decode cX11_keepWires 69 = .ok (.iconst 1, 1) := by decide +kernel
theorem dX11_keepWires_70 : decode cX11_keepWires 70 = .ok (.iadd, 1) := by decide +kernel
theorem dX11_keepWires_71 : decode cX11_keepWires 71 = .ok (.aload_n 0, 1) := by decide +kernel
theorem dX11_keepWires_72 : decode cX11_keepWires 72 = .ok (.getfield 764, 3) := by decide +kernel
theorem dX11_keepWires_75 : decode cX11_keepWires 75 = .ok (.aload_n 0, 1) := by decide +kernel
theorem dX11_keepWires_76 : decode cX11_keepWires 76 = .ok (.getfield 183, 3) := by decide +kernel
theorem dX11_keepWires_79 : decode cX11_keepWires 79 = .ok (.iload_n 3, 1) := by decide +kernel
theorem dX11_keepWires_80 : decode cX11_keepWires 80 = .ok (.iaload, 1) := by decide +kernel
theorem dX11_keepWires_81 : decode cX11_keepWires 81 = .ok (.iand, 1) := by decide +kernel
theorem dX11_keepWires_82 : decode cX11_keepWires 82 = .ok (.ifCond .eq 7, 3) := by decide +kernel
theorem dX11_keepWires_85 : decode cX11_keepWires 85 = .ok (.iconst 1, 1) := by decide +kernel
theorem dX11_keepWires_86 : decode cX11_keepWires 86 = .ok (.goto 4, 3) := by decide +kernel
theorem dX11_keepWires_89 : decode cX11_keepWires 89 = .ok (.iconst 0, 1) := by decide +kernel
theorem dX11_keepWires_90 : decode cX11_keepWires 90 = .ok (.iastore, 1) := by decide +kernel
theorem dX11_keepWires_91 : decode cX11_keepWires 91 = .ok (.aload_n 0, 1) := by decide +kernel
theorem dX11_keepWires_92 : decode cX11_keepWires 92 = .ok (.getfield 273, 3) := by decide +kernel
theorem dX11_keepWires_95 : decode cX11_keepWires 95 = .ok (.iload 4, 2) := by decide +kernel
theorem dX11_keepWires_97 : decode cX11_keepWires 97 = .ok (.iconst 2, 1) := by decide +kernel
theorem dX11_keepWires_98 : decode cX11_keepWires 98 = .ok (.iadd, 1) := by decide +kernel
theorem dX11_keepWires_99 : decode cX11_keepWires 99 = .ok (.aload_n 0, 1) := by decide +kernel
theorem dX11_keepWires_100 : decode cX11_keepWires 100 = .ok (.iload_n 3, 1) := by decide +kernel
theorem dX11_keepWires_101 : decode cX11_keepWires 101 = .ok (.iconst 0, 1) := by decide +kernel
theorem dX11_keepWires_102 : decode cX11_keepWires 102 = .ok (.invokevirtual 761, 3) := by decide +kernel
theorem dX11_keepWires_105 : decode cX11_keepWires 105 = .ok (.iastore, 1) := by decide +kernel
theorem dX11_keepWires_106 : decode cX11_keepWires 106 = .ok (.aload_n 0, 1) := by decide +kernel
theorem dX11_keepWires_107 : decode cX11_keepWires 107 = .ok (.getfield 273, 3) := by decide +kernel
theorem dX11_keepWires_110 : decode cX11_keepWires 110 = .ok (.iload 4, 2) := by decide +kernel
theorem dX11_keepWires_112 : decode cX11_keepWires 112 = .ok (.iconst 3, 1) := by decide +kernel
theorem dX11_keepWires_113 : decode cX11_keepWires 113 = .ok (.iadd, 1) := by decide +kernel
theorem dX11_keepWires_114 : decode cX11_keepWires 114 = .ok (.aload_n 0, 1) := by decide +kernel
theorem dX11_keepWires_115 : decode cX11_keepWires 115 = .ok (.iload_n 3, 1) := by decide +kernel
theorem dX11_keepWires_116 : decode cX11_keepWires 116 = .ok (.iconst 1, 1) := by decide +kernel
theorem dX11_keepWires_117 : decode cX11_keepWires 117 = .ok (.invokevirtual 761, 3) := by decide +kernel
theorem dX11_keepWires_120 : decode cX11_keepWires 120 = .ok (.iastore, 1) := by decide +kernel
theorem dX11_keepWires_121 : decode cX11_keepWires 121 = .ok (.aload_n 0, 1) := by decide +kernel
theorem dX11_keepWires_122 : decode cX11_keepWires 122 = .ok (.getfield 273, 3) := by decide +kernel
theorem dX11_keepWires_125 : decode cX11_keepWires 125 = .ok (.iload 4, 2) := by decide +kernel
theorem dX11_keepWires_127 : decode cX11_keepWires 127 = .ok (.iconst 4, 1) := by decide +kernel
theorem dX11_keepWires_128 : decode cX11_keepWires 128 = .ok (.iadd, 1) := by decide +kernel
theorem dX11_keepWires_129 : decode cX11_keepWires 129 = .ok (.aload_n 0, 1) := by decide +kernel
theorem dX11_keepWires_130 : decode cX11_keepWires 130 = .ok (.iload_n 3, 1) := by decide +kernel
theorem dX11_keepWires_131 : decode cX11_keepWires 131 = .ok (.iconst 2, 1) := by decide +kernel
theorem dX11_keepWires_132 : decode cX11_keepWires 132 = .ok (.invokevirtual 761, 3) := by decide +kernel
theorem dX11_keepWires_135 : decode cX11_keepWires 135 = .ok (.iastore, 1) := by decide +kernel
theorem dX11_keepWires_136 : decode cX11_keepWires 136 = .ok (.iinc 2 1, 3) := by decide +kernel
theorem dX11_keepWires_139 : decode cX11_keepWires 139 = .ok (.goto (-137), 3) := by decide +kernel
theorem dX11_keepWires_142 : decode cX11_keepWires 142 = .ok (.return_, 1) := by decide +kernel
theorem dX11_beat_0 : decode cX11_beat 0 = .ok (.aload_n 0, 1) := by decide +kernel
theorem dX11_beat_1 : decode cX11_beat 1 = .ok (.iload_n 1, 1) := by decide +kernel
theorem dX11_beat_2 : decode cX11_beat 2 = .ok (.invokevirtual 795, 3) := by decide +kernel
theorem dX11_beat_5 : decode cX11_beat 5 = .ok (.ifCond .ne 5, 3) := by decide +kernel
theorem dX11_beat_8 : decode cX11_beat 8 = .ok (.iconst (-1), 1) := by decide +kernel
theorem dX11_beat_9 : decode cX11_beat 9 = .ok (.ireturn, 1) := by decide +kernel
theorem dX11_beat_10 : decode cX11_beat 10 = .ok (.aload_n 0, 1) := by decide +kernel
theorem dX11_beat_11 : decode cX11_beat 11 = .ok (.getfield 234, 3) := by decide +kernel
theorem dX11_beat_14 : decode cX11_beat 14 = .ok (.iload_n 1, 1) := by decide +kernel
theorem dX11_beat_15 : decode cX11_beat 15 = .ok (.baload, 1) := by decide +kernel
theorem dX11_beat_16 : decode cX11_beat 16 = .ok (.ifCond .eq 6, 3) := by decide +kernel
theorem dX11_beat_19 : decode cX11_beat 19 = .ok (.bipush (-2), 2) := by decide +kernel
theorem dX11_beat_21 : decode cX11_beat 21 = .ok (.ireturn, 1) := by decide +kernel
theorem dX11_beat_22 : decode cX11_beat 22 = .ok (.aload_n 0, 1) := by decide +kernel
theorem dX11_beat_23 : decode cX11_beat 23 = .ok (.aload_n 0, 1) := by decide +kernel
theorem dX11_beat_24 : decode cX11_beat 24 = .ok (.getfield 228, 3) := by decide +kernel
theorem dX11_beat_27 : decode cX11_beat 27 = .ok (.iload_n 1, 1) := by decide +kernel
theorem dX11_beat_28 : decode cX11_beat 28 = .ok (.iaload, 1) := by decide +kernel
theorem dX11_beat_29 : decode cX11_beat 29 = .ok (.putfield 742, 3) := by decide +kernel
theorem dX11_beat_32 : decode cX11_beat 32 = .ok (.aload_n 0, 1) := by decide +kernel
theorem dX11_beat_33 : decode cX11_beat 33 = .ok (.aload_n 0, 1) := by decide +kernel
theorem dX11_beat_34 : decode cX11_beat 34 = .ok (.getfield 237, 3) := by decide +kernel
theorem dX11_beat_37 : decode cX11_beat 37 = .ok (.iload_n 1, 1) := by decide +kernel
theorem dX11_beat_38 : decode cX11_beat 38 = .ok (.iaload, 1) := by decide +kernel
theorem dX11_beat_39 : decode cX11_beat 39 = .ok (.putfield 764, 3) := by decide +kernel
theorem dX11_beat_42 : decode cX11_beat 42 = .ok (.aload_n 0, 1) := by decide +kernel
theorem dX11_beat_43 : decode cX11_beat 43 = .ok (.aload_n 0, 1) := by decide +kernel
theorem dX11_beat_44 : decode cX11_beat 44 = .ok (.getfield 240, 3) := by decide +kernel
theorem dX11_beat_47 : decode cX11_beat 47 = .ok (.iload_n 1, 1) := by decide +kernel
theorem dX11_beat_48 : decode cX11_beat 48 = .ok (.iaload, 1) := by decide +kernel
theorem dX11_beat_49 : decode cX11_beat 49 = .ok (.putfield 730, 3) := by decide +kernel
theorem dX11_beat_52 : decode cX11_beat 52 = .ok (.aload_n 0, 1) := by decide +kernel
theorem dX11_beat_53 : decode cX11_beat 53 = .ok (.aload_n 0, 1) := by decide +kernel
theorem dX11_beat_54 : decode cX11_beat 54 = .ok (.getfield 255, 3) := by decide +kernel
theorem dX11_beat_57 : decode cX11_beat 57 = .ok (.iload_n 1, 1) := by decide +kernel
theorem dX11_beat_58 : decode cX11_beat 58 = .ok (.iaload, 1) := by decide +kernel
theorem dX11_beat_59 : decode cX11_beat 59 = .ok (.putfield 777, 3) := by decide +kernel
theorem dX11_beat_62 : decode cX11_beat 62 = .ok (.aload_n 0, 1) := by decide +kernel
theorem dX11_beat_63 : decode cX11_beat 63 = .ok (.aload_n 0, 1) := by decide +kernel
theorem dX11_beat_64 : decode cX11_beat 64 = .ok (.getfield 231, 3) := by decide +kernel
theorem dX11_beat_67 : decode cX11_beat 67 = .ok (.iload_n 1, 1) := by decide +kernel
theorem dX11_beat_68 : decode cX11_beat 68 = .ok (.baload, 1) := by decide +kernel
theorem dX11_beat_69 : decode cX11_beat 69 = .ok (.putfield 752, 3) := by decide +kernel
theorem dX11_beat_72 : decode cX11_beat 72 = .ok (.iconst 0, 1) := by decide +kernel
theorem dX11_beat_73 : decode cX11_beat 73 = .ok (.istore_n 2, 1) := by decide +kernel
theorem dX11_beat_74 : decode cX11_beat 74 = .ok (.iload_n 2, 1) := by decide +kernel
theorem dX11_beat_75 : decode cX11_beat 75 = .ok (.bipush 16, 2) := by decide +kernel
theorem dX11_beat_77 : decode cX11_beat 77 = .ok (.if_icmp .ge 26, 3) := by decide +kernel
theorem dX11_beat_80 : decode cX11_beat 80 = .ok (.aload_n 0, 1) := by decide +kernel
theorem dX11_beat_81 : decode cX11_beat 81 = .ok (.getfield 279, 3) := by decide +kernel
theorem dX11_beat_84 : decode cX11_beat 84 = .ok (.iload_n 2, 1) := by decide +kernel
theorem dX11_beat_85 : decode cX11_beat 85 = .ok (.aload_n 0, 1) := by decide +kernel
theorem dX11_beat_86 : decode cX11_beat 86 = .ok (.getfield 243, 3) := by decide +kernel
theorem dX11_beat_89 : decode cX11_beat 89 = .ok (.bipush 16, 2) := by decide +kernel
theorem dX11_beat_91 : decode cX11_beat 91 = .ok (.iload_n 1, 1) := by decide +kernel
theorem dX11_beat_92 : decode cX11_beat 92 = .ok (.imul, 1) := by decide +kernel
theorem dX11_beat_93 : decode cX11_beat 93 = .ok (.iload_n 2, 1) := by decide +kernel
theorem dX11_beat_94 : decode cX11_beat 94 = .ok (.iadd, 1) := by decide +kernel
theorem dX11_beat_95 : decode cX11_beat 95 = .ok (.laload, 1) := by decide +kernel
theorem dX11_beat_96 : decode cX11_beat 96 = .ok (.lastore, 1) := by decide +kernel
theorem dX11_beat_97 : decode cX11_beat 97 = .ok (.iinc 2 1, 3) := by decide +kernel
theorem dX11_beat_100 : decode cX11_beat 100 = .ok (.goto (-26), 3) := by decide +kernel
theorem dX11_beat_103 : decode cX11_beat 103 = .ok (.iconst 0, 1) := by decide +kernel
theorem dX11_beat_104 : decode cX11_beat 104 = .ok (.istore_n 2, 1) := by decide +kernel
theorem dX11_beat_105 : decode cX11_beat 105 = .ok (.iload_n 2, 1) := by decide +kernel
theorem dX11_beat_106 : decode cX11_beat 106 = .ok (.bipush 6, 2) := by decide +kernel
theorem dX11_beat_108 : decode cX11_beat 108 = .ok (.if_icmp .ge 26, 3) := by decide +kernel
theorem dX11_beat_111 : decode cX11_beat 111 = .ok (.aload_n 0, 1) := by decide +kernel
theorem dX11_beat_112 : decode cX11_beat 112 = .ok (.getfield 282, 3) := by decide +kernel
theorem dX11_beat_115 : decode cX11_beat 115 = .ok (.iload_n 2, 1) := by decide +kernel
theorem dX11_beat_116 : decode cX11_beat 116 = .ok (.aload_n 0, 1) := by decide +kernel
theorem dX11_beat_117 : decode cX11_beat 117 = .ok (.getfield 246, 3) := by decide +kernel
theorem dX11_beat_120 : decode cX11_beat 120 = .ok (.bipush 6, 2) := by decide +kernel
theorem dX11_beat_122 : decode cX11_beat 122 = .ok (.iload_n 1, 1) := by decide +kernel
theorem dX11_beat_123 : decode cX11_beat 123 = .ok (.imul, 1) := by decide +kernel
theorem dX11_beat_124 : decode cX11_beat 124 = .ok (.iload_n 2, 1) := by decide +kernel
theorem dX11_beat_125 : decode cX11_beat 125 = .ok (.iadd, 1) := by decide +kernel
theorem dX11_beat_126 : decode cX11_beat 126 = .ok (.laload, 1) := by decide +kernel
theorem dX11_beat_127 : decode cX11_beat 127 = .ok (.lastore, 1) := by decide +kernel
theorem dX11_beat_128 : decode cX11_beat 128 = .ok (.iinc 2 1, 3) := by decide +kernel
theorem dX11_beat_131 : decode cX11_beat 131 = .ok (.goto (-26), 3) := by decide +kernel
theorem dX11_beat_134 : decode cX11_beat 134 = .ok (.aload_n 0, 1) := by decide +kernel
theorem dX11_beat_135 : decode cX11_beat 135 = .ok (.invokevirtual 823, 3) := by decide +kernel
theorem dX11_beat_138 : decode cX11_beat 138 = .ok (.aload_n 0, 1) := by decide +kernel
theorem dX11_beat_139 : decode cX11_beat 139 = .ok (.invokevirtual 826, 3) := by decide +kernel
theorem dX11_beat_142 : decode cX11_beat 142 = .ok (.istore_n 2, 1) := by decide +kernel
theorem dX11_beat_143 : decode cX11_beat 143 = .ok (.aload_n 0, 1) := by decide +kernel
theorem dX11_beat_144 : decode cX11_beat 144 = .ok (.iload_n 1, 1) := by decide +kernel
theorem dX11_beat_145 : decode cX11_beat 145 = .ok (.invokevirtual 829, 3) := by decide +kernel
theorem dX11_beat_148 : decode cX11_beat 148 = .ok (.aload_n 0, 1) := by decide +kernel
theorem dX11_beat_149 : decode cX11_beat 149 = .ok (.getfield 255, 3) := by decide +kernel
theorem dX11_beat_152 : decode cX11_beat 152 = .ok (.iload_n 1, 1) := by decide +kernel
theorem dX11_beat_153 : decode cX11_beat 153 = .ok (.iconst 0, 1) := by decide +kernel
theorem dX11_beat_154 : decode cX11_beat 154 = .ok (.iastore, 1) := by decide +kernel
theorem dX11_beat_155 : decode cX11_beat 155 = .ok (.aload_n 0, 1) := by decide +kernel
theorem dX11_beat_156 : decode cX11_beat 156 = .ok (.getfield 270, 3) := by decide +kernel
theorem dX11_beat_159 : decode cX11_beat 159 = .ok (.iload_n 1, 1) := by decide +kernel
theorem dX11_beat_160 : decode cX11_beat 160 = .ok (.iconst 0, 1) := by decide +kernel
theorem dX11_beat_161 : decode cX11_beat 161 = .ok (.iastore, 1) := by decide +kernel
theorem dX11_beat_162 : decode cX11_beat 162 = .ok (.aload_n 0, 1) := by decide +kernel
theorem dX11_beat_163 : decode cX11_beat 163 = .ok (.getfield 264, 3) := by decide +kernel
theorem dX11_beat_166 : decode cX11_beat 166 = .ok (.iload_n 1, 1) := by decide +kernel
theorem dX11_beat_167 : decode cX11_beat 167 = .ok (.iconst 0, 1) := by decide +kernel
theorem dX11_beat_168 : decode cX11_beat 168 = .ok (.iastore, 1) := by decide +kernel
theorem dX11_beat_169 : decode cX11_beat 169 = .ok (.aload_n 0, 1) := by decide +kernel
theorem dX11_beat_170 : decode cX11_beat 170 = .ok (.getfield 267, 3) := by decide +kernel
theorem dX11_beat_173 : decode cX11_beat 173 = .ok (.iload_n 1, 1) := by decide +kernel
theorem dX11_beat_174 : decode cX11_beat 174 = .ok (.iconst (-1), 1) := by decide +kernel
theorem dX11_beat_175 : decode cX11_beat 175 = .ok (.iastore, 1) := by decide +kernel
theorem dX11_beat_176 : decode cX11_beat 176 = .ok (.iload_n 2, 1) := by decide +kernel
theorem dX11_beat_177 : decode cX11_beat 177 = .ok (.ifCond .ne 12, 3) := by decide +kernel
theorem dX11_beat_180 : decode cX11_beat 180 = .ok (.aload_n 0, 1) := by decide +kernel
theorem dX11_beat_181 : decode cX11_beat 181 = .ok (.getfield 261, 3) := by decide +kernel
theorem dX11_beat_184 : decode cX11_beat 184 = .ok (.iload_n 1, 1) := by decide +kernel
theorem dX11_beat_185 : decode cX11_beat 185 = .ok (.iconst 3, 1) := by decide +kernel
theorem dX11_beat_186 : decode cX11_beat 186 = .ok (.iastore, 1) := by decide +kernel
theorem dX11_beat_187 : decode cX11_beat 187 = .ok (.iconst 3, 1) := by decide +kernel
theorem dX11_beat_188 : decode cX11_beat 188 = .ok (.ireturn, 1) := by decide +kernel
theorem dX11_beat_189 : decode cX11_beat 189 = .ok (.iconst 0, 1) := by decide +kernel
theorem dX11_beat_190 : decode cX11_beat 190 = .ok (.istore_n 3, 1) := by decide +kernel
theorem dX11_beat_191 : decode cX11_beat 191 = .ok (.iload_n 3, 1) := by decide +kernel
theorem dX11_beat_192 : decode cX11_beat 192 = .ok (.aload_n 0, 1) := by decide +kernel
theorem dX11_beat_193 : decode cX11_beat 193 = .ok (.getfield 26, 3) := by decide +kernel
theorem dX11_beat_196 : decode cX11_beat 196 = .ok (.aload_n 0, 1) := by decide +kernel
theorem dX11_beat_197 : decode cX11_beat 197 = .ok (.getfield 742, 3) := by decide +kernel
theorem dX11_beat_200 : decode cX11_beat 200 = .ok (.iaload, 1) := by decide +kernel
theorem dX11_beat_201 : decode cX11_beat 201 = .ok (.if_icmp .ge 71, 3) := by decide +kernel
theorem dX11_beat_204 : decode cX11_beat 204 = .ok (.aload_n 0, 1) := by decide +kernel
theorem dX11_beat_205 : decode cX11_beat 205 = .ok (.getfield 45, 3) := by decide +kernel
theorem dX11_beat_208 : decode cX11_beat 208 = .ok (.iconst 4, 1) := by decide +kernel
theorem dX11_beat_209 : decode cX11_beat 209 = .ok (.aload_n 0, 1) := by decide +kernel
theorem dX11_beat_210 : decode cX11_beat 210 = .ok (.getfield 742, 3) := by decide +kernel
theorem dX11_beat_213 : decode cX11_beat 213 = .ok (.imul, 1) := by decide +kernel
theorem dX11_beat_214 : decode cX11_beat 214 = .ok (.iload_n 3, 1) := by decide +kernel
theorem dX11_beat_215 : decode cX11_beat 215 = .ok (.iadd, 1) := by decide +kernel
theorem dX11_beat_216 : decode cX11_beat 216 = .ok (.iaload, 1) := by decide +kernel
theorem dX11_beat_217 : decode cX11_beat 217 = .ok (.istore 4, 2) := by decide +kernel
theorem dX11_beat_219 : decode cX11_beat 219 = .ok (.aload_n 0, 1) := by decide +kernel
theorem dX11_beat_220 : decode cX11_beat 220 = .ok (.getfield 777, 3) := by decide +kernel
theorem dX11_beat_223 : decode cX11_beat 223 = .ok (.iload_n 3, 1) := by decide +kernel
theorem dX11_beat_224 : decode cX11_beat 224 = .ok (.ishr, 1) := by decide +kernel
theorem dX11_beat_225 : decode cX11_beat 225 = .ok (.iconst 1, 1) := by decide +kernel
theorem dX11_beat_226 : decode cX11_beat 226 = .ok (.iand, 1) := by decide +kernel
theorem dX11_beat_227 : decode cX11_beat 227 = .ok (.iconst 1, 1) := by decide +kernel
theorem dX11_beat_228 : decode cX11_beat 228 = .ok (.if_icmp .ne 38, 3) := by decide +kernel
theorem dX11_beat_231 : decode cX11_beat 231 = .ok (.aload_n 0, 1) := by decide +kernel
theorem dX11_beat_232 : decode cX11_beat 232 = .ok (.getfield 38, 3) := by decide +kernel
theorem dX11_beat_235 : decode cX11_beat 235 = .ok (.bipush 16, 2) := by decide +kernel
theorem dX11_beat_237 : decode cX11_beat 237 = .ok (.aload_n 0, 1) := by decide +kernel
theorem dX11_beat_238 : decode cX11_beat 238 = .ok (.getfield 742, 3) := by decide +kernel
theorem dX11_beat_241 : decode cX11_beat 241 = .ok (.imul, 1) := by decide +kernel
theorem dX11_beat_242 : decode cX11_beat 242 = .ok (.iload 4, 2) := by decide +kernel
theorem dX11_beat_244 : decode cX11_beat 244 = .ok (.iadd, 1) := by decide +kernel
theorem dX11_beat_245 : decode cX11_beat 245 = .ok (.iaload, 1) := by decide +kernel
theorem dX11_beat_246 : decode cX11_beat 246 = .ok (.ifCond .le 20, 3) := by decide +kernel
theorem dX11_beat_249 : decode cX11_beat 249 = .ok (.aload_n 0, 1) := by decide +kernel
theorem dX11_beat_250 : decode cX11_beat 250 = .ok (.getfield 279, 3) := by decide +kernel
theorem dX11_beat_253 : decode cX11_beat 253 = .ok (.iload 4, 2) := by decide +kernel
theorem dX11_beat_255 : decode cX11_beat 255 = .ok (.aload_n 0, 1) := by decide +kernel
theorem dX11_beat_256 : decode cX11_beat 256 = .ok (.getfield 258, 3) := by decide +kernel
theorem dX11_beat_259 : decode cX11_beat 259 = .ok (.iconst 4, 1) := by decide +kernel
theorem dX11_beat_260 : decode cX11_beat 260 = .ok (.iload_n 1, 1) := by decide +kernel
theorem dX11_beat_261 : decode cX11_beat 261 = .ok (.imul, 1) := by decide +kernel
theorem dX11_beat_262 : decode cX11_beat 262 = .ok (.iload_n 3, 1) := by decide +kernel
theorem dX11_beat_263 : decode cX11_beat 263 = .ok (.iadd, 1) := by decide +kernel
theorem dX11_beat_264 : decode cX11_beat 264 = .ok (.laload, 1) := by decide +kernel
theorem dX11_beat_265 : decode cX11_beat 265 = .ok (.lastore, 1) := by decide +kernel
theorem dX11_beat_266 : decode cX11_beat 266 = .ok (.iinc 3 1, 3) := by decide +kernel
theorem dX11_beat_269 : decode cX11_beat 269 = .ok (.goto (-78), 3) := by decide +kernel
theorem dX11_beat_272 : decode cX11_beat 272 = .ok (.aload_n 0, 1) := by decide +kernel
theorem dX11_beat_273 : decode cX11_beat 273 = .ok (.invokevirtual 832, 3) := by decide +kernel
theorem dX11_beat_276 : decode cX11_beat 276 = .ok (.istore_n 3, 1) := by decide +kernel
theorem dX11_beat_277 : decode cX11_beat 277 = .ok (.iload_n 3, 1) := by decide +kernel
theorem dX11_beat_278 : decode cX11_beat 278 = .ok (.iconst (-1), 1) := by decide +kernel
theorem dX11_beat_279 : decode cX11_beat 279 = .ok (.if_icmp .eq 29, 3) := by decide +kernel
theorem dX11_beat_282 : decode cX11_beat 282 = .ok (.aload_n 0, 1) := by decide +kernel
theorem dX11_beat_283 : decode cX11_beat 283 = .ok (.getfield 264, 3) := by decide +kernel
theorem dX11_beat_286 : decode cX11_beat 286 = .ok (.iload_n 1, 1) := by decide +kernel
theorem dX11_beat_287 : decode cX11_beat 287 = .ok (.aload_n 0, 1) := by decide +kernel
theorem dX11_beat_288 : decode cX11_beat 288 = .ok (.getfield 802, 3) := by decide +kernel
theorem dX11_beat_291 : decode cX11_beat 291 = .ok (.iastore, 1) := by decide +kernel
theorem dX11_beat_292 : decode cX11_beat 292 = .ok (.aload_n 0, 1) := by decide +kernel
theorem dX11_beat_293 : decode cX11_beat 293 = .ok (.getfield 267, 3) := by decide +kernel
theorem dX11_beat_296 : decode cX11_beat 296 = .ok (.iload_n 1, 1) := by decide +kernel
theorem dX11_beat_297 : decode cX11_beat 297 = .ok (.iload_n 3, 1) := by decide +kernel
theorem dX11_beat_298 : decode cX11_beat 298 = .ok (.iastore, 1) := by decide +kernel
theorem dX11_beat_299 : decode cX11_beat 299 = .ok (.aload_n 0, 1) := by decide +kernel
theorem dX11_beat_300 : decode cX11_beat 300 = .ok (.getfield 261, 3) := by decide +kernel
theorem dX11_beat_303 : decode cX11_beat 303 = .ok (.iload_n 1, 1) := by decide +kernel
theorem dX11_beat_304 : decode cX11_beat 304 = .ok (.iconst 2, 1) := by decide +kernel
theorem dX11_beat_305 : decode cX11_beat 305 = .ok (.iastore, 1) := by decide +kernel
theorem dX11_beat_306 : decode cX11_beat 306 = .ok (.iconst 2, 1) := by decide +kernel
theorem dX11_beat_307 : decode cX11_beat 307 = .ok (.ireturn, 1) := by decide +kernel
theorem dX11_beat_308 : decode cX11_beat 308 = .ok (.iconst 0, 1) := by decide +kernel
theorem dX11_beat_309 : decode cX11_beat 309 = .ok (.istore 4, 2) := by decide +kernel
theorem dX11_beat_311 : decode cX11_beat 311 = .ok (.iload 4, 2) := by decide +kernel
theorem dX11_beat_313 : decode cX11_beat 313 = .ok (.bipush 16, 2) := by decide +kernel
theorem dX11_beat_315 : decode cX11_beat 315 = .ok (.if_icmp .ge 28, 3) := by decide +kernel
theorem dX11_beat_318 : decode cX11_beat 318 = .ok (.aload_n 0, 1) := by decide +kernel
theorem dX11_beat_319 : decode cX11_beat 319 = .ok (.getfield 243, 3) := by decide +kernel
theorem dX11_beat_322 : decode cX11_beat 322 = .ok (.bipush 16, 2) := by decide +kernel
theorem dX11_beat_324 : decode cX11_beat 324 = .ok (.iload_n 1, 1) := by decide +kernel
theorem dX11_beat_325 : decode cX11_beat 325 = .ok (.imul, 1) := by decide +kernel
theorem dX11_beat_326 : decode cX11_beat 326 = .ok (.iload 4, 2) := by decide +kernel
theorem dX11_beat_328 : decode cX11_beat 328 = .ok (.iadd, 1) := by decide +kernel
theorem dX11_beat_329 : decode cX11_beat 329 = .ok (.aload_n 0, 1) := by decide +kernel
theorem dX11_beat_330 : decode cX11_beat 330 = .ok (.getfield 279, 3) := by decide +kernel
theorem dX11_beat_333 : decode cX11_beat 333 = .ok (.iload 4, 2) := by decide +kernel
theorem dX11_beat_335 : decode cX11_beat 335 = .ok (.laload, 1) := by decide +kernel
theorem dX11_beat_336 : decode cX11_beat 336 = .ok (.lastore, 1) := by decide +kernel
theorem dX11_beat_337 : decode cX11_beat 337 = .ok (.iinc 4 1, 3) := by decide +kernel
theorem dX11_beat_340 : decode cX11_beat 340 = .ok (.goto (-29), 3) := by decide +kernel
theorem dX11_beat_343 : decode cX11_beat 343 = .ok (.iconst 0, 1) := by decide +kernel
theorem dX11_beat_344 : decode cX11_beat 344 = .ok (.istore 4, 2) := by decide +kernel
theorem dX11_beat_346 : decode cX11_beat 346 = .ok (.iload 4, 2) := by decide +kernel
theorem dX11_beat_348 : decode cX11_beat 348 = .ok (.bipush 6, 2) := by decide +kernel
theorem dX11_beat_350 : decode cX11_beat 350 = .ok (.if_icmp .ge 28, 3) := by decide +kernel
theorem dX11_beat_353 : decode cX11_beat 353 = .ok (.aload_n 0, 1) := by decide +kernel
theorem dX11_beat_354 : decode cX11_beat 354 = .ok (.getfield 246, 3) := by decide +kernel
theorem dX11_beat_357 : decode cX11_beat 357 = .ok (.bipush 6, 2) := by decide +kernel
theorem dX11_beat_359 : decode cX11_beat 359 = .ok (.iload_n 1, 1) := by decide +kernel
theorem dX11_beat_360 : decode cX11_beat 360 = .ok (.imul, 1) := by decide +kernel
theorem dX11_beat_361 : decode cX11_beat 361 = .ok (.iload 4, 2) := by decide +kernel
theorem dX11_beat_363 : decode cX11_beat 363 = .ok (.iadd, 1) := by decide +kernel
theorem dX11_beat_364 : decode cX11_beat 364 = .ok (.aload_n 0, 1) := by decide +kernel
theorem dX11_beat_365 : decode cX11_beat 365 = .ok (.getfield 282, 3) := by decide +kernel
theorem dX11_beat_368 : decode cX11_beat 368 = .ok (.iload 4, 2) := by decide +kernel
theorem dX11_beat_370 : decode cX11_beat 370 = .ok (.laload, 1) := by decide +kernel
theorem dX11_beat_371 : decode cX11_beat 371 = .ok (.lastore, 1) := by decide +kernel
theorem dX11_beat_372 : decode cX11_beat 372 = .ok (.iinc 4 1, 3) := by decide +kernel
theorem dX11_beat_375 : decode cX11_beat 375 = .ok (.goto (-29), 3) := by decide +kernel
theorem dX11_beat_378 : decode cX11_beat 378 = .ok (.aload_n 0, 1) := by decide +kernel
theorem dX11_beat_379 : decode cX11_beat 379 = .ok (.getfield 270, 3) := by decide +kernel
theorem dX11_beat_382 : decode cX11_beat 382 = .ok (.iload_n 1, 1) := by decide +kernel
theorem dX11_beat_383 : decode cX11_beat 383 = .ok (.aload_n 0, 1) := by decide +kernel
theorem dX11_beat_384 : decode cX11_beat 384 = .ok (.invokevirtual 835, 3) := by decide +kernel
theorem dX11_beat_387 : decode cX11_beat 387 = .ok (.iastore, 1) := by decide +kernel
theorem dX11_beat_388 : decode cX11_beat 388 = .ok (.aload_n 0, 1) := by decide +kernel
theorem dX11_beat_389 : decode cX11_beat 389 = .ok (.getfield 240, 3) := by decide +kernel
theorem dX11_beat_392 : decode cX11_beat 392 = .ok (.iload_n 1, 1) := by decide +kernel
theorem dX11_beat_393 : decode cX11_beat 393 = .ok (.aload_n 0, 1) := by decide +kernel
theorem dX11_beat_394 : decode cX11_beat 394 = .ok (.getfield 270, 3) := by decide +kernel
theorem dX11_beat_397 : decode cX11_beat 397 = .ok (.iload_n 1, 1) := by decide +kernel
theorem dX11_beat_398 : decode cX11_beat 398 = .ok (.iaload, 1) := by decide +kernel
theorem dX11_beat_399 : decode cX11_beat 399 = .ok (.iastore, 1) := by decide +kernel
theorem dX11_beat_400 : decode cX11_beat 400 = .ok (.aload_n 0, 1) := by decide +kernel
theorem dX11_beat_401 : decode cX11_beat 401 = .ok (.getfield 237, 3) := by decide +kernel
theorem dX11_beat_404 : decode cX11_beat 404 = .ok (.iload_n 1, 1) := by decide +kernel
theorem dX11_beat_405 : decode cX11_beat 405 = .ok (.aload_n 0, 1) := by decide +kernel
theorem dX11_beat_406 : decode cX11_beat 406 = .ok (.invokevirtual 838, 3) := by decide +kernel
theorem dX11_beat_409 : decode cX11_beat 409 = .ok (.iastore, 1) := by decide +kernel
theorem dX11_beat_410 : decode cX11_beat 410 = .ok (.aload_n 0, 1) := by decide +kernel
theorem dX11_beat_411 : decode cX11_beat 411 = .ok (.getfield 231, 3) := by decide +kernel
theorem dX11_beat_414 : decode cX11_beat 414 = .ok (.iload_n 1, 1) := by decide +kernel
theorem dX11_beat_415 : decode cX11_beat 415 = .ok (.iconst 0, 1) := by decide +kernel
theorem dX11_beat_416 : decode cX11_beat 416 = .ok (.bastore, 1) := by decide +kernel
theorem dX11_beat_417 : decode cX11_beat 417 = .ok (.aload_n 0, 1) := by decide +kernel
theorem dX11_beat_418 : decode cX11_beat 418 = .ok (.getfield 249, 3) := by decide +kernel
theorem dX11_beat_421 : decode cX11_beat 421 = .ok (.iload_n 1, 1) := by decide +kernel
theorem dX11_beat_422 : decode cX11_beat 422 = .ok (.dup2, 1) := by decide +kernel
theorem dX11_beat_423 : decode cX11_beat 423 = .ok (.iaload, 1) := by decide +kernel
theorem dX11_beat_424 : decode cX11_beat 424 = .ok (.iconst 1, 1) := by decide +kernel
theorem dX11_beat_425 : decode cX11_beat 425 = .ok (.iadd, 1) := by decide +kernel
theorem dX11_beat_426 : decode cX11_beat 426 = .ok (.iastore, 1) := by decide +kernel
theorem dX11_beat_427 : decode cX11_beat 427 = .ok (.aload_n 0, 1) := by decide +kernel
theorem dX11_beat_428 : decode cX11_beat 428 = .ok (.getfield 234, 3) := by decide +kernel
theorem dX11_beat_431 : decode cX11_beat 431 = .ok (.iload_n 1, 1) := by decide +kernel
theorem dX11_beat_432 : decode cX11_beat 432 = .ok (.aload_n 0, 1) := by decide +kernel
theorem dX11_beat_433 : decode cX11_beat 433 = .ok (.aload_n 0, 1) := by decide +kernel
theorem dX11_beat_434 : decode cX11_beat 434 = .ok (.getfield 195, 3) := by decide +kernel
theorem dX11_beat_437 : decode cX11_beat 437 = .ok (.aload_n 0, 1) := by decide +kernel
theorem dX11_beat_438 : decode cX11_beat 438 = .ok (.getfield 742, 3) := by decide +kernel
theorem dX11_beat_441 : decode cX11_beat 441 = .ok (.iaload, 1) := by decide +kernel
theorem dX11_beat_442 : decode cX11_beat 442 = .ok (.iconst 0, 1) := by decide +kernel
theorem dX11_beat_443 : decode cX11_beat 443 = .ok (.invokevirtual 761, 3) := by decide +kernel
theorem dX11_beat_446 : decode cX11_beat 446 = .ok (.iconst 1, 1) := by decide +kernel
theorem dX11_beat_447 : decode cX11_beat 447 = .ok (.if_icmp .ne 7, 3) := by decide +kernel
theorem dX11_beat_450 : decode cX11_beat 450 = .ok (.iconst 1, 1) := by decide +kernel
theorem dX11_beat_451 : decode cX11_beat 451 = .ok (.goto 4, 3) := by decide +kernel
theorem dX11_beat_454 : decode cX11_beat 454 = .ok (.iconst 0, 1) := by decide +kernel
theorem dX11_beat_455 : decode cX11_beat 455 = .ok (.bastore, 1) := by decide +kernel
theorem dX11_beat_456 : decode cX11_beat 456 = .ok (.aload_n 0, 1) := by decide +kernel
theorem dX11_beat_457 : decode cX11_beat 457 = .ok (.getfield 261, 3) := by decide +kernel
theorem dX11_beat_460 : decode cX11_beat 460 = .ok (.iload_n 1, 1) := by decide +kernel
theorem dX11_beat_461 : decode cX11_beat 461 = .ok (.aload_n 0, 1) := by decide +kernel
theorem dX11_beat_462 : decode cX11_beat 462 = .ok (.getfield 234, 3) := by decide +kernel
theorem dX11_beat_465 : decode cX11_beat 465 = .ok (.iload_n 1, 1) := by decide +kernel
theorem dX11_beat_466 : decode cX11_beat 466 = .ok (.baload, 1) := by decide +kernel
theorem dX11_beat_467 : decode cX11_beat 467 = .ok (.ifCond .eq 7, 3) := by decide +kernel
theorem dX11_beat_470 : decode cX11_beat 470 = .ok (.iconst 1, 1) := by decide +kernel
theorem dX11_beat_471 : decode cX11_beat 471 = .ok (.goto 4, 3) := by decide +kernel
theorem dX11_beat_474 : decode cX11_beat 474 = .ok (.iconst 0, 1) := by decide +kernel
theorem dX11_beat_475 : decode cX11_beat 475 = .ok (.iastore, 1) := by decide +kernel
theorem dX11_beat_476 : decode cX11_beat 476 = .ok (.aload_n 0, 1) := by decide +kernel
theorem dX11_beat_477 : decode cX11_beat 477 = .ok (.getfield 261, 3) := by decide +kernel
theorem dX11_beat_480 : decode cX11_beat 480 = .ok (.iload_n 1, 1) := by decide +kernel
theorem dX11_beat_481 : decode cX11_beat 481 = .ok (.iaload, 1) := by decide +kernel
theorem dX11_beat_482 : decode cX11_beat 482 = .ok (.ireturn, 1) := by decide +kernel
theorem dX11_present_0 : decode cX11_present 0 = .ok (.aload_n 0, 1) := by decide +kernel
theorem dX11_present_1 : decode cX11_present 1 = .ok (.iload_n 1, 1) := by decide +kernel
theorem dX11_present_2 : decode cX11_present 2 = .ok (.invokevirtual 795, 3) := by decide +kernel
theorem dX11_present_5 : decode cX11_present 5 = .ok (.ifCond .eq 39, 3) := by decide +kernel
theorem dX11_present_8 : decode cX11_present 8 = .ok (.iload_n 2, 1) := by decide +kernel
theorem dX11_present_9 : decode cX11_present 9 = .ok (.i2l, 1) := by decide +kernel
theorem dX11_present_10 : decode cX11_present 10 = .ok (.lconst 0, 1) := by decide +kernel
theorem dX11_present_11 : decode cX11_present 11 = .ok (.aload_n 0, 1) := by decide +kernel
theorem dX11_present_12 : decode cX11_present 12 = .ok (.getfield 23, 3) := by decide +kernel
theorem dX11_present_15 : decode cX11_present 15 = .ok (.aload_n 0, 1) := by decide +kernel
theorem dX11_present_16 : decode cX11_present 16 = .ok (.getfield 228, 3) := by decide +kernel
theorem dX11_present_19 : decode cX11_present 19 = .ok (.iload_n 1, 1) := by decide +kernel
theorem dX11_present_20 : decode cX11_present 20 = .ok (.iaload, 1) := by decide +kernel
theorem dX11_present_21 : decode cX11_present 21 = .ok (.iaload, 1) := by decide +kernel
theorem dX11_present_22 : decode cX11_present 22 = .ok (.iconst 1, 1) := by decide +kernel
theorem dX11_present_23 : decode cX11_present 23 = .ok (.isub, 1) := by decide +kernel
theorem dX11_present_24 : decode cX11_present 24 = .ok (.i2l, 1) := by decide +kernel
theorem dX11_present_25 : decode cX11_present 25 = .ok (.invokestatic 332, 3) := by decide +kernel
theorem dX11_present_28 : decode cX11_present 28 = .ok (.ifCond .eq 16, 3) := by decide +kernel
theorem dX11_present_31 : decode cX11_present 31 = .ok (.aload_n 0, 1) := by decide +kernel
theorem dX11_present_32 : decode cX11_present 32 = .ok (.getfield 270, 3) := by decide +kernel
theorem dX11_present_35 : decode cX11_present 35 = .ok (.iload_n 1, 1) := by decide +kernel
theorem dX11_present_36 : decode cX11_present 36 = .ok (.iaload, 1) := by decide +kernel
theorem dX11_present_37 : decode cX11_present 37 = .ok (.iload_n 2, 1) := by decide +kernel
theorem dX11_present_38 : decode cX11_present 38 = .ok (.ishr, 1) := by decide +kernel
theorem dX11_present_39 : decode cX11_present 39 = .ok (.iconst 1, 1) := by decide +kernel
theorem dX11_present_40 : decode cX11_present 40 = .ok (.iand, 1) := by decide +kernel
theorem dX11_present_41 : decode cX11_present 41 = .ok (.goto 4, 3) := by decide +kernel
theorem dX11_present_44 : decode cX11_present 44 = .ok (.iconst (-1), 1) := by decide +kernel
theorem dX11_present_45 : decode cX11_present 45 = .ok (.ireturn, 1) := by decide +kernel
theorem dX11_value_0 : decode cX11_value 0 = .ok (.aload_n 0, 1) := by decide +kernel
theorem dX11_value_1 : decode cX11_value 1 = .ok (.iload_n 1, 1) := by decide +kernel
theorem dX11_value_2 : decode cX11_value 2 = .ok (.invokevirtual 795, 3) := by decide +kernel
theorem dX11_value_5 : decode cX11_value 5 = .ok (.ifCond .eq 41, 3) := by decide +kernel
theorem dX11_value_8 : decode cX11_value 8 = .ok (.iload_n 2, 1) := by decide +kernel
theorem dX11_value_9 : decode cX11_value 9 = .ok (.i2l, 1) := by decide +kernel
theorem dX11_value_10 : decode cX11_value 10 = .ok (.lconst 0, 1) := by decide +kernel
theorem dX11_value_11 : decode cX11_value 11 = .ok (.aload_n 0, 1) := by decide +kernel
theorem dX11_value_12 : decode cX11_value 12 = .ok (.getfield 23, 3) := by decide +kernel
theorem dX11_value_15 : decode cX11_value 15 = .ok (.aload_n 0, 1) := by decide +kernel
theorem dX11_value_16 : decode cX11_value 16 = .ok (.getfield 228, 3) := by decide +kernel
theorem dX11_value_19 : decode cX11_value 19 = .ok (.iload_n 1, 1) := by decide +kernel
theorem dX11_value_20 : decode cX11_value 20 = .ok (.iaload, 1) := by decide +kernel
theorem dX11_value_21 : decode cX11_value 21 = .ok (.iaload, 1) := by decide +kernel
theorem dX11_value_22 : decode cX11_value 22 = .ok (.iconst 1, 1) := by decide +kernel
theorem dX11_value_23 : decode cX11_value 23 = .ok (.isub, 1) := by decide +kernel
theorem dX11_value_24 : decode cX11_value 24 = .ok (.i2l, 1) := by decide +kernel
theorem dX11_value_25 : decode cX11_value 25 = .ok (.invokestatic 332, 3) := by decide +kernel
theorem dX11_value_28 : decode cX11_value 28 = .ok (.ifCond .eq 18, 3) := by decide +kernel
theorem dX11_value_31 : decode cX11_value 31 = .ok (.aload_n 0, 1) := by decide +kernel
theorem dX11_value_32 : decode cX11_value 32 = .ok (.getfield 243, 3) := by decide +kernel
theorem dX11_value_35 : decode cX11_value 35 = .ok (.bipush 16, 2) := by decide +kernel
theorem dX11_value_37 : decode cX11_value 37 = .ok (.iload_n 1, 1) := by decide +kernel
theorem dX11_value_38 : decode cX11_value 38 = .ok (.imul, 1) := by decide +kernel
theorem dX11_value_39 : decode cX11_value 39 = .ok (.iload_n 2, 1) := by decide +kernel
theorem dX11_value_40 : decode cX11_value 40 = .ok (.iadd, 1) := by decide +kernel
theorem dX11_value_41 : decode cX11_value 41 = .ok (.laload, 1) := by decide +kernel
theorem dX11_value_42 : decode cX11_value 42 = .ok (.l2i, 1) := by decide +kernel
theorem dX11_value_43 : decode cX11_value 43 = .ok (.goto 4, 3) := by decide +kernel
theorem dX11_value_46 : decode cX11_value 46 = .ok (.iconst 0, 1) := by decide +kernel
theorem dX11_value_47 : decode cX11_value 47 = .ok (.ireturn, 1) := by decide +kernel
theorem dX11_variable_0 : decode cX11_variable 0 = .ok (.aload_n 0, 1) := by decide +kernel
theorem dX11_variable_1 : decode cX11_variable 1 = .ok (.iload_n 1, 1) := by decide +kernel
theorem dX11_variable_2 : decode cX11_variable 2 = .ok (.invokevirtual 795, 3) := by decide +kernel
theorem dX11_variable_5 : decode cX11_variable 5 = .ok (.ifCond .eq 41, 3) := by decide +kernel
theorem dX11_variable_8 : decode cX11_variable 8 = .ok (.iload_n 2, 1) := by decide +kernel
theorem dX11_variable_9 : decode cX11_variable 9 = .ok (.i2l, 1) := by decide +kernel
theorem dX11_variable_10 : decode cX11_variable 10 = .ok (.lconst 0, 1) := by decide +kernel
theorem dX11_variable_11 : decode cX11_variable 11 = .ok (.aload_n 0, 1) := by decide +kernel
theorem dX11_variable_12 : decode cX11_variable 12 = .ok (.getfield 29, 3) := by decide +kernel
theorem dX11_variable_15 : decode cX11_variable 15 = .ok (.aload_n 0, 1) := by decide +kernel
theorem dX11_variable_16 : decode cX11_variable 16 = .ok (.getfield 228, 3) := by decide +kernel
theorem dX11_variable_19 : decode cX11_variable 19 = .ok (.iload_n 1, 1) := by decide +kernel
theorem dX11_variable_20 : decode cX11_variable 20 = .ok (.iaload, 1) := by decide +kernel
theorem dX11_variable_21 : decode cX11_variable 21 = .ok (.iaload, 1) := by decide +kernel
theorem dX11_variable_22 : decode cX11_variable 22 = .ok (.iconst 1, 1) := by decide +kernel
theorem dX11_variable_23 : decode cX11_variable 23 = .ok (.isub, 1) := by decide +kernel
theorem dX11_variable_24 : decode cX11_variable 24 = .ok (.i2l, 1) := by decide +kernel
theorem dX11_variable_25 : decode cX11_variable 25 = .ok (.invokestatic 332, 3) := by decide +kernel
theorem dX11_variable_28 : decode cX11_variable 28 = .ok (.ifCond .eq 18, 3) := by decide +kernel
theorem dX11_variable_31 : decode cX11_variable 31 = .ok (.aload_n 0, 1) := by decide +kernel
theorem dX11_variable_32 : decode cX11_variable 32 = .ok (.getfield 246, 3) := by decide +kernel
theorem dX11_variable_35 : decode cX11_variable 35 = .ok (.bipush 6, 2) := by decide +kernel
theorem dX11_variable_37 : decode cX11_variable 37 = .ok (.iload_n 1, 1) := by decide +kernel
theorem dX11_variable_38 : decode cX11_variable 38 = .ok (.imul, 1) := by decide +kernel
theorem dX11_variable_39 : decode cX11_variable 39 = .ok (.iload_n 2, 1) := by decide +kernel
theorem dX11_variable_40 : decode cX11_variable 40 = .ok (.iadd, 1) := by decide +kernel
theorem dX11_variable_41 : decode cX11_variable 41 = .ok (.laload, 1) := by decide +kernel
theorem dX11_variable_42 : decode cX11_variable 42 = .ok (.l2i, 1) := by decide +kernel
theorem dX11_variable_43 : decode cX11_variable 43 = .ok (.goto 4, 3) := by decide +kernel
theorem dX11_variable_46 : decode cX11_variable 46 = .ok (.iconst 0, 1) := by decide +kernel
theorem dX11_variable_47 : decode cX11_variable 47 = .ok (.ireturn, 1) := by decide +kernel
theorem dX11_wire_0 : decode cX11_wire 0 = .ok (.aload_n 0, 1) := by decide +kernel
theorem dX11_wire_1 : decode cX11_wire 1 = .ok (.iload_n 1, 1) := by decide +kernel
theorem dX11_wire_2 : decode cX11_wire 2 = .ok (.invokevirtual 795, 3) := by decide +kernel
theorem dX11_wire_5 : decode cX11_wire 5 = .ok (.ifCond .eq 57, 3) := by decide +kernel
theorem dX11_wire_8 : decode cX11_wire 8 = .ok (.iload_n 2, 1) := by decide +kernel
theorem dX11_wire_9 : decode cX11_wire 9 = .ok (.i2l, 1) := by decide +kernel
theorem dX11_wire_10 : decode cX11_wire 10 = .ok (.lconst 0, 1) := by decide +kernel
theorem dX11_wire_11 : decode cX11_wire 11 = .ok (.aload_n 0, 1) := by decide +kernel
theorem dX11_wire_12 : decode cX11_wire 12 = .ok (.getfield 84, 3) := by decide +kernel
theorem dX11_wire_15 : decode cX11_wire 15 = .ok (.aload_n 0, 1) := by decide +kernel
theorem dX11_wire_16 : decode cX11_wire 16 = .ok (.getfield 228, 3) := by decide +kernel
theorem dX11_wire_19 : decode cX11_wire 19 = .ok (.iload_n 1, 1) := by decide +kernel
theorem dX11_wire_20 : decode cX11_wire 20 = .ok (.iaload, 1) := by decide +kernel
theorem dX11_wire_21 : decode cX11_wire 21 = .ok (.iaload, 1) := by decide +kernel
theorem dX11_wire_22 : decode cX11_wire 22 = .ok (.iconst 1, 1) := by decide +kernel
theorem dX11_wire_23 : decode cX11_wire 23 = .ok (.isub, 1) := by decide +kernel
theorem dX11_wire_24 : decode cX11_wire 24 = .ok (.i2l, 1) := by decide +kernel
theorem dX11_wire_25 : decode cX11_wire 25 = .ok (.invokestatic 332, 3) := by decide +kernel
theorem dX11_wire_28 : decode cX11_wire 28 = .ok (.ifCond .eq 34, 3) := by decide +kernel
theorem dX11_wire_31 : decode cX11_wire 31 = .ok (.iload_n 3, 1) := by decide +kernel
theorem dX11_wire_32 : decode cX11_wire 32 = .ok (.i2l, 1) := by decide +kernel
theorem dX11_wire_33 : decode cX11_wire 33 = .ok (.lconst 0, 1) := by decide +kernel
theorem dX11_wire_34 : decode cX11_wire 34 = .ok (.ldc2_w 841, 3) := by decide +kernel
theorem dX11_wire_37 : decode cX11_wire 37 = .ok (.invokestatic 332, 3) := by decide +kernel
theorem dX11_wire_40 : decode cX11_wire 40 = .ok (.ifCond .eq 22, 3) := by decide +kernel
theorem dX11_wire_43 : decode cX11_wire 43 = .ok (.aload_n 0, 1) := by decide +kernel
theorem dX11_wire_44 : decode cX11_wire 44 = .ok (.getfield 273, 3) := by decide +kernel
theorem dX11_wire_47 : decode cX11_wire 47 = .ok (.sipush 200, 3) := by decide +kernel
theorem dX11_wire_50 : decode cX11_wire 50 = .ok (.iload_n 1, 1) := by decide +kernel
theorem dX11_wire_51 : decode cX11_wire 51 = .ok (.imul, 1) := by decide +kernel
theorem dX11_wire_52 : decode cX11_wire 52 = .ok (.iconst 5, 1) := by decide +kernel
theorem dX11_wire_53 : decode cX11_wire 53 = .ok (.iload_n 2, 1) := by decide +kernel
theorem dX11_wire_54 : decode cX11_wire 54 = .ok (.imul, 1) := by decide +kernel
theorem dX11_wire_55 : decode cX11_wire 55 = .ok (.iadd, 1) := by decide +kernel
theorem dX11_wire_56 : decode cX11_wire 56 = .ok (.iload_n 3, 1) := by decide +kernel
theorem dX11_wire_57 : decode cX11_wire 57 = .ok (.iadd, 1) := by decide +kernel
theorem dX11_wire_58 : decode cX11_wire 58 = .ok (.iaload, 1) := by decide +kernel
theorem dX11_wire_59 : decode cX11_wire 59 = .ok (.goto 4, 3) := by decide +kernel
theorem dX11_wire_62 : decode cX11_wire 62 = .ok (.iconst (-1), 1) := by decide +kernel
theorem dX11_wire_63 : decode cX11_wire 63 = .ok (.ireturn, 1) := by decide +kernel
theorem dX11_bits_0 : decode cX11_bits 0 = .ok (.iconst 0, 1) := by decide +kernel
theorem dX11_bits_1 : decode cX11_bits 1 = .ok (.istore_n 1, 1) := by decide +kernel
theorem dX11_bits_2 : decode cX11_bits 2 = .ok (.iconst 0, 1) := by decide +kernel
theorem dX11_bits_3 : decode cX11_bits 3 = .ok (.istore_n 2, 1) := by decide +kernel
theorem dX11_bits_4 : decode cX11_bits 4 = .ok (.iload_n 2, 1) := by decide +kernel
theorem dX11_bits_5 : decode cX11_bits 5 = .ok (.bipush 31, 2) := by decide +kernel
theorem dX11_bits_7 : decode cX11_bits 7 = .ok (.if_icmp .ge 17, 3) := by decide +kernel
theorem dX11_bits_10 : decode cX11_bits 10 = .ok (.iload_n 1, 1) := by decide +kernel
theorem dX11_bits_11 : decode cX11_bits 11 = .ok (.iload_n 0, 1) := by decide +kernel
theorem dX11_bits_12 : decode cX11_bits 12 = .ok (.iload_n 2, 1) := by decide +kernel
theorem dX11_bits_13 : decode cX11_bits 13 = .ok (.ishr, 1) := by decide +kernel
theorem dX11_bits_14 : decode cX11_bits 14 = .ok (.iconst 1, 1) := by decide +kernel
theorem dX11_bits_15 : decode cX11_bits 15 = .ok (.iand, 1) := by decide +kernel
theorem dX11_bits_16 : decode cX11_bits 16 = .ok (.iadd, 1) := by decide +kernel
theorem dX11_bits_17 : decode cX11_bits 17 = .ok (.istore_n 1, 1) := by decide +kernel
theorem dX11_bits_18 : decode cX11_bits 18 = .ok (.iinc 2 1, 3) := by decide +kernel
theorem dX11_bits_21 : decode cX11_bits 21 = .ok (.goto (-17), 3) := by decide +kernel
theorem dX11_bits_24 : decode cX11_bits 24 = .ok (.iload_n 1, 1) := by decide +kernel
theorem dX11_bits_25 : decode cX11_bits 25 = .ok (.ireturn, 1) := by decide +kernel
theorem dX11_told_0 : decode cX11_told 0 = .ok (.aload_n 0, 1) := by decide +kernel
theorem dX11_told_1 : decode cX11_told 1 = .ok (.iload_n 1, 1) := by decide +kernel
theorem dX11_told_2 : decode cX11_told 2 = .ok (.invokevirtual 795, 3) := by decide +kernel
theorem dX11_told_5 : decode cX11_told 5 = .ok (.ifCond .ne 5, 3) := by decide +kernel
theorem dX11_told_8 : decode cX11_told 8 = .ok (.iconst (-1), 1) := by decide +kernel
theorem dX11_told_9 : decode cX11_told 9 = .ok (.ireturn, 1) := by decide +kernel
theorem dX11_told_10 : decode cX11_told 10 = .ok (.iload_n 2, 1) := by decide +kernel
theorem dX11_told_11 : decode cX11_told 11 = .ok (.tableswitch 112 0 7 #[45, 52, 62, 77, 84, 91, 98, 105], 45) := by decide +kernel
theorem dX11_told_56 : decode cX11_told 56 = .ok (.aload_n 0, 1) := by decide +kernel
theorem dX11_told_57 : decode cX11_told 57 = .ok (.getfield 249, 3) := by decide +kernel
theorem dX11_told_60 : decode cX11_told 60 = .ok (.iload_n 1, 1) := by decide +kernel
theorem dX11_told_61 : decode cX11_told 61 = .ok (.iaload, 1) := by decide +kernel
theorem dX11_told_62 : decode cX11_told 62 = .ok (.ireturn, 1) := by decide +kernel
theorem dX11_told_63 : decode cX11_told 63 = .ok (.aload_n 0, 1) := by decide +kernel
theorem dX11_told_64 : decode cX11_told 64 = .ok (.getfield 237, 3) := by decide +kernel
theorem dX11_told_67 : decode cX11_told 67 = .ok (.iload_n 1, 1) := by decide +kernel
theorem dX11_told_68 : decode cX11_told 68 = .ok (.iaload, 1) := by decide +kernel
theorem dX11_told_69 : decode cX11_told 69 = .ok (.invokestatic 843, 3) := by decide +kernel
theorem dX11_told_72 : decode cX11_told 72 = .ok (.ireturn, 1) := by decide +kernel
theorem dX11_told_73 : decode cX11_told 73 = .ok (.aload_n 0, 1) := by decide +kernel
theorem dX11_told_74 : decode cX11_told 74 = .ok (.getfield 234, 3) := by decide +kernel
theorem dX11_told_77 : decode cX11_told 77 = .ok (.iload_n 1, 1) := by decide +kernel
theorem dX11_told_78 : decode cX11_told 78 = .ok (.baload, 1) := by decide +kernel
theorem dX11_told_79 : decode cX11_told 79 = .ok (.ifCond .eq 7, 3) := by decide +kernel
theorem dX11_told_82 : decode cX11_told 82 = .ok (.iconst 1, 1) := by decide +kernel
theorem dX11_told_83 : decode cX11_told 83 = .ok (.goto 4, 3) := by decide +kernel
theorem dX11_told_86 : decode cX11_told 86 = .ok (.iconst 0, 1) := by decide +kernel
theorem dX11_told_87 : decode cX11_told 87 = .ok (.ireturn, 1) := by decide +kernel
theorem dX11_told_88 : decode cX11_told 88 = .ok (.aload_n 0, 1) := by decide +kernel
theorem dX11_told_89 : decode cX11_told 89 = .ok (.getfield 261, 3) := by decide +kernel
theorem dX11_told_92 : decode cX11_told 92 = .ok (.iload_n 1, 1) := by decide +kernel
theorem dX11_told_93 : decode cX11_told 93 = .ok (.iaload, 1) := by decide +kernel
theorem dX11_told_94 : decode cX11_told 94 = .ok (.ireturn, 1) := by decide +kernel
theorem dX11_told_95 : decode cX11_told 95 = .ok (.aload_n 0, 1) := by decide +kernel
theorem dX11_told_96 : decode cX11_told 96 = .ok (.getfield 264, 3) := by decide +kernel
theorem dX11_told_99 : decode cX11_told 99 = .ok (.iload_n 1, 1) := by decide +kernel
theorem dX11_told_100 : decode cX11_told 100 = .ok (.iaload, 1) := by decide +kernel
theorem dX11_told_101 : decode cX11_told 101 = .ok (.ireturn, 1) := by decide +kernel
theorem dX11_told_102 : decode cX11_told 102 = .ok (.aload_n 0, 1) := by decide +kernel
theorem dX11_told_103 : decode cX11_told 103 = .ok (.getfield 267, 3) := by decide +kernel
theorem dX11_told_106 : decode cX11_told 106 = .ok (.iload_n 1, 1) := by decide +kernel
theorem dX11_told_107 : decode cX11_told 107 = .ok (.iaload, 1) := by decide +kernel
theorem dX11_told_108 : decode cX11_told 108 = .ok (.ireturn, 1) := by decide +kernel
theorem dX11_told_109 : decode cX11_told 109 = .ok (.aload_n 0, 1) := by decide +kernel
theorem dX11_told_110 : decode cX11_told 110 = .ok (.getfield 228, 3) := by decide +kernel
theorem dX11_told_113 : decode cX11_told 113 = .ok (.iload_n 1, 1) := by decide +kernel
theorem dX11_told_114 : decode cX11_told 114 = .ok (.iaload, 1) := by decide +kernel
theorem dX11_told_115 : decode cX11_told 115 = .ok (.ireturn, 1) := by decide +kernel
theorem dX11_told_116 : decode cX11_told 116 = .ok (.aload_n 0, 1) := by decide +kernel
theorem dX11_told_117 : decode cX11_told 117 = .ok (.getfield 252, 3) := by decide +kernel
theorem dX11_told_120 : decode cX11_told 120 = .ok (.iload_n 1, 1) := by decide +kernel
theorem dX11_told_121 : decode cX11_told 121 = .ok (.iaload, 1) := by decide +kernel
theorem dX11_told_122 : decode cX11_told 122 = .ok (.ireturn, 1) := by decide +kernel
theorem dX11_told_123 : decode cX11_told 123 = .ok (.iconst (-1), 1) := by decide +kernel
theorem dX11_told_124 : decode cX11_told 124 = .ok (.ireturn, 1) := by decide +kernel
theorem dX11_paused_0 : decode cX11_paused 0 = .ok (.aload_n 0, 1) := by decide +kernel
theorem dX11_paused_1 : decode cX11_paused 1 = .ok (.iload_n 1, 1) := by decide +kernel
theorem dX11_paused_2 : decode cX11_paused 2 = .ok (.invokevirtual 795, 3) := by decide +kernel
theorem dX11_paused_5 : decode cX11_paused 5 = .ok (.ifCond .eq 39, 3) := by decide +kernel
theorem dX11_paused_8 : decode cX11_paused 8 = .ok (.iload_n 2, 1) := by decide +kernel
theorem dX11_paused_9 : decode cX11_paused 9 = .ok (.i2l, 1) := by decide +kernel
theorem dX11_paused_10 : decode cX11_paused 10 = .ok (.lconst 0, 1) := by decide +kernel
theorem dX11_paused_11 : decode cX11_paused 11 = .ok (.aload_n 0, 1) := by decide +kernel
theorem dX11_paused_12 : decode cX11_paused 12 = .ok (.getfield 87, 3) := by decide +kernel
theorem dX11_paused_15 : decode cX11_paused 15 = .ok (.aload_n 0, 1) := by decide +kernel
theorem dX11_paused_16 : decode cX11_paused 16 = .ok (.getfield 228, 3) := by decide +kernel
theorem dX11_paused_19 : decode cX11_paused 19 = .ok (.iload_n 1, 1) := by decide +kernel
theorem dX11_paused_20 : decode cX11_paused 20 = .ok (.iaload, 1) := by decide +kernel
theorem dX11_paused_21 : decode cX11_paused 21 = .ok (.iaload, 1) := by decide +kernel
theorem dX11_paused_22 : decode cX11_paused 22 = .ok (.iconst 1, 1) := by decide +kernel
theorem dX11_paused_23 : decode cX11_paused 23 = .ok (.isub, 1) := by decide +kernel
theorem dX11_paused_24 : decode cX11_paused 24 = .ok (.i2l, 1) := by decide +kernel
theorem dX11_paused_25 : decode cX11_paused 25 = .ok (.invokestatic 332, 3) := by decide +kernel
theorem dX11_paused_28 : decode cX11_paused 28 = .ok (.ifCond .eq 16, 3) := by decide +kernel
theorem dX11_paused_31 : decode cX11_paused 31 = .ok (.aload_n 0, 1) := by decide +kernel
theorem dX11_paused_32 : decode cX11_paused 32 = .ok (.getfield 237, 3) := by decide +kernel
theorem dX11_paused_35 : decode cX11_paused 35 = .ok (.iload_n 1, 1) := by decide +kernel
theorem dX11_paused_36 : decode cX11_paused 36 = .ok (.iaload, 1) := by decide +kernel
theorem dX11_paused_37 : decode cX11_paused 37 = .ok (.iload_n 2, 1) := by decide +kernel
theorem dX11_paused_38 : decode cX11_paused 38 = .ok (.ishr, 1) := by decide +kernel
theorem dX11_paused_39 : decode cX11_paused 39 = .ok (.iconst 1, 1) := by decide +kernel
theorem dX11_paused_40 : decode cX11_paused 40 = .ok (.iand, 1) := by decide +kernel
theorem dX11_paused_41 : decode cX11_paused 41 = .ok (.goto 4, 3) := by decide +kernel
theorem dX11_paused_44 : decode cX11_paused 44 = .ok (.iconst (-1), 1) := by decide +kernel
theorem dX11_paused_45 : decode cX11_paused 45 = .ok (.ireturn, 1) := by decide +kernel
theorem dX11_copy_0 : decode cX11_copy 0 = .ok (.aload_n 0, 1) := by decide +kernel
theorem dX11_copy_1 : decode cX11_copy 1 = .ok (.getfield 231, 3) := by decide +kernel
theorem dX11_copy_4 : decode cX11_copy 4 = .ok (.iload_n 2, 1) := by decide +kernel
theorem dX11_copy_5 : decode cX11_copy 5 = .ok (.aload_n 0, 1) := by decide +kernel
theorem dX11_copy_6 : decode cX11_copy 6 = .ok (.getfield 231, 3) := by decide +kernel
theorem dX11_copy_9 : decode cX11_copy 9 = .ok (.iload_n 1, 1) := by decide +kernel
theorem dX11_copy_10 : decode cX11_copy 10 = .ok (.baload, 1) := by decide +kernel
theorem dX11_copy_11 : decode cX11_copy 11 = .ok (.bastore, 1) := by decide +kernel
theorem dX11_copy_12 : decode cX11_copy 12 = .ok (.aload_n 0, 1) := by decide +kernel
theorem dX11_copy_13 : decode cX11_copy 13 = .ok (.getfield 234, 3) := by decide +kernel
theorem dX11_copy_16 : decode cX11_copy 16 = .ok (.iload_n 2, 1) := by decide +kernel
theorem dX11_copy_17 : decode cX11_copy 17 = .ok (.aload_n 0, 1) := by decide +kernel
theorem dX11_copy_18 : decode cX11_copy 18 = .ok (.getfield 234, 3) := by decide +kernel
theorem dX11_copy_21 : decode cX11_copy 21 = .ok (.iload_n 1, 1) := by decide +kernel
theorem dX11_copy_22 : decode cX11_copy 22 = .ok (.baload, 1) := by decide +kernel
theorem dX11_copy_23 : decode cX11_copy 23 = .ok (.bastore, 1) := by decide +kernel
theorem dX11_copy_24 : decode cX11_copy 24 = .ok (.aload_n 0, 1) := by decide +kernel
theorem dX11_copy_25 : decode cX11_copy 25 = .ok (.getfield 237, 3) := by decide +kernel
theorem dX11_copy_28 : decode cX11_copy 28 = .ok (.iload_n 2, 1) := by decide +kernel
theorem dX11_copy_29 : decode cX11_copy 29 = .ok (.aload_n 0, 1) := by decide +kernel
theorem dX11_copy_30 : decode cX11_copy 30 = .ok (.getfield 237, 3) := by decide +kernel
theorem dX11_copy_33 : decode cX11_copy 33 = .ok (.iload_n 1, 1) := by decide +kernel
theorem dX11_copy_34 : decode cX11_copy 34 = .ok (.iaload, 1) := by decide +kernel
theorem dX11_copy_35 : decode cX11_copy 35 = .ok (.iastore, 1) := by decide +kernel
theorem dX11_copy_36 : decode cX11_copy 36 = .ok (.aload_n 0, 1) := by decide +kernel
theorem dX11_copy_37 : decode cX11_copy 37 = .ok (.getfield 240, 3) := by decide +kernel
theorem dX11_copy_40 : decode cX11_copy 40 = .ok (.iload_n 2, 1) := by decide +kernel
theorem dX11_copy_41 : decode cX11_copy 41 = .ok (.aload_n 0, 1) := by decide +kernel
theorem dX11_copy_42 : decode cX11_copy 42 = .ok (.getfield 240, 3) := by decide +kernel
theorem dX11_copy_45 : decode cX11_copy 45 = .ok (.iload_n 1, 1) := by decide +kernel
theorem dX11_copy_46 : decode cX11_copy 46 = .ok (.iaload, 1) := by decide +kernel
theorem dX11_copy_47 : decode cX11_copy 47 = .ok (.iastore, 1) := by decide +kernel
theorem dX11_copy_48 : decode cX11_copy 48 = .ok (.aload_n 0, 1) := by decide +kernel
theorem dX11_copy_49 : decode cX11_copy 49 = .ok (.getfield 249, 3) := by decide +kernel
theorem dX11_copy_52 : decode cX11_copy 52 = .ok (.iload_n 2, 1) := by decide +kernel
theorem dX11_copy_53 : decode cX11_copy 53 = .ok (.aload_n 0, 1) := by decide +kernel
theorem dX11_copy_54 : decode cX11_copy 54 = .ok (.getfield 249, 3) := by decide +kernel
theorem dX11_copy_57 : decode cX11_copy 57 = .ok (.iload_n 1, 1) := by decide +kernel
theorem dX11_copy_58 : decode cX11_copy 58 = .ok (.iaload, 1) := by decide +kernel
theorem dX11_copy_59 : decode cX11_copy 59 = .ok (.iastore, 1) := by decide +kernel
theorem dX11_copy_60 : decode cX11_copy 60 = .ok (.iconst 0, 1) := by decide +kernel
theorem dX11_copy_61 : decode cX11_copy 61 = .ok (.istore_n 3, 1) := by decide +kernel
theorem dX11_copy_62 : decode cX11_copy 62 = .ok (.iload_n 3, 1) := by decide +kernel
theorem dX11_copy_63 : decode cX11_copy 63 = .ok (.bipush 16, 2) := by decide +kernel
theorem dX11_copy_65 : decode cX11_copy 65 = .ok (.if_icmp .ge 31, 3) := by decide +kernel
theorem dX11_copy_68 : decode cX11_copy 68 = .ok (.aload_n 0, 1) := by decide +kernel
theorem dX11_copy_69 : decode cX11_copy 69 = .ok (.getfield 243, 3) := by decide +kernel
theorem dX11_copy_72 : decode cX11_copy 72 = .ok (.bipush 16, 2) := by decide +kernel
theorem dX11_copy_74 : decode cX11_copy 74 = .ok (.iload_n 2, 1) := by decide +kernel
theorem dX11_copy_75 : decode cX11_copy 75 = .ok (.imul, 1) := by decide +kernel
theorem dX11_copy_76 : decode cX11_copy 76 = .ok (.iload_n 3, 1) := by decide +kernel
theorem dX11_copy_77 : decode cX11_copy 77 = .ok (.iadd, 1) := by decide +kernel
theorem dX11_copy_78 : decode cX11_copy 78 = .ok (.aload_n 0, 1) := by decide +kernel
theorem dX11_copy_79 : decode cX11_copy 79 = .ok (.getfield 243, 3) := by decide +kernel
theorem dX11_copy_82 : decode cX11_copy 82 = .ok (.bipush 16, 2) := by decide +kernel
theorem dX11_copy_84 : decode cX11_copy 84 = .ok (.iload_n 1, 1) := by decide +kernel
theorem dX11_copy_85 : decode cX11_copy 85 = .ok (.imul, 1) := by decide +kernel
theorem dX11_copy_86 : decode cX11_copy 86 = .ok (.iload_n 3, 1) := by decide +kernel
theorem dX11_copy_87 : decode cX11_copy 87 = .ok (.iadd, 1) := by decide +kernel
theorem dX11_copy_88 : decode cX11_copy 88 = .ok (.laload, 1) := by decide +kernel
theorem dX11_copy_89 : decode cX11_copy 89 = .ok (.lastore, 1) := by decide +kernel
theorem dX11_copy_90 : decode cX11_copy 90 = .ok (.iinc 3 1, 3) := by decide +kernel
theorem dX11_copy_93 : decode cX11_copy 93 = .ok (.goto (-31), 3) := by decide +kernel
theorem dX11_copy_96 : decode cX11_copy 96 = .ok (.iconst 0, 1) := by decide +kernel
theorem dX11_copy_97 : decode cX11_copy 97 = .ok (.istore_n 3, 1) := by decide +kernel
theorem dX11_copy_98 : decode cX11_copy 98 = .ok (.iload_n 3, 1) := by decide +kernel
theorem dX11_copy_99 : decode cX11_copy 99 = .ok (.bipush 6, 2) := by decide +kernel
theorem dX11_copy_101 : decode cX11_copy 101 = .ok (.if_icmp .ge 31, 3) := by decide +kernel
theorem dX11_copy_104 : decode cX11_copy 104 = .ok (.aload_n 0, 1) := by decide +kernel
theorem dX11_copy_105 : decode cX11_copy 105 = .ok (.getfield 246, 3) := by decide +kernel
theorem dX11_copy_108 : decode cX11_copy 108 = .ok (.bipush 6, 2) := by decide +kernel
theorem dX11_copy_110 : decode cX11_copy 110 = .ok (.iload_n 2, 1) := by decide +kernel
theorem dX11_copy_111 : decode cX11_copy 111 = .ok (.imul, 1) := by decide +kernel
theorem dX11_copy_112 : decode cX11_copy 112 = .ok (.iload_n 3, 1) := by decide +kernel
theorem dX11_copy_113 : decode cX11_copy 113 = .ok (.iadd, 1) := by decide +kernel
theorem dX11_copy_114 : decode cX11_copy 114 = .ok (.aload_n 0, 1) := by decide +kernel
theorem dX11_copy_115 : decode cX11_copy 115 = .ok (.getfield 246, 3) := by decide +kernel
theorem dX11_copy_118 : decode cX11_copy 118 = .ok (.bipush 6, 2) := by decide +kernel
theorem dX11_copy_120 : decode cX11_copy 120 = .ok (.iload_n 1, 1) := by decide +kernel
theorem dX11_copy_121 : decode cX11_copy 121 = .ok (.imul, 1) := by decide +kernel
theorem dX11_copy_122 : decode cX11_copy 122 = .ok (.iload_n 3, 1) := by decide +kernel
theorem dX11_copy_123 : decode cX11_copy 123 = .ok (.iadd, 1) := by decide +kernel
theorem dX11_copy_124 : decode cX11_copy 124 = .ok (.laload, 1) := by decide +kernel
theorem dX11_copy_125 : decode cX11_copy 125 = .ok (.lastore, 1) := by decide +kernel
theorem dX11_copy_126 : decode cX11_copy 126 = .ok (.iinc 3 1, 3) := by decide +kernel
theorem dX11_copy_129 : decode cX11_copy 129 = .ok (.goto (-31), 3) := by decide +kernel
theorem dX11_copy_132 : decode cX11_copy 132 = .ok (.return_, 1) := by decide +kernel
theorem dX11_keep_0 : decode cX11_keep 0 = .ok (.aload_n 0, 1) := by decide +kernel
theorem dX11_keep_1 : decode cX11_keep 1 = .ok (.iload_n 1, 1) := by decide +kernel
theorem dX11_keep_2 : decode cX11_keep 2 = .ok (.invokevirtual 795, 3) := by decide +kernel
theorem dX11_keep_5 : decode cX11_keep 5 = .ok (.ifCond .ne 5, 3) := by decide +kernel
theorem dX11_keep_8 : decode cX11_keep 8 = .ok (.iconst (-1), 1) := by decide +kernel
theorem dX11_keep_9 : decode cX11_keep 9 = .ok (.ireturn, 1) := by decide +kernel
theorem dX11_keep_10 : decode cX11_keep 10 = .ok (.aload_n 0, 1) := by decide +kernel
theorem dX11_keep_11 : decode cX11_keep 11 = .ok (.getfield 252, 3) := by decide +kernel
theorem dX11_keep_14 : decode cX11_keep 14 = .ok (.iload_n 1, 1) := by decide +kernel
theorem dX11_keep_15 : decode cX11_keep 15 = .ok (.iaload, 1) := by decide +kernel
theorem dX11_keep_16 : decode cX11_keep 16 = .ok (.iconst 3, 1) := by decide +kernel
theorem dX11_keep_17 : decode cX11_keep 17 = .ok (.if_icmp .ne 6, 3) := by decide +kernel
theorem dX11_keep_20 : decode cX11_keep 20 = .ok (.bipush (-3), 2) := by decide +kernel
theorem dX11_keep_22 : decode cX11_keep 22 = .ok (.ireturn, 1) := by decide +kernel
theorem dX11_keep_23 : decode cX11_keep 23 = .ok (.aload_n 0, 1) := by decide +kernel
theorem dX11_keep_24 : decode cX11_keep 24 = .ok (.iload_n 1, 1) := by decide +kernel
theorem dX11_keep_25 : decode cX11_keep 25 = .ok (.bipush 8, 2) := by decide +kernel
theorem dX11_keep_27 : decode cX11_keep 27 = .ok (.iconst 3, 1) := by decide +kernel
theorem dX11_keep_28 : decode cX11_keep 28 = .ok (.iload_n 1, 1) := by decide +kernel
theorem dX11_keep_29 : decode cX11_keep 29 = .ok (.imul, 1) := by decide +kernel
theorem dX11_keep_30 : decode cX11_keep 30 = .ok (.iadd, 1) := by decide +kernel
theorem dX11_keep_31 : decode cX11_keep 31 = .ok (.aload_n 0, 1) := by decide +kernel
theorem dX11_keep_32 : decode cX11_keep 32 = .ok (.getfield 252, 3) := by decide +kernel
theorem dX11_keep_35 : decode cX11_keep 35 = .ok (.iload_n 1, 1) := by decide +kernel
theorem dX11_keep_36 : decode cX11_keep 36 = .ok (.iaload, 1) := by decide +kernel
theorem dX11_keep_37 : decode cX11_keep 37 = .ok (.iadd, 1) := by decide +kernel
theorem dX11_keep_38 : decode cX11_keep 38 = .ok (.invokevirtual 846, 3) := by decide +kernel
theorem dX11_keep_41 : decode cX11_keep 41 = .ok (.aload_n 0, 1) := by decide +kernel
theorem dX11_keep_42 : decode cX11_keep 42 = .ok (.getfield 252, 3) := by decide +kernel
theorem dX11_keep_45 : decode cX11_keep 45 = .ok (.iload_n 1, 1) := by decide +kernel
theorem dX11_keep_46 : decode cX11_keep 46 = .ok (.dup2, 1) := by decide +kernel
theorem dX11_keep_47 : decode cX11_keep 47 = .ok (.iaload, 1) := by decide +kernel
theorem dX11_keep_48 : decode cX11_keep 48 = .ok (.iconst 1, 1) := by decide +kernel
theorem dX11_keep_49 : decode cX11_keep 49 = .ok (.iadd, 1) := by decide +kernel
theorem dX11_keep_50 : decode cX11_keep 50 = .ok (.iastore, 1) := by decide +kernel
theorem dX11_keep_51 : decode cX11_keep 51 = .ok (.aload_n 0, 1) := by decide +kernel
theorem dX11_keep_52 : decode cX11_keep 52 = .ok (.getfield 252, 3) := by decide +kernel
theorem dX11_keep_55 : decode cX11_keep 55 = .ok (.iload_n 1, 1) := by decide +kernel
theorem dX11_keep_56 : decode cX11_keep 56 = .ok (.iaload, 1) := by decide +kernel
theorem dX11_keep_57 : decode cX11_keep 57 = .ok (.ireturn, 1) := by decide +kernel
theorem dX11_back_0 : decode cX11_back 0 = .ok (.aload_n 0, 1) := by decide +kernel
theorem dX11_back_1 : decode cX11_back 1 = .ok (.iload_n 1, 1) := by decide +kernel
theorem dX11_back_2 : decode cX11_back 2 = .ok (.invokevirtual 795, 3) := by decide +kernel
theorem dX11_back_5 : decode cX11_back 5 = .ok (.ifCond .ne 5, 3) := by decide +kernel
theorem dX11_back_8 : decode cX11_back 8 = .ok (.iconst (-1), 1) := by decide +kernel
theorem dX11_back_9 : decode cX11_back 9 = .ok (.ireturn, 1) := by decide +kernel
theorem dX11_back_10 : decode cX11_back 10 = .ok (.aload_n 0, 1) := by decide +kernel
theorem dX11_back_11 : decode cX11_back 11 = .ok (.getfield 252, 3) := by decide +kernel
theorem dX11_back_14 : decode cX11_back 14 = .ok (.iload_n 1, 1) := by decide +kernel
theorem dX11_back_15 : decode cX11_back 15 = .ok (.iaload, 1) := by decide +kernel
theorem dX11_back_16 : decode cX11_back 16 = .ok (.ifCond .ne 6, 3) := by decide +kernel
theorem dX11_back_19 : decode cX11_back 19 = .ok (.bipush (-2), 2) := by decide +kernel
theorem dX11_back_21 : decode cX11_back 21 = .ok (.ireturn, 1) := by decide +kernel
theorem dX11_back_22 : decode cX11_back 22 = .ok (.aload_n 0, 1) := by decide +kernel
theorem dX11_back_23 : decode cX11_back 23 = .ok (.getfield 252, 3) := by decide +kernel
theorem dX11_back_26 : decode cX11_back 26 = .ok (.iload_n 1, 1) := by decide +kernel
theorem dX11_back_27 : decode cX11_back 27 = .ok (.dup2, 1) := by decide +kernel
theorem dX11_back_28 : decode cX11_back 28 = .ok (.iaload, 1) := by decide +kernel
theorem dX11_back_29 : decode cX11_back 29 = .ok (.iconst 1, 1) := by decide +kernel
theorem dX11_back_30 : decode cX11_back 30 = .ok (.isub, 1) := by decide +kernel
theorem dX11_back_31 : decode cX11_back 31 = .ok (.iastore, 1) := by decide +kernel
theorem dX11_back_32 : decode cX11_back 32 = .ok (.aload_n 0, 1) := by decide +kernel
theorem dX11_back_33 : decode cX11_back 33 = .ok (.bipush 8, 2) := by decide +kernel
theorem dX11_back_35 : decode cX11_back 35 = .ok (.iconst 3, 1) := by decide +kernel
theorem dX11_back_36 : decode cX11_back 36 = .ok (.iload_n 1, 1) := by decide +kernel
theorem dX11_back_37 : decode cX11_back 37 = .ok (.imul, 1) := by decide +kernel
theorem dX11_back_38 : decode cX11_back 38 = .ok (.iadd, 1) := by decide +kernel
theorem dX11_back_39 : decode cX11_back 39 = .ok (.aload_n 0, 1) := by decide +kernel
theorem dX11_back_40 : decode cX11_back 40 = .ok (.getfield 252, 3) := by decide +kernel
theorem dX11_back_43 : decode cX11_back 43 = .ok (.iload_n 1, 1) := by decide +kernel
theorem dX11_back_44 : decode cX11_back 44 = .ok (.iaload, 1) := by decide +kernel
theorem dX11_back_45 : decode cX11_back 45 = .ok (.iadd, 1) := by decide +kernel
theorem dX11_back_46 : decode cX11_back 46 = .ok (.iload_n 1, 1) := by decide +kernel
theorem dX11_back_47 : decode cX11_back 47 = .ok (.invokevirtual 846, 3) := by decide +kernel
theorem dX11_back_50 : decode cX11_back 50 = .ok (.aload_n 0, 1) := by decide +kernel
theorem dX11_back_51 : decode cX11_back 51 = .ok (.iload_n 1, 1) := by decide +kernel
theorem dX11_back_52 : decode cX11_back 52 = .ok (.invokevirtual 792, 3) := by decide +kernel
theorem dX11_back_55 : decode cX11_back 55 = .ok (.aload_n 0, 1) := by decide +kernel
theorem dX11_back_56 : decode cX11_back 56 = .ok (.getfield 252, 3) := by decide +kernel
theorem dX11_back_59 : decode cX11_back 59 = .ok (.iload_n 1, 1) := by decide +kernel
theorem dX11_back_60 : decode cX11_back 60 = .ok (.iaload, 1) := by decide +kernel
theorem dX11_back_61 : decode cX11_back 61 = .ok (.ireturn, 1) := by decide +kernel
theorem dX11_same_0 : decode cX11_same 0 = .ok (.aload_n 0, 1) := by decide +kernel
theorem dX11_same_1 : decode cX11_same 1 = .ok (.iload_n 1, 1) := by decide +kernel
theorem dX11_same_2 : decode cX11_same 2 = .ok (.invokevirtual 795, 3) := by decide +kernel
theorem dX11_same_5 : decode cX11_same 5 = .ok (.ifCond .eq 11, 3) := by decide +kernel
theorem dX11_same_8 : decode cX11_same 8 = .ok (.aload_n 0, 1) := by decide +kernel
theorem dX11_same_9 : decode cX11_same 9 = .ok (.iload_n 2, 1) := by decide +kernel
theorem dX11_same_10 : decode cX11_same 10 = .ok (.invokevirtual 795, 3) := by decide +kernel
theorem dX11_same_13 : decode cX11_same 13 = .ok (.ifCond .ne 5, 3) := by decide +kernel
theorem dX11_same_16 : decode cX11_same 16 = .ok (.iconst (-1), 1) := by decide +kernel
theorem dX11_same_17 : decode cX11_same 17 = .ok (.ireturn, 1) := by decide +kernel
theorem dX11_same_18 : decode cX11_same 18 = .ok (.aload_n 0, 1) := by decide +kernel
theorem dX11_same_19 : decode cX11_same 19 = .ok (.getfield 228, 3) := by decide +kernel
theorem dX11_same_22 : decode cX11_same 22 = .ok (.iload_n 1, 1) := by decide +kernel
theorem dX11_same_23 : decode cX11_same 23 = .ok (.iaload, 1) := by decide +kernel
theorem dX11_same_24 : decode cX11_same 24 = .ok (.aload_n 0, 1) := by decide +kernel
theorem dX11_same_25 : decode cX11_same 25 = .ok (.getfield 228, 3) := by decide +kernel
theorem dX11_same_28 : decode cX11_same 28 = .ok (.iload_n 2, 1) := by decide +kernel
theorem dX11_same_29 : decode cX11_same 29 = .ok (.iaload, 1) := by decide +kernel
theorem dX11_same_30 : decode cX11_same 30 = .ok (.if_icmp .eq 6, 3) := by decide +kernel
theorem dX11_same_33 : decode cX11_same 33 = .ok (.bipush (-2), 2) := by decide +kernel
theorem dX11_same_35 : decode cX11_same 35 = .ok (.ireturn, 1) := by decide +kernel
theorem dX11_same_36 : decode cX11_same 36 = .ok (.aload_n 0, 1) := by decide +kernel
theorem dX11_same_37 : decode cX11_same 37 = .ok (.getfield 231, 3) := by decide +kernel
theorem dX11_same_40 : decode cX11_same 40 = .ok (.iload_n 1, 1) := by decide +kernel
theorem dX11_same_41 : decode cX11_same 41 = .ok (.baload, 1) := by decide +kernel
theorem dX11_same_42 : decode cX11_same 42 = .ok (.aload_n 0, 1) := by decide +kernel
theorem dX11_same_43 : decode cX11_same 43 = .ok (.getfield 231, 3) := by decide +kernel
theorem dX11_same_46 : decode cX11_same 46 = .ok (.iload_n 2, 1) := by decide +kernel
theorem dX11_same_47 : decode cX11_same 47 = .ok (.baload, 1) := by decide +kernel
theorem dX11_same_48 : decode cX11_same 48 = .ok (.if_icmp .ne 52, 3) := by decide +kernel
theorem dX11_same_51 : decode cX11_same 51 = .ok (.aload_n 0, 1) := by decide +kernel
theorem dX11_same_52 : decode cX11_same 52 = .ok (.getfield 234, 3) := by decide +kernel
theorem dX11_same_55 : decode cX11_same 55 = .ok (.iload_n 1, 1) := by decide +kernel
theorem dX11_same_56 : decode cX11_same 56 = .ok (.baload, 1) := by decide +kernel
theorem dX11_same_57 : decode cX11_same 57 = .ok (.aload_n 0, 1) := by decide +kernel
theorem dX11_same_58 : decode cX11_same 58 = .ok (.getfield 234, 3) := by decide +kernel
theorem dX11_same_61 : decode cX11_same 61 = .ok (.iload_n 2, 1) := by decide +kernel
theorem dX11_same_62 : decode cX11_same 62 = .ok (.baload, 1) := by decide +kernel
theorem dX11_same_63 : decode cX11_same 63 = .ok (.if_icmp .ne 37, 3) := by decide +kernel
theorem dX11_same_66 : decode cX11_same 66 = .ok (.aload_n 0, 1) := by decide +kernel
theorem dX11_same_67 : decode cX11_same 67 = .ok (.getfield 237, 3) := by decide +kernel
theorem dX11_same_70 : decode cX11_same 70 = .ok (.iload_n 1, 1) := by decide +kernel
theorem dX11_same_71 : decode cX11_same 71 = .ok (.iaload, 1) := by decide +kernel
theorem dX11_same_72 : decode cX11_same 72 = .ok (.aload_n 0, 1) := by decide +kernel
theorem dX11_same_73 : decode cX11_same 73 = .ok (.getfield 237, 3) := by decide +kernel
theorem dX11_same_76 : decode cX11_same 76 = .ok (.iload_n 2, 1) := by decide +kernel
theorem dX11_same_77 : decode cX11_same 77 = .ok (.iaload, 1) := by decide +kernel
theorem dX11_same_78 : decode cX11_same 78 = .ok (.if_icmp .ne 22, 3) := by decide +kernel
theorem dX11_same_81 : decode cX11_same 81 = .ok (.aload_n 0, 1) := by decide +kernel
theorem dX11_same_82 : decode cX11_same 82 = .ok (.getfield 240, 3) := by decide +kernel
theorem dX11_same_85 : decode cX11_same 85 = .ok (.iload_n 1, 1) := by decide +kernel
theorem dX11_same_86 : decode cX11_same 86 = .ok (.iaload, 1) := by decide +kernel
theorem dX11_same_87 : decode cX11_same 87 = .ok (.aload_n 0, 1) := by decide +kernel
theorem dX11_same_88 : decode cX11_same 88 = .ok (.getfield 240, 3) := by decide +kernel
theorem dX11_same_91 : decode cX11_same 91 = .ok (.iload_n 2, 1) := by decide +kernel
theorem dX11_same_92 : decode cX11_same 92 = .ok (.iaload, 1) := by decide +kernel
theorem dX11_same_93 : decode cX11_same 93 = .ok (.if_icmp .ne 7, 3) := by decide +kernel
theorem dX11_same_96 : decode cX11_same 96 = .ok (.iconst 1, 1) := by decide +kernel
theorem dX11_same_97 : decode cX11_same 97 = .ok (.goto 4, 3) := by decide +kernel
theorem dX11_same_100 : decode cX11_same 100 = .ok (.iconst 0, 1) := by decide +kernel
theorem dX11_same_101 : decode cX11_same 101 = .ok (.istore_n 3, 1) := by decide +kernel
theorem dX11_same_102 : decode cX11_same 102 = .ok (.iconst 0, 1) := by decide +kernel
theorem dX11_same_103 : decode cX11_same 103 = .ok (.istore 4, 2) := by decide +kernel
theorem dX11_same_105 : decode cX11_same 105 = .ok (.iload 4, 2) := by decide +kernel
theorem dX11_same_107 : decode cX11_same 107 = .ok (.bipush 16, 2) := by decide +kernel
theorem dX11_same_109 : decode cX11_same 109 = .ok (.if_icmp .ge 47, 3) := by decide +kernel
theorem dX11_same_112 : decode cX11_same 112 = .ok (.iload_n 3, 1) := by decide +kernel
theorem dX11_same_113 : decode cX11_same 113 = .ok (.ifCond .eq 35, 3) := by decide +kernel
theorem dX11_same_116 : decode cX11_same 116 = .ok (.aload_n 0, 1) := by decide +kernel
theorem dX11_same_117 : decode cX11_same 117 = .ok (.getfield 243, 3) := by decide +kernel
theorem dX11_same_120 : decode cX11_same 120 = .ok (.bipush 16, 2) := by decide +kernel
theorem dX11_same_122 : decode cX11_same 122 = .ok (.iload_n 1, 1) := by decide +kernel
theorem dX11_same_123 : decode cX11_same 123 = .ok (.imul, 1) := by decide +kernel
theorem dX11_same_124 : decode cX11_same 124 = .ok (.iload 4, 2) := by decide +kernel
theorem dX11_same_126 : decode cX11_same 126 = .ok (.iadd, 1) := by decide +kernel
theorem dX11_same_127 : decode cX11_same 127 = .ok (.laload, 1) := by decide +kernel
theorem dX11_same_128 : decode cX11_same 128 = .ok (.aload_n 0, 1) := by decide +kernel
theorem dX11_same_129 : decode cX11_same 129 = .ok (.getfield 243, 3) := by decide +kernel
theorem dX11_same_132 : decode cX11_same 132 = .ok (.bipush 16, 2) := by decide +kernel
theorem dX11_same_134 : decode cX11_same 134 = .ok (.iload_n 2, 1) := by decide +kernel
theorem dX11_same_135 : decode cX11_same 135 = .ok (.imul, 1) := by decide +kernel
theorem dX11_same_136 : decode cX11_same 136 = .ok (.iload 4, 2) := by decide +kernel
theorem dX11_same_138 : decode cX11_same 138 = .ok (.iadd, 1) := by decide +kernel
theorem dX11_same_139 : decode cX11_same 139 = .ok (.laload, 1) := by decide +kernel
theorem dX11_same_140 : decode cX11_same 140 = .ok (.lcmp, 1) := by decide +kernel
theorem dX11_same_141 : decode cX11_same 141 = .ok (.ifCond .ne 7, 3) := by decide +kernel
theorem dX11_same_144 : decode cX11_same 144 = .ok (.iconst 1, 1) := by decide +kernel
theorem dX11_same_145 : decode cX11_same 145 = .ok (.goto 4, 3) := by decide +kernel
theorem dX11_same_148 : decode cX11_same 148 = .ok (.iconst 0, 1) := by decide +kernel
theorem dX11_same_149 : decode cX11_same 149 = .ok (.istore_n 3, 1) := by decide +kernel
theorem dX11_same_150 : decode cX11_same 150 = .ok (.iinc 4 1, 3) := by decide +kernel
theorem dX11_same_153 : decode cX11_same 153 = .ok (.goto (-48), 3) := by decide +kernel
theorem dX11_same_156 : decode cX11_same 156 = .ok (.iconst 0, 1) := by decide +kernel
theorem dX11_same_157 : decode cX11_same 157 = .ok (.istore 4, 2) := by decide +kernel
theorem dX11_same_159 : decode cX11_same 159 = .ok (.iload 4, 2) := by decide +kernel
theorem dX11_same_161 : decode cX11_same 161 = .ok (.bipush 6, 2) := by decide +kernel
theorem dX11_same_163 : decode cX11_same 163 = .ok (.if_icmp .ge 47, 3) := by decide +kernel
theorem dX11_same_166 : decode cX11_same 166 = .ok (.iload_n 3, 1) := by decide +kernel
theorem dX11_same_167 : decode cX11_same 167 = .ok (.ifCond .eq 35, 3) := by decide +kernel
theorem dX11_same_170 : decode cX11_same 170 = .ok (.aload_n 0, 1) := by decide +kernel
theorem dX11_same_171 : decode cX11_same 171 = .ok (.getfield 246, 3) := by decide +kernel
theorem dX11_same_174 : decode cX11_same 174 = .ok (.bipush 6, 2) := by decide +kernel
theorem dX11_same_176 : decode cX11_same 176 = .ok (.iload_n 1, 1) := by decide +kernel
theorem dX11_same_177 : decode cX11_same 177 = .ok (.imul, 1) := by decide +kernel
theorem dX11_same_178 : decode cX11_same 178 = .ok (.iload 4, 2) := by decide +kernel
theorem dX11_same_180 : decode cX11_same 180 = .ok (.iadd, 1) := by decide +kernel
theorem dX11_same_181 : decode cX11_same 181 = .ok (.laload, 1) := by decide +kernel
theorem dX11_same_182 : decode cX11_same 182 = .ok (.aload_n 0, 1) := by decide +kernel
theorem dX11_same_183 : decode cX11_same 183 = .ok (.getfield 246, 3) := by decide +kernel
theorem dX11_same_186 : decode cX11_same 186 = .ok (.bipush 6, 2) := by decide +kernel
theorem dX11_same_188 : decode cX11_same 188 = .ok (.iload_n 2, 1) := by decide +kernel
theorem dX11_same_189 : decode cX11_same 189 = .ok (.imul, 1) := by decide +kernel
theorem dX11_same_190 : decode cX11_same 190 = .ok (.iload 4, 2) := by decide +kernel
theorem dX11_same_192 : decode cX11_same 192 = .ok (.iadd, 1) := by decide +kernel
theorem dX11_same_193 : decode cX11_same 193 = .ok (.laload, 1) := by decide +kernel
theorem dX11_same_194 : decode cX11_same 194 = .ok (.lcmp, 1) := by decide +kernel
theorem dX11_same_195 : decode cX11_same 195 = .ok (.ifCond .ne 7, 3) := by decide +kernel
theorem dX11_same_198 : decode cX11_same 198 = .ok (.iconst 1, 1) := by decide +kernel
theorem dX11_same_199 : decode cX11_same 199 = .ok (.goto 4, 3) := by decide +kernel
theorem dX11_same_202 : decode cX11_same 202 = .ok (.iconst 0, 1) := by decide +kernel
theorem dX11_same_203 : decode cX11_same 203 = .ok (.istore_n 3, 1) := by decide +kernel
theorem dX11_same_204 : decode cX11_same 204 = .ok (.iinc 4 1, 3) := by decide +kernel
theorem dX11_same_207 : decode cX11_same 207 = .ok (.goto (-48), 3) := by decide +kernel
theorem dX11_same_210 : decode cX11_same 210 = .ok (.iload_n 3, 1) := by decide +kernel
theorem dX11_same_211 : decode cX11_same 211 = .ok (.ifCond .eq 7, 3) := by decide +kernel
theorem dX11_same_214 : decode cX11_same 214 = .ok (.iconst 1, 1) := by decide +kernel
theorem dX11_same_215 : decode cX11_same 215 = .ok (.goto 4, 3) := by decide +kernel
theorem dX11_same_218 : decode cX11_same 218 = .ok (.iconst 0, 1) := by decide +kernel
theorem dX11_same_219 : decode cX11_same 219 = .ok (.ireturn, 1) := by decide +kernel
theorem dX11_moves_0 : decode cX11_moves 0 = .ok (.iconst 1, 1) := by decide +kernel
theorem dX11_moves_1 : decode cX11_moves 1 = .ok (.aload_n 0, 1) := by decide +kernel
theorem dX11_moves_2 : decode cX11_moves 2 = .ok (.getfield 26, 3) := by decide +kernel
theorem dX11_moves_5 : decode cX11_moves 5 = .ok (.iload_n 1, 1) := by decide +kernel
theorem dX11_moves_6 : decode cX11_moves 6 = .ok (.iaload, 1) := by decide +kernel
theorem dX11_moves_7 : decode cX11_moves 7 = .ok (.aload_n 0, 1) := by decide +kernel
theorem dX11_moves_8 : decode cX11_moves 8 = .ok (.getfield 90, 3) := by decide +kernel
theorem dX11_moves_11 : decode cX11_moves 11 = .ok (.iload_n 1, 1) := by decide +kernel
theorem dX11_moves_12 : decode cX11_moves 12 = .ok (.iaload, 1) := by decide +kernel
theorem dX11_moves_13 : decode cX11_moves 13 = .ok (.iadd, 1) := by decide +kernel
theorem dX11_moves_14 : decode cX11_moves 14 = .ok (.ishl, 1) := by decide +kernel
theorem dX11_moves_15 : decode cX11_moves 15 = .ok (.ireturn, 1) := by decide +kernel
theorem dX11_stateOf_0 : decode cX11_stateOf 0 = .ok (.iconst 1, 1) := by decide +kernel
theorem dX11_stateOf_1 : decode cX11_stateOf 1 = .ok (.istore 4, 2) := by decide +kernel
theorem dX11_stateOf_3 : decode cX11_stateOf 3 = .ok (.iload 4, 2) := by decide +kernel
theorem dX11_stateOf_5 : decode cX11_stateOf 5 = .ok (.aload_n 0, 1) := by decide +kernel
theorem dX11_stateOf_6 : decode cX11_stateOf 6 = .ok (.getfield 291, 3) := by decide +kernel
theorem dX11_stateOf_9 : decode cX11_stateOf 9 = .ok (.iload_n 1, 1) := by decide +kernel
theorem dX11_stateOf_10 : decode cX11_stateOf 10 = .ok (.iaload, 1) := by decide +kernel
theorem dX11_stateOf_11 : decode cX11_stateOf 11 = .ok (.if_icmp .ge 44, 3) := by decide +kernel
theorem dX11_stateOf_14 : decode cX11_stateOf 14 = .ok (.aload_n 0, 1) := by decide +kernel
theorem dX11_stateOf_15 : decode cX11_stateOf 15 = .ok (.getfield 294, 3) := by decide +kernel
theorem dX11_stateOf_18 : decode cX11_stateOf 18 = .ok (.bipush 48, 2) := by decide +kernel
theorem dX11_stateOf_20 : decode cX11_stateOf 20 = .ok (.iload_n 1, 1) := by decide +kernel
theorem dX11_stateOf_21 : decode cX11_stateOf 21 = .ok (.imul, 1) := by decide +kernel
theorem dX11_stateOf_22 : decode cX11_stateOf 22 = .ok (.iload 4, 2) := by decide +kernel
theorem dX11_stateOf_24 : decode cX11_stateOf 24 = .ok (.iadd, 1) := by decide +kernel
theorem dX11_stateOf_25 : decode cX11_stateOf 25 = .ok (.iaload, 1) := by decide +kernel
theorem dX11_stateOf_26 : decode cX11_stateOf 26 = .ok (.iload_n 2, 1) := by decide +kernel
theorem dX11_stateOf_27 : decode cX11_stateOf 27 = .ok (.if_icmp .ne 22, 3) := by decide +kernel
theorem dX11_stateOf_30 : decode cX11_stateOf 30 = .ok (.aload_n 0, 1) := by decide +kernel
theorem dX11_stateOf_31 : decode cX11_stateOf 31 = .ok (.getfield 297, 3) := by decide +kernel
theorem dX11_stateOf_34 : decode cX11_stateOf 34 = .ok (.bipush 48, 2) := by decide +kernel
theorem dX11_stateOf_36 : decode cX11_stateOf 36 = .ok (.iload_n 1, 1) := by decide +kernel
theorem dX11_stateOf_37 : decode cX11_stateOf 37 = .ok (.imul, 1) := by decide +kernel
theorem dX11_stateOf_38 : decode cX11_stateOf 38 = .ok (.iload 4, 2) := by decide +kernel
theorem dX11_stateOf_40 : decode cX11_stateOf 40 = .ok (.iadd, 1) := by decide +kernel
theorem dX11_stateOf_41 : decode cX11_stateOf 41 = .ok (.iaload, 1) := by decide +kernel
theorem dX11_stateOf_42 : decode cX11_stateOf 42 = .ok (.iload_n 3, 1) := by decide +kernel
theorem dX11_stateOf_43 : decode cX11_stateOf 43 = .ok (.if_icmp .ne 6, 3) := by decide +kernel
theorem dX11_stateOf_46 : decode cX11_stateOf 46 = .ok (.iload 4, 2) := by decide +kernel
theorem dX11_stateOf_48 : decode cX11_stateOf 48 = .ok (.ireturn, 1) := by decide +kernel
theorem dX11_stateOf_49 : decode cX11_stateOf 49 = .ok (.iinc 4 1, 3) := by decide +kernel
theorem dX11_stateOf_52 : decode cX11_stateOf 52 = .ok (.goto (-49), 3) := by decide +kernel
theorem dX11_stateOf_55 : decode cX11_stateOf 55 = .ok (.iconst (-1), 1) := by decide +kernel
theorem dX11_stateOf_56 : decode cX11_stateOf 56 = .ok (.ireturn, 1) := by decide +kernel
theorem dX11_look_0 : decode cX11_look 0 = .ok (.aload_n 0, 1) := by decide +kernel
theorem dX11_look_1 : decode cX11_look 1 = .ok (.getfield 288, 3) := by decide +kernel
theorem dX11_look_4 : decode cX11_look 4 = .ok (.iload_n 1, 1) := by decide +kernel
theorem dX11_look_5 : decode cX11_look 5 = .ok (.iaload, 1) := by decide +kernel
theorem dX11_look_6 : decode cX11_look 6 = .ok (.ifCond .le 4, 3) := by decide +kernel
theorem dX11_look_9 : decode cX11_look 9 = .ok (.return_, 1) := by decide +kernel
theorem dX11_look_10 : decode cX11_look 10 = .ok (.aload_n 0, 1) := by decide +kernel
theorem dX11_look_11 : decode cX11_look 11 = .ok (.getfield 288, 3) := by decide +kernel
theorem dX11_look_14 : decode cX11_look 14 = .ok (.iload_n 1, 1) := by decide +kernel
theorem dX11_look_15 : decode cX11_look 15 = .ok (.iconst 1, 1) := by decide +kernel
theorem dX11_look_16 : decode cX11_look 16 = .ok (.iastore, 1) := by decide +kernel
theorem dX11_look_17 : decode cX11_look 17 = .ok (.aload_n 0, 1) := by decide +kernel
theorem dX11_look_18 : decode cX11_look 18 = .ok (.getfield 26, 3) := by decide +kernel
theorem dX11_look_21 : decode cX11_look 21 = .ok (.iload_n 1, 1) := by decide +kernel
theorem dX11_look_22 : decode cX11_look 22 = .ok (.iaload, 1) := by decide +kernel
theorem dX11_look_23 : decode cX11_look 23 = .ok (.aload_n 0, 1) := by decide +kernel
theorem dX11_look_24 : decode cX11_look 24 = .ok (.getfield 90, 3) := by decide +kernel
theorem dX11_look_27 : decode cX11_look 27 = .ok (.iload_n 1, 1) := by decide +kernel
theorem dX11_look_28 : decode cX11_look 28 = .ok (.iaload, 1) := by decide +kernel
theorem dX11_look_29 : decode cX11_look 29 = .ok (.iadd, 1) := by decide +kernel
theorem dX11_look_30 : decode cX11_look 30 = .ok (.iconst 5, 1) := by decide +kernel
theorem dX11_look_31 : decode cX11_look 31 = .ok (.if_icmp .le 11, 3) := by decide +kernel
theorem dX11_look_34 : decode cX11_look 34 = .ok (.aload_n 0, 1) := by decide +kernel
theorem dX11_look_35 : decode cX11_look 35 = .ok (.getfield 288, 3) := by decide +kernel
theorem dX11_look_38 : decode cX11_look 38 = .ok (.iload_n 1, 1) := by decide +kernel
theorem dX11_look_39 : decode cX11_look 39 = .ok (.iconst 2, 1) := by decide +kernel
theorem dX11_look_40 : decode cX11_look 40 = .ok (.iastore, 1) := by decide +kernel
theorem dX11_look_41 : decode cX11_look 41 = .ok (.return_, 1) := by decide +kernel
theorem dX11_look_42 : decode cX11_look 42 = .ok (.iconst 0, 1) := by decide +kernel
theorem dX11_look_43 : decode cX11_look 43 = .ok (.istore_n 2, 1) := by decide +kernel
theorem dX11_look_44 : decode cX11_look 44 = .ok (.iconst 0, 1) := by decide +kernel
theorem dX11_look_45 : decode cX11_look 45 = .ok (.istore_n 3, 1) := by decide +kernel
theorem dX11_look_46 : decode cX11_look 46 = .ok (.iload_n 3, 1) := by decide +kernel
theorem dX11_look_47 : decode cX11_look 47 = .ok (.aload_n 0, 1) := by decide +kernel
theorem dX11_look_48 : decode cX11_look 48 = .ok (.getfield 23, 3) := by decide +kernel
theorem dX11_look_51 : decode cX11_look 51 = .ok (.iload_n 1, 1) := by decide +kernel
theorem dX11_look_52 : decode cX11_look 52 = .ok (.iaload, 1) := by decide +kernel
theorem dX11_look_53 : decode cX11_look 53 = .ok (.if_icmp .ge 33, 3) := by decide +kernel
theorem dX11_look_56 : decode cX11_look 56 = .ok (.iload_n 2, 1) := by decide +kernel
theorem dX11_look_57 : decode cX11_look 57 = .ok (.aload_n 0, 1) := by decide +kernel
theorem dX11_look_58 : decode cX11_look 58 = .ok (.getfield 41, 3) := by decide +kernel
theorem dX11_look_61 : decode cX11_look 61 = .ok (.bipush 16, 2) := by decide +kernel
theorem dX11_look_63 : decode cX11_look 63 = .ok (.iload_n 1, 1) := by decide +kernel
theorem dX11_look_64 : decode cX11_look 64 = .ok (.imul, 1) := by decide +kernel
theorem dX11_look_65 : decode cX11_look 65 = .ok (.iload_n 3, 1) := by decide +kernel
theorem dX11_look_66 : decode cX11_look 66 = .ok (.iadd, 1) := by decide +kernel
theorem dX11_look_67 : decode cX11_look 67 = .ok (.baload, 1) := by decide +kernel
theorem dX11_look_68 : decode cX11_look 68 = .ok (.ifCond .eq 9, 3) := by decide +kernel
theorem dX11_look_71 : decode cX11_look 71 = .ok (.iconst 1, 1) := by decide +kernel
theorem dX11_look_72 : decode cX11_look 72 = .ok (.iload_n 3, 1) := by decide +kernel
theorem dX11_look_73 : decode cX11_look 73 = .ok (.ishl, 1) := by decide +kernel
theorem dX11_look_74 : decode cX11_look 74 = .ok (.goto 4, 3) := by decide +kernel
theorem dX11_look_77 : decode cX11_look 77 = .ok (.iconst 0, 1) := by decide +kernel
theorem dX11_look_78 : decode cX11_look 78 = .ok (.ior, 1) := by decide +kernel
theorem dX11_look_79 : decode cX11_look 79 = .ok (.istore_n 2, 1) := by decide +kernel
theorem dX11_look_80 : decode cX11_look 80 = .ok (.iinc 3 1, 3) := by decide +kernel
theorem dX11_look_83 : decode cX11_look 83 = .ok (.goto (-37), 3) := by decide +kernel
theorem dX11_look_86 : decode cX11_look 86 = .ok (.aload_n 0, 1) := by decide +kernel
theorem dX11_look_87 : decode cX11_look 87 = .ok (.iload_n 1, 1) := by decide +kernel
theorem dX11_look_88 : decode cX11_look 88 = .ok (.putfield 742, 3) := by decide +kernel
theorem dX11_look_91 : decode cX11_look 91 = .ok (.aload_n 0, 1) := by decide +kernel
theorem dX11_look_92 : decode cX11_look 92 = .ok (.getfield 291, 3) := by decide +kernel
theorem dX11_look_95 : decode cX11_look 95 = .ok (.iload_n 1, 1) := by decide +kernel
theorem dX11_look_96 : decode cX11_look 96 = .ok (.iconst 1, 1) := by decide +kernel
theorem dX11_look_97 : decode cX11_look 97 = .ok (.iastore, 1) := by decide +kernel
theorem dX11_look_98 : decode cX11_look 98 = .ok (.aload_n 0, 1) := by decide +kernel
theorem dX11_look_99 : decode cX11_look 99 = .ok (.getfield 294, 3) := by decide +kernel
theorem dX11_look_102 : decode cX11_look 102 = .ok (.bipush 48, 2) := by decide +kernel
theorem dX11_look_104 : decode cX11_look 104 = .ok (.iload_n 1, 1) := by decide +kernel
theorem dX11_look_105 : decode cX11_look 105 = .ok (.imul, 1) := by decide +kernel
theorem dX11_look_106 : decode cX11_look 106 = .ok (.iconst 0, 1) := by decide +kernel
theorem dX11_look_107 : decode cX11_look 107 = .ok (.iastore, 1) := by decide +kernel
theorem dX11_look_108 : decode cX11_look 108 = .ok (.aload_n 0, 1) := by decide +kernel
theorem dX11_look_109 : decode cX11_look 109 = .ok (.getfield 297, 3) := by decide +kernel
theorem dX11_look_112 : decode cX11_look 112 = .ok (.bipush 48, 2) := by decide +kernel
theorem dX11_look_114 : decode cX11_look 114 = .ok (.iload_n 1, 1) := by decide +kernel
theorem dX11_look_115 : decode cX11_look 115 = .ok (.imul, 1) := by decide +kernel
theorem dX11_look_116 : decode cX11_look 116 = .ok (.iconst 0, 1) := by decide +kernel
theorem dX11_look_117 : decode cX11_look 117 = .ok (.iastore, 1) := by decide +kernel
theorem dX11_look_118 : decode cX11_look 118 = .ok (.aload_n 0, 1) := by decide +kernel
theorem dX11_look_119 : decode cX11_look 119 = .ok (.getfield 300, 3) := by decide +kernel
theorem dX11_look_122 : decode cX11_look 122 = .ok (.bipush 48, 2) := by decide +kernel
theorem dX11_look_124 : decode cX11_look 124 = .ok (.iload_n 1, 1) := by decide +kernel
theorem dX11_look_125 : decode cX11_look 125 = .ok (.imul, 1) := by decide +kernel
theorem dX11_look_126 : decode cX11_look 126 = .ok (.iconst (-1), 1) := by decide +kernel
theorem dX11_look_127 : decode cX11_look 127 = .ok (.iastore, 1) := by decide +kernel
theorem dX11_look_128 : decode cX11_look 128 = .ok (.iconst 0, 1) := by decide +kernel
theorem dX11_look_129 : decode cX11_look 129 = .ok (.istore_n 3, 1) := by decide +kernel
theorem dX11_look_130 : decode cX11_look 130 = .ok (.iload_n 3, 1) := by decide +kernel
theorem dX11_look_131 : decode cX11_look 131 = .ok (.aload_n 0, 1) := by decide +kernel
theorem dX11_look_132 : decode cX11_look 132 = .ok (.getfield 291, 3) := by decide +kernel
theorem dX11_look_135 : decode cX11_look 135 = .ok (.iload_n 1, 1) := by decide +kernel
theorem dX11_look_136 : decode cX11_look 136 = .ok (.iaload, 1) := by decide +kernel
theorem dX11_look_137 : decode cX11_look 137 = .ok (.if_icmp .ge 57, 3) := by decide +kernel
theorem dX11_look_140 : decode cX11_look 140 = .ok (.aload_n 0, 1) := by decide +kernel
theorem dX11_look_141 : decode cX11_look 141 = .ok (.getfield 288, 3) := by decide +kernel
theorem dX11_look_144 : decode cX11_look 144 = .ok (.iload_n 1, 1) := by decide +kernel
theorem dX11_look_145 : decode cX11_look 145 = .ok (.iaload, 1) := by decide +kernel
theorem dX11_look_146 : decode cX11_look 146 = .ok (.iconst 1, 1) := by decide +kernel
theorem dX11_look_147 : decode cX11_look 147 = .ok (.if_icmp .ne 47, 3) := by decide +kernel
theorem dX11_look_150 : decode cX11_look 150 = .ok (.iconst 0, 1) := by decide +kernel
theorem dX11_look_151 : decode cX11_look 151 = .ok (.istore 4, 2) := by decide +kernel
theorem dX11_look_153 : decode cX11_look 153 = .ok (.iload 4, 2) := by decide +kernel
theorem dX11_look_155 : decode cX11_look 155 = .ok (.aload_n 0, 1) := by decide +kernel
theorem dX11_look_156 : decode cX11_look 156 = .ok (.iload_n 1, 1) := by decide +kernel
theorem dX11_look_157 : decode cX11_look 157 = .ok (.invokevirtual 849, 3) := by decide +kernel
theorem dX11_look_160 : decode cX11_look 160 = .ok (.if_icmp .ge 28, 3) := by decide +kernel
theorem dX11_look_163 : decode cX11_look 163 = .ok (.aload_n 0, 1) := by decide +kernel
theorem dX11_look_164 : decode cX11_look 164 = .ok (.getfield 288, 3) := by decide +kernel
theorem dX11_look_167 : decode cX11_look 167 = .ok (.iload_n 1, 1) := by decide +kernel
theorem dX11_look_168 : decode cX11_look 168 = .ok (.iaload, 1) := by decide +kernel
theorem dX11_look_169 : decode cX11_look 169 = .ok (.iconst 1, 1) := by decide +kernel
theorem dX11_look_170 : decode cX11_look 170 = .ok (.if_icmp .ne 18, 3) := by decide +kernel
theorem dX11_look_173 : decode cX11_look 173 = .ok (.aload_n 0, 1) := by decide +kernel
theorem dX11_look_174 : decode cX11_look 174 = .ok (.iload_n 1, 1) := by decide +kernel
theorem dX11_look_175 : decode cX11_look 175 = .ok (.iload_n 3, 1) := by decide +kernel
theorem dX11_look_176 : decode cX11_look 176 = .ok (.iload 4, 2) := by decide +kernel
theorem dX11_look_178 : decode cX11_look 178 = .ok (.iload_n 2, 1) := by decide +kernel
theorem dX11_look_179 : decode cX11_look 179 = .ok (.invokevirtual 852, 3) := by decide +kernel
theorem dX11_look_182 : decode cX11_look 182 = .ok (.iinc 4 1, 3) := by decide +kernel
theorem dX11_look_185 : decode cX11_look 185 = .ok (.goto (-32), 3) := by decide +kernel
theorem dX11_look_188 : decode cX11_look 188 = .ok (.iinc 3 1, 3) := by decide +kernel
theorem dX11_look_191 : decode cX11_look 191 = .ok (.goto (-61), 3) := by decide +kernel
theorem dX11_look_194 : decode cX11_look 194 = .ok (.aload_n 0, 1) := by decide +kernel
theorem dX11_look_195 : decode cX11_look 195 = .ok (.getfield 288, 3) := by decide +kernel
theorem dX11_look_198 : decode cX11_look 198 = .ok (.iload_n 1, 1) := by decide +kernel
theorem dX11_look_199 : decode cX11_look 199 = .ok (.iaload, 1) := by decide +kernel
theorem dX11_look_200 : decode cX11_look 200 = .ok (.iconst 1, 1) := by decide +kernel
theorem dX11_look_201 : decode cX11_look 201 = .ok (.if_icmp .ne 8, 3) := by decide +kernel
theorem dX11_look_204 : decode cX11_look 204 = .ok (.aload_n 0, 1) := by decide +kernel
theorem dX11_look_205 : decode cX11_look 205 = .ok (.iload_n 1, 1) := by decide +kernel
theorem dX11_look_206 : decode cX11_look 206 = .ok (.invokevirtual 856, 3) := by decide +kernel
theorem dX11_look_209 : decode cX11_look 209 = .ok (.return_, 1) := by decide +kernel
theorem dX11_move1_0 : decode cX11_move1 0 = .ok (.bipush 32, 2) := by decide +kernel
theorem dX11_move1_2 : decode cX11_move1 2 = .ok (.bipush 48, 2) := by decide +kernel
theorem dX11_move1_4 : decode cX11_move1 4 = .ok (.iload_n 1, 1) := by decide +kernel
theorem dX11_move1_5 : decode cX11_move1 5 = .ok (.imul, 1) := by decide +kernel
theorem dX11_move1_6 : decode cX11_move1 6 = .ok (.iload_n 2, 1) := by decide +kernel
theorem dX11_move1_7 : decode cX11_move1 7 = .ok (.iadd, 1) := by decide +kernel
theorem dX11_move1_8 : decode cX11_move1 8 = .ok (.imul, 1) := by decide +kernel
theorem dX11_move1_9 : decode cX11_move1 9 = .ok (.iload_n 3, 1) := by decide +kernel
theorem dX11_move1_10 : decode cX11_move1 10 = .ok (.iadd, 1) := by decide +kernel
theorem dX11_move1_11 : decode cX11_move1 11 = .ok (.istore 5, 2) := by decide +kernel
theorem dX11_move1_13 : decode cX11_move1 13 = .ok (.aload_n 0, 1) := by decide +kernel
theorem dX11_move1_14 : decode cX11_move1 14 = .ok (.aload_n 0, 1) := by decide +kernel
theorem dX11_move1_15 : decode cX11_move1 15 = .ok (.getfield 294, 3) := by decide +kernel
theorem dX11_move1_18 : decode cX11_move1 18 = .ok (.bipush 48, 2) := by decide +kernel
theorem dX11_move1_20 : decode cX11_move1 20 = .ok (.iload_n 1, 1) := by decide +kernel
theorem dX11_move1_21 : decode cX11_move1 21 = .ok (.imul, 1) := by decide +kernel
theorem dX11_move1_22 : decode cX11_move1 22 = .ok (.iload_n 2, 1) := by decide +kernel
theorem dX11_move1_23 : decode cX11_move1 23 = .ok (.iadd, 1) := by decide +kernel
theorem dX11_move1_24 : decode cX11_move1 24 = .ok (.iaload, 1) := by decide +kernel
theorem dX11_move1_25 : decode cX11_move1 25 = .ok (.putfield 764, 3) := by decide +kernel
theorem dX11_move1_28 : decode cX11_move1 28 = .ok (.aload_n 0, 1) := by decide +kernel
theorem dX11_move1_29 : decode cX11_move1 29 = .ok (.aload_n 0, 1) := by decide +kernel
theorem dX11_move1_30 : decode cX11_move1 30 = .ok (.getfield 297, 3) := by decide +kernel
theorem dX11_move1_33 : decode cX11_move1 33 = .ok (.bipush 48, 2) := by decide +kernel
theorem dX11_move1_35 : decode cX11_move1 35 = .ok (.iload_n 1, 1) := by decide +kernel
theorem dX11_move1_36 : decode cX11_move1 36 = .ok (.imul, 1) := by decide +kernel
theorem dX11_move1_37 : decode cX11_move1 37 = .ok (.iload_n 2, 1) := by decide +kernel
theorem dX11_move1_38 : decode cX11_move1 38 = .ok (.iadd, 1) := by decide +kernel
theorem dX11_move1_39 : decode cX11_move1 39 = .ok (.iaload, 1) := by decide +kernel
theorem dX11_move1_40 : decode cX11_move1 40 = .ok (.putfield 730, 3) := by decide +kernel
theorem dX11_move1_43 : decode cX11_move1 43 = .ok (.aload_n 0, 1) := by decide +kernel
theorem dX11_move1_44 : decode cX11_move1 44 = .ok (.iload_n 3, 1) := by decide +kernel
theorem dX11_move1_45 : decode cX11_move1 45 = .ok (.iconst 1, 1) := by decide +kernel
theorem dX11_move1_46 : decode cX11_move1 46 = .ok (.aload_n 0, 1) := by decide +kernel
theorem dX11_move1_47 : decode cX11_move1 47 = .ok (.getfield 26, 3) := by decide +kernel
theorem dX11_move1_50 : decode cX11_move1 50 = .ok (.iload_n 1, 1) := by decide +kernel
theorem dX11_move1_51 : decode cX11_move1 51 = .ok (.iaload, 1) := by decide +kernel
theorem dX11_move1_52 : decode cX11_move1 52 = .ok (.ishl, 1) := by decide +kernel
theorem dX11_move1_53 : decode cX11_move1 53 = .ok (.iconst 1, 1) := by decide +kernel
theorem dX11_move1_54 : decode cX11_move1 54 = .ok (.isub, 1) := by decide +kernel
theorem dX11_move1_55 : decode cX11_move1 55 = .ok (.iand, 1) := by decide +kernel
theorem dX11_move1_56 : decode cX11_move1 56 = .ok (.putfield 777, 3) := by decide +kernel
theorem dX11_move1_59 : decode cX11_move1 59 = .ok (.aload_n 0, 1) := by decide +kernel
theorem dX11_move1_60 : decode cX11_move1 60 = .ok (.iload_n 3, 1) := by decide +kernel
theorem dX11_move1_61 : decode cX11_move1 61 = .ok (.aload_n 0, 1) := by decide +kernel
theorem dX11_move1_62 : decode cX11_move1 62 = .ok (.getfield 26, 3) := by decide +kernel
theorem dX11_move1_65 : decode cX11_move1 65 = .ok (.iload_n 1, 1) := by decide +kernel
theorem dX11_move1_66 : decode cX11_move1 66 = .ok (.iaload, 1) := by decide +kernel
theorem dX11_move1_67 : decode cX11_move1 67 = .ok (.ishr, 1) := by decide +kernel
theorem dX11_move1_68 : decode cX11_move1 68 = .ok (.putfield 749, 3) := by decide +kernel
theorem dX11_move1_71 : decode cX11_move1 71 = .ok (.aload_n 0, 1) := by decide +kernel
theorem dX11_move1_72 : decode cX11_move1 72 = .ok (.iload_n 2, 1) := by decide +kernel
theorem dX11_move1_73 : decode cX11_move1 73 = .ok (.ifCond .ne 7, 3) := by decide +kernel
theorem dX11_move1_76 : decode cX11_move1 76 = .ok (.iconst 1, 1) := by decide +kernel
theorem dX11_move1_77 : decode cX11_move1 77 = .ok (.goto 4, 3) := by decide +kernel
theorem dX11_move1_80 : decode cX11_move1 80 = .ok (.iconst 0, 1) := by decide +kernel
theorem dX11_move1_81 : decode cX11_move1 81 = .ok (.putfield 752, 3) := by decide +kernel
theorem dX11_move1_84 : decode cX11_move1 84 = .ok (.aload_n 0, 1) := by decide +kernel
theorem dX11_move1_85 : decode cX11_move1 85 = .ok (.invokevirtual 826, 3) := by decide +kernel
theorem dX11_move1_88 : decode cX11_move1 88 = .ok (.ifCond .ne 21, 3) := by decide +kernel
theorem dX11_move1_91 : decode cX11_move1 91 = .ok (.aload_n 0, 1) := by decide +kernel
theorem dX11_move1_92 : decode cX11_move1 92 = .ok (.getfield 309, 3) := by decide +kernel
theorem dX11_move1_95 : decode cX11_move1 95 = .ok (.iload 5, 2) := by decide +kernel
theorem dX11_move1_97 : decode cX11_move1 97 = .ok (.bipush (-2), 2) := by decide +kernel
theorem dX11_move1_99 : decode cX11_move1 99 = .ok (.iastore, 1) := by decide +kernel
theorem dX11_move1_100 : decode cX11_move1 100 = .ok (.aload_n 0, 1) := by decide +kernel
theorem dX11_move1_101 : decode cX11_move1 101 = .ok (.getfield 312, 3) := by decide +kernel
theorem dX11_move1_104 : decode cX11_move1 104 = .ok (.iload 5, 2) := by decide +kernel
theorem dX11_move1_106 : decode cX11_move1 106 = .ok (.iconst 0, 1) := by decide +kernel
theorem dX11_move1_107 : decode cX11_move1 107 = .ok (.iastore, 1) := by decide +kernel
theorem dX11_move1_108 : decode cX11_move1 108 = .ok (.return_, 1) := by decide +kernel
theorem dX11_move1_109 : decode cX11_move1 109 = .ok (.aload_n 0, 1) := by decide +kernel
theorem dX11_move1_110 : decode cX11_move1 110 = .ok (.getfield 312, 3) := by decide +kernel
theorem dX11_move1_113 : decode cX11_move1 113 = .ok (.iload 5, 2) := by decide +kernel
theorem dX11_move1_115 : decode cX11_move1 115 = .ok (.aload_n 0, 1) := by decide +kernel
theorem dX11_move1_116 : decode cX11_move1 116 = .ok (.invokevirtual 835, 3) := by decide +kernel
theorem dX11_move1_119 : decode cX11_move1 119 = .ok (.iastore, 1) := by decide +kernel
theorem dX11_move1_120 : decode cX11_move1 120 = .ok (.aload_n 0, 1) := by decide +kernel
theorem dX11_move1_121 : decode cX11_move1 121 = .ok (.aload_n 0, 1) := by decide +kernel
theorem dX11_move1_122 : decode cX11_move1 122 = .ok (.getfield 195, 3) := by decide +kernel
theorem dX11_move1_125 : decode cX11_move1 125 = .ok (.aload_n 0, 1) := by decide +kernel
theorem dX11_move1_126 : decode cX11_move1 126 = .ok (.getfield 742, 3) := by decide +kernel
theorem dX11_move1_129 : decode cX11_move1 129 = .ok (.iaload, 1) := by decide +kernel
theorem dX11_move1_130 : decode cX11_move1 130 = .ok (.iconst 0, 1) := by decide +kernel
theorem dX11_move1_131 : decode cX11_move1 131 = .ok (.invokevirtual 761, 3) := by decide +kernel
theorem dX11_move1_134 : decode cX11_move1 134 = .ok (.iconst 1, 1) := by decide +kernel
theorem dX11_move1_135 : decode cX11_move1 135 = .ok (.if_icmp .ne 12, 3) := by decide +kernel
theorem dX11_move1_138 : decode cX11_move1 138 = .ok (.aload_n 0, 1) := by decide +kernel
theorem dX11_move1_139 : decode cX11_move1 139 = .ok (.getfield 309, 3) := by decide +kernel
theorem dX11_move1_142 : decode cX11_move1 142 = .ok (.iload 5, 2) := by decide +kernel
theorem dX11_move1_144 : decode cX11_move1 144 = .ok (.iconst (-1), 1) := by decide +kernel
theorem dX11_move1_145 : decode cX11_move1 145 = .ok (.iastore, 1) := by decide +kernel
theorem dX11_move1_146 : decode cX11_move1 146 = .ok (.return_, 1) := by decide +kernel
theorem dX11_move1_147 : decode cX11_move1 147 = .ok (.aload_n 0, 1) := by decide +kernel
theorem dX11_move1_148 : decode cX11_move1 148 = .ok (.invokevirtual 838, 3) := by decide +kernel
theorem dX11_move1_151 : decode cX11_move1 151 = .ok (.istore 6, 2) := by decide +kernel
theorem dX11_move1_153 : decode cX11_move1 153 = .ok (.aload_n 0, 1) := by decide +kernel
theorem dX11_move1_154 : decode cX11_move1 154 = .ok (.iload_n 1, 1) := by decide +kernel
theorem dX11_move1_155 : decode cX11_move1 155 = .ok (.iload 6, 2) := by decide +kernel
theorem dX11_move1_157 : decode cX11_move1 157 = .ok (.aload_n 0, 1) := by decide +kernel
theorem dX11_move1_158 : decode cX11_move1 158 = .ok (.getfield 312, 3) := by decide +kernel
theorem dX11_move1_161 : decode cX11_move1 161 = .ok (.iload 5, 2) := by decide +kernel
theorem dX11_move1_163 : decode cX11_move1 163 = .ok (.iaload, 1) := by decide +kernel
theorem dX11_move1_164 : decode cX11_move1 164 = .ok (.iload 4, 2) := by decide +kernel
theorem dX11_move1_166 : decode cX11_move1 166 = .ok (.iand, 1) := by decide +kernel
theorem dX11_move1_167 : decode cX11_move1 167 = .ok (.invokevirtual 859, 3) := by decide +kernel
theorem dX11_move1_170 : decode cX11_move1 170 = .ok (.istore 7, 2) := by decide +kernel
theorem dX11_move1_172 : decode cX11_move1 172 = .ok (.iload 7, 2) := by decide +kernel
theorem dX11_move1_174 : decode cX11_move1 174 = .ok (.iconst (-1), 1) := by decide +kernel
theorem dX11_move1_175 : decode cX11_move1 175 = .ok (.if_icmp .ne 102, 3) := by decide +kernel
theorem dX11_move1_178 : decode cX11_move1 178 = .ok (.aload_n 0, 1) := by decide +kernel
theorem dX11_move1_179 : decode cX11_move1 179 = .ok (.getfield 291, 3) := by decide +kernel
theorem dX11_move1_182 : decode cX11_move1 182 = .ok (.iload_n 1, 1) := by decide +kernel
theorem dX11_move1_183 : decode cX11_move1 183 = .ok (.iaload, 1) := by decide +kernel
theorem dX11_move1_184 : decode cX11_move1 184 = .ok (.bipush 48, 2) := by decide +kernel
theorem dX11_move1_186 : decode cX11_move1 186 = .ok (.if_icmp .ne 11, 3) := by decide +kernel
theorem dX11_move1_189 : decode cX11_move1 189 = .ok (.aload_n 0, 1) := by decide +kernel
theorem dX11_move1_190 : decode cX11_move1 190 = .ok (.getfield 288, 3) := by decide +kernel
theorem dX11_move1_193 : decode cX11_move1 193 = .ok (.iload_n 1, 1) := by decide +kernel
theorem dX11_move1_194 : decode cX11_move1 194 = .ok (.iconst 2, 1) := by decide +kernel
theorem dX11_move1_195 : decode cX11_move1 195 = .ok (.iastore, 1) := by decide +kernel
theorem dX11_move1_196 : decode cX11_move1 196 = .ok (.return_, 1) := by decide +kernel
theorem dX11_move1_197 : decode cX11_move1 197 = .ok (.aload_n 0, 1) := by decide +kernel
theorem dX11_move1_198 : decode cX11_move1 198 = .ok (.getfield 291, 3) := by decide +kernel
theorem dX11_move1_201 : decode cX11_move1 201 = .ok (.iload_n 1, 1) := by decide +kernel
theorem dX11_move1_202 : decode cX11_move1 202 = .ok (.iaload, 1) := by decide +kernel
theorem dX11_move1_203 : decode cX11_move1 203 = .ok (.istore 7, 2) := by decide +kernel
theorem dX11_move1_205 : decode cX11_move1 205 = .ok (.aload_n 0, 1) := by decide +kernel
theorem dX11_move1_206 : decode cX11_move1 206 = .ok (.getfield 291, 3) := by decide +kernel
theorem dX11_move1_209 : decode cX11_move1 209 = .ok (.iload_n 1, 1) := by decide +kernel
theorem dX11_move1_210 : decode cX11_move1 210 = .ok (.dup2, 1) := by decide +kernel
theorem dX11_move1_211 : decode cX11_move1 211 = .ok (.iaload, 1) := by decide +kernel
theorem dX11_move1_212 : decode cX11_move1 212 = .ok (.iconst 1, 1) := by decide +kernel
theorem dX11_move1_213 : decode cX11_move1 213 = .ok (.iadd, 1) := by decide +kernel
theorem dX11_move1_214 : decode cX11_move1 214 = .ok (.iastore, 1) := by decide +kernel
theorem dX11_move1_215 : decode cX11_move1 215 = .ok (.aload_n 0, 1) := by decide +kernel
theorem dX11_move1_216 : decode cX11_move1 216 = .ok (.getfield 294, 3) := by decide +kernel
theorem dX11_move1_219 : decode cX11_move1 219 = .ok (.bipush 48, 2) := by decide +kernel
theorem dX11_move1_221 : decode cX11_move1 221 = .ok (.iload_n 1, 1) := by decide +kernel
theorem dX11_move1_222 : decode cX11_move1 222 = .ok (.imul, 1) := by decide +kernel
theorem dX11_move1_223 : decode cX11_move1 223 = .ok (.iload 7, 2) := by decide +kernel
theorem dX11_move1_225 : decode cX11_move1 225 = .ok (.iadd, 1) := by decide +kernel
theorem dX11_move1_226 : decode cX11_move1 226 = .ok (.iload 6, 2) := by decide +kernel
theorem dX11_move1_228 : decode cX11_move1 228 = .ok (.iastore, 1) := by decide +kernel
theorem dX11_move1_229 : decode cX11_move1 229 = .ok (.aload_n 0, 1) := by decide +kernel
theorem dX11_move1_230 : decode cX11_move1 230 = .ok (.getfield 297, 3) := by decide +kernel
theorem dX11_move1_233 : decode cX11_move1 233 = .ok (.bipush 48, 2) := by decide +kernel
theorem dX11_move1_235 : decode cX11_move1 235 = .ok (.iload_n 1, 1) := by decide +kernel
theorem dX11_move1_236 : decode cX11_move1 236 = .ok (.imul, 1) := by decide +kernel
theorem dX11_move1_237 : decode cX11_move1 237 = .ok (.iload 7, 2) := by decide +kernel
theorem dX11_move1_239 : decode cX11_move1 239 = .ok (.iadd, 1) := by decide +kernel
theorem dX11_move1_240 : decode cX11_move1 240 = .ok (.aload_n 0, 1) := by decide +kernel
theorem dX11_move1_241 : decode cX11_move1 241 = .ok (.getfield 312, 3) := by decide +kernel
theorem dX11_move1_244 : decode cX11_move1 244 = .ok (.iload 5, 2) := by decide +kernel
theorem dX11_move1_246 : decode cX11_move1 246 = .ok (.iaload, 1) := by decide +kernel
theorem dX11_move1_247 : decode cX11_move1 247 = .ok (.iload 4, 2) := by decide +kernel
theorem dX11_move1_249 : decode cX11_move1 249 = .ok (.iand, 1) := by decide +kernel
theorem dX11_move1_250 : decode cX11_move1 250 = .ok (.iastore, 1) := by decide +kernel
theorem dX11_move1_251 : decode cX11_move1 251 = .ok (.aload_n 0, 1) := by decide +kernel
theorem dX11_move1_252 : decode cX11_move1 252 = .ok (.getfield 300, 3) := by decide +kernel
theorem dX11_move1_255 : decode cX11_move1 255 = .ok (.bipush 48, 2) := by decide +kernel
theorem dX11_move1_257 : decode cX11_move1 257 = .ok (.iload_n 1, 1) := by decide +kernel
theorem dX11_move1_258 : decode cX11_move1 258 = .ok (.imul, 1) := by decide +kernel
theorem dX11_move1_259 : decode cX11_move1 259 = .ok (.iload 7, 2) := by decide +kernel
theorem dX11_move1_261 : decode cX11_move1 261 = .ok (.iadd, 1) := by decide +kernel
theorem dX11_move1_262 : decode cX11_move1 262 = .ok (.iload_n 2, 1) := by decide +kernel
theorem dX11_move1_263 : decode cX11_move1 263 = .ok (.iastore, 1) := by decide +kernel
theorem dX11_move1_264 : decode cX11_move1 264 = .ok (.aload_n 0, 1) := by decide +kernel
theorem dX11_move1_265 : decode cX11_move1 265 = .ok (.getfield 303, 3) := by decide +kernel
theorem dX11_move1_268 : decode cX11_move1 268 = .ok (.bipush 48, 2) := by decide +kernel
theorem dX11_move1_270 : decode cX11_move1 270 = .ok (.iload_n 1, 1) := by decide +kernel
theorem dX11_move1_271 : decode cX11_move1 271 = .ok (.imul, 1) := by decide +kernel
theorem dX11_move1_272 : decode cX11_move1 272 = .ok (.iload 7, 2) := by decide +kernel
theorem dX11_move1_274 : decode cX11_move1 274 = .ok (.iadd, 1) := by decide +kernel
theorem dX11_move1_275 : decode cX11_move1 275 = .ok (.iload_n 3, 1) := by decide +kernel
theorem dX11_move1_276 : decode cX11_move1 276 = .ok (.iastore, 1) := by decide +kernel
theorem dX11_move1_277 : decode cX11_move1 277 = .ok (.aload_n 0, 1) := by decide +kernel
theorem dX11_move1_278 : decode cX11_move1 278 = .ok (.getfield 309, 3) := by decide +kernel
theorem dX11_move1_281 : decode cX11_move1 281 = .ok (.iload 5, 2) := by decide +kernel
theorem dX11_move1_283 : decode cX11_move1 283 = .ok (.iload 7, 2) := by decide +kernel
theorem dX11_move1_285 : decode cX11_move1 285 = .ok (.iastore, 1) := by decide +kernel
theorem dX11_move1_286 : decode cX11_move1 286 = .ok (.return_, 1) := by decide +kernel
theorem dX11_areAlike_0 : decode cX11_areAlike 0 = .ok (.aload_n 0, 1) := by decide +kernel
theorem dX11_areAlike_1 : decode cX11_areAlike 1 = .ok (.getfield 306, 3) := by decide +kernel
theorem dX11_areAlike_4 : decode cX11_areAlike 4 = .ok (.bipush 48, 2) := by decide +kernel
theorem dX11_areAlike_6 : decode cX11_areAlike 6 = .ok (.iload_n 1, 1) := by decide +kernel
theorem dX11_areAlike_7 : decode cX11_areAlike 7 = .ok (.imul, 1) := by decide +kernel
theorem dX11_areAlike_8 : decode cX11_areAlike 8 = .ok (.iload_n 2, 1) := by decide +kernel
theorem dX11_areAlike_9 : decode cX11_areAlike 9 = .ok (.iadd, 1) := by decide +kernel
theorem dX11_areAlike_10 : decode cX11_areAlike 10 = .ok (.iaload, 1) := by decide +kernel
theorem dX11_areAlike_11 : decode cX11_areAlike 11 = .ok (.aload_n 0, 1) := by decide +kernel
theorem dX11_areAlike_12 : decode cX11_areAlike 12 = .ok (.getfield 306, 3) := by decide +kernel
theorem dX11_areAlike_15 : decode cX11_areAlike 15 = .ok (.bipush 48, 2) := by decide +kernel
theorem dX11_areAlike_17 : decode cX11_areAlike 17 = .ok (.iload_n 1, 1) := by decide +kernel
theorem dX11_areAlike_18 : decode cX11_areAlike 18 = .ok (.imul, 1) := by decide +kernel
theorem dX11_areAlike_19 : decode cX11_areAlike 19 = .ok (.iload_n 3, 1) := by decide +kernel
theorem dX11_areAlike_20 : decode cX11_areAlike 20 = .ok (.iadd, 1) := by decide +kernel
theorem dX11_areAlike_21 : decode cX11_areAlike 21 = .ok (.iaload, 1) := by decide +kernel
theorem dX11_areAlike_22 : decode cX11_areAlike 22 = .ok (.if_icmp .ne 7, 3) := by decide +kernel
theorem dX11_areAlike_25 : decode cX11_areAlike 25 = .ok (.iconst 1, 1) := by decide +kernel
theorem dX11_areAlike_26 : decode cX11_areAlike 26 = .ok (.goto 4, 3) := by decide +kernel
theorem dX11_areAlike_29 : decode cX11_areAlike 29 = .ok (.iconst 0, 1) := by decide +kernel
theorem dX11_areAlike_30 : decode cX11_areAlike 30 = .ok (.istore 5, 2) := by decide +kernel
theorem dX11_areAlike_32 : decode cX11_areAlike 32 = .ok (.iconst 0, 1) := by decide +kernel
theorem dX11_areAlike_33 : decode cX11_areAlike 33 = .ok (.istore 6, 2) := by decide +kernel
theorem dX11_areAlike_35 : decode cX11_areAlike 35 = .ok (.iload 6, 2) := by decide +kernel
theorem dX11_areAlike_37 : decode cX11_areAlike 37 = .ok (.aload_n 0, 1) := by decide +kernel
theorem dX11_areAlike_38 : decode cX11_areAlike 38 = .ok (.iload_n 1, 1) := by decide +kernel
theorem dX11_areAlike_39 : decode cX11_areAlike 39 = .ok (.invokevirtual 849, 3) := by decide +kernel
theorem dX11_areAlike_42 : decode cX11_areAlike 42 = .ok (.if_icmp .ge 168, 3) := by decide +kernel
theorem dX11_areAlike_45 : decode cX11_areAlike 45 = .ok (.iload 5, 2) := by decide +kernel
theorem dX11_areAlike_47 : decode cX11_areAlike 47 = .ok (.ifCond .eq 163, 3) := by decide +kernel
theorem dX11_areAlike_50 : decode cX11_areAlike 50 = .ok (.bipush 32, 2) := by decide +kernel
theorem dX11_areAlike_52 : decode cX11_areAlike 52 = .ok (.bipush 48, 2) := by decide +kernel
theorem dX11_areAlike_54 : decode cX11_areAlike 54 = .ok (.iload_n 1, 1) := by decide +kernel
theorem dX11_areAlike_55 : decode cX11_areAlike 55 = .ok (.imul, 1) := by decide +kernel
theorem dX11_areAlike_56 : decode cX11_areAlike 56 = .ok (.iload_n 2, 1) := by decide +kernel
theorem dX11_areAlike_57 : decode cX11_areAlike 57 = .ok (.iadd, 1) := by decide +kernel
theorem dX11_areAlike_58 : decode cX11_areAlike 58 = .ok (.imul, 1) := by decide +kernel
theorem dX11_areAlike_59 : decode cX11_areAlike 59 = .ok (.iload 6, 2) := by decide +kernel
theorem dX11_areAlike_61 : decode cX11_areAlike 61 = .ok (.iadd, 1) := by decide +kernel
theorem dX11_areAlike_62 : decode cX11_areAlike 62 = .ok (.istore 7, 2) := by decide +kernel
theorem dX11_areAlike_64 : decode cX11_areAlike 64 = .ok (.bipush 32, 2) := by decide +kernel
theorem dX11_areAlike_66 : decode cX11_areAlike 66 = .ok (.bipush 48, 2) := by decide +kernel
theorem dX11_areAlike_68 : decode cX11_areAlike 68 = .ok (.iload_n 1, 1) := by decide +kernel
theorem dX11_areAlike_69 : decode cX11_areAlike 69 = .ok (.imul, 1) := by decide +kernel
theorem dX11_areAlike_70 : decode cX11_areAlike 70 = .ok (.iload_n 3, 1) := by decide +kernel
theorem dX11_areAlike_71 : decode cX11_areAlike 71 = .ok (.iadd, 1) := by decide +kernel
theorem dX11_areAlike_72 : decode cX11_areAlike 72 = .ok (.imul, 1) := by decide +kernel
theorem dX11_areAlike_73 : decode cX11_areAlike 73 = .ok (.iload 6, 2) := by decide +kernel
theorem dX11_areAlike_75 : decode cX11_areAlike 75 = .ok (.iadd, 1) := by decide +kernel
theorem dX11_areAlike_76 : decode cX11_areAlike 76 = .ok (.istore 8, 2) := by decide +kernel
theorem dX11_areAlike_78 : decode cX11_areAlike 78 = .ok (.aload_n 0, 1) := by decide +kernel
theorem dX11_areAlike_79 : decode cX11_areAlike 79 = .ok (.getfield 309, 3) := by decide +kernel
theorem dX11_areAlike_82 : decode cX11_areAlike 82 = .ok (.iload 7, 2) := by decide +kernel
theorem dX11_areAlike_84 : decode cX11_areAlike 84 = .ok (.iaload, 1) := by decide +kernel
theorem dX11_areAlike_85 : decode cX11_areAlike 85 = .ok (.ifCond .lt 54, 3) := by decide +kernel
theorem dX11_areAlike_88 : decode cX11_areAlike 88 = .ok (.aload_n 0, 1) := by decide +kernel
theorem dX11_areAlike_89 : decode cX11_areAlike 89 = .ok (.getfield 309, 3) := by decide +kernel
theorem dX11_areAlike_92 : decode cX11_areAlike 92 = .ok (.iload 8, 2) := by decide +kernel
theorem dX11_areAlike_94 : decode cX11_areAlike 94 = .ok (.iaload, 1) := by decide +kernel
theorem dX11_areAlike_95 : decode cX11_areAlike 95 = .ok (.ifCond .lt 44, 3) := by decide +kernel
theorem dX11_areAlike_98 : decode cX11_areAlike 98 = .ok (.aload_n 0, 1) := by decide +kernel
theorem dX11_areAlike_99 : decode cX11_areAlike 99 = .ok (.getfield 306, 3) := by decide +kernel
theorem dX11_areAlike_102 : decode cX11_areAlike 102 = .ok (.bipush 48, 2) := by decide +kernel
theorem dX11_areAlike_104 : decode cX11_areAlike 104 = .ok (.iload_n 1, 1) := by decide +kernel
theorem dX11_areAlike_105 : decode cX11_areAlike 105 = .ok (.imul, 1) := by decide +kernel
theorem dX11_areAlike_106 : decode cX11_areAlike 106 = .ok (.aload_n 0, 1) := by decide +kernel
theorem dX11_areAlike_107 : decode cX11_areAlike 107 = .ok (.getfield 309, 3) := by decide +kernel
theorem dX11_areAlike_110 : decode cX11_areAlike 110 = .ok (.iload 7, 2) := by decide +kernel
theorem dX11_areAlike_112 : decode cX11_areAlike 112 = .ok (.iaload, 1) := by decide +kernel
theorem dX11_areAlike_113 : decode cX11_areAlike 113 = .ok (.iadd, 1) := by decide +kernel
theorem dX11_areAlike_114 : decode cX11_areAlike 114 = .ok (.iaload, 1) := by decide +kernel
theorem dX11_areAlike_115 : decode cX11_areAlike 115 = .ok (.aload_n 0, 1) := by decide +kernel
theorem dX11_areAlike_116 : decode cX11_areAlike 116 = .ok (.getfield 306, 3) := by decide +kernel
theorem dX11_areAlike_119 : decode cX11_areAlike 119 = .ok (.bipush 48, 2) := by decide +kernel
theorem dX11_areAlike_121 : decode cX11_areAlike 121 = .ok (.iload_n 1, 1) := by decide +kernel
theorem dX11_areAlike_122 : decode cX11_areAlike 122 = .ok (.imul, 1) := by decide +kernel
theorem dX11_areAlike_123 : decode cX11_areAlike 123 = .ok (.aload_n 0, 1) := by decide +kernel
theorem dX11_areAlike_124 : decode cX11_areAlike 124 = .ok (.getfield 309, 3) := by decide +kernel
theorem dX11_areAlike_127 : decode cX11_areAlike 127 = .ok (.iload 8, 2) := by decide +kernel
theorem dX11_areAlike_129 : decode cX11_areAlike 129 = .ok (.iaload, 1) := by decide +kernel
theorem dX11_areAlike_130 : decode cX11_areAlike 130 = .ok (.iadd, 1) := by decide +kernel
theorem dX11_areAlike_131 : decode cX11_areAlike 131 = .ok (.iaload, 1) := by decide +kernel
theorem dX11_areAlike_132 : decode cX11_areAlike 132 = .ok (.if_icmp .ne 7, 3) := by decide +kernel
theorem dX11_areAlike_135 : decode cX11_areAlike 135 = .ok (.iconst 1, 1) := by decide +kernel
theorem dX11_areAlike_136 : decode cX11_areAlike 136 = .ok (.goto 4, 3) := by decide +kernel
theorem dX11_areAlike_139 : decode cX11_areAlike 139 = .ok (.iconst 0, 1) := by decide +kernel
theorem dX11_areAlike_140 : decode cX11_areAlike 140 = .ok (.istore 9, 2) := by decide +kernel
theorem dX11_areAlike_142 : decode cX11_areAlike 142 = .ok (.iload 9, 2) := by decide +kernel
theorem dX11_areAlike_144 : decode cX11_areAlike 144 = .ok (.ifCond .ne 30, 3) := by decide +kernel
theorem dX11_areAlike_147 : decode cX11_areAlike 147 = .ok (.aload_n 0, 1) := by decide +kernel
theorem dX11_areAlike_148 : decode cX11_areAlike 148 = .ok (.getfield 309, 3) := by decide +kernel
theorem dX11_areAlike_151 : decode cX11_areAlike 151 = .ok (.iload 7, 2) := by decide +kernel
theorem dX11_areAlike_153 : decode cX11_areAlike 153 = .ok (.iaload, 1) := by decide +kernel
theorem dX11_areAlike_154 : decode cX11_areAlike 154 = .ok (.ifCond .ge 47, 3) := by decide +kernel
theorem dX11_areAlike_157 : decode cX11_areAlike 157 = .ok (.aload_n 0, 1) := by decide +kernel
theorem dX11_areAlike_158 : decode cX11_areAlike 158 = .ok (.getfield 309, 3) := by decide +kernel
theorem dX11_areAlike_161 : decode cX11_areAlike 161 = .ok (.iload 7, 2) := by decide +kernel
theorem dX11_areAlike_163 : decode cX11_areAlike 163 = .ok (.iaload, 1) := by decide +kernel
theorem dX11_areAlike_164 : decode cX11_areAlike 164 = .ok (.aload_n 0, 1) := by decide +kernel
theorem dX11_areAlike_165 : decode cX11_areAlike 165 = .ok (.getfield 309, 3) := by decide +kernel
theorem dX11_areAlike_168 : decode cX11_areAlike 168 = .ok (.iload 8, 2) := by decide +kernel
theorem dX11_areAlike_170 : decode cX11_areAlike 170 = .ok (.iaload, 1) := by decide +kernel
theorem dX11_areAlike_171 : decode cX11_areAlike 171 = .ok (.if_icmp .ne 30, 3) := by decide +kernel
theorem dX11_areAlike_174 : decode cX11_areAlike 174 = .ok (.aload_n 0, 1) := by decide +kernel
theorem dX11_areAlike_175 : decode cX11_areAlike 175 = .ok (.getfield 312, 3) := by decide +kernel
theorem dX11_areAlike_178 : decode cX11_areAlike 178 = .ok (.iload 7, 2) := by decide +kernel
theorem dX11_areAlike_180 : decode cX11_areAlike 180 = .ok (.iaload, 1) := by decide +kernel
theorem dX11_areAlike_181 : decode cX11_areAlike 181 = .ok (.iload 4, 2) := by decide +kernel
theorem dX11_areAlike_183 : decode cX11_areAlike 183 = .ok (.iand, 1) := by decide +kernel
theorem dX11_areAlike_184 : decode cX11_areAlike 184 = .ok (.aload_n 0, 1) := by decide +kernel
theorem dX11_areAlike_185 : decode cX11_areAlike 185 = .ok (.getfield 312, 3) := by decide +kernel
theorem dX11_areAlike_188 : decode cX11_areAlike 188 = .ok (.iload 8, 2) := by decide +kernel
theorem dX11_areAlike_190 : decode cX11_areAlike 190 = .ok (.iaload, 1) := by decide +kernel
theorem dX11_areAlike_191 : decode cX11_areAlike 191 = .ok (.iload 4, 2) := by decide +kernel
theorem dX11_areAlike_193 : decode cX11_areAlike 193 = .ok (.iand, 1) := by decide +kernel
theorem dX11_areAlike_194 : decode cX11_areAlike 194 = .ok (.if_icmp .ne 7, 3) := by decide +kernel
theorem dX11_areAlike_197 : decode cX11_areAlike 197 = .ok (.iconst 1, 1) := by decide +kernel
theorem dX11_areAlike_198 : decode cX11_areAlike 198 = .ok (.goto 4, 3) := by decide +kernel
theorem dX11_areAlike_201 : decode cX11_areAlike 201 = .ok (.iconst 0, 1) := by decide +kernel
theorem dX11_areAlike_202 : decode cX11_areAlike 202 = .ok (.istore 5, 2) := by decide +kernel
theorem dX11_areAlike_204 : decode cX11_areAlike 204 = .ok (.iinc 6 1, 3) := by decide +kernel
theorem dX11_areAlike_207 : decode cX11_areAlike 207 = .ok (.goto (-172), 3) := by decide +kernel
theorem dX11_areAlike_210 : decode cX11_areAlike 210 = .ok (.iload 5, 2) := by decide +kernel
theorem dX11_areAlike_212 : decode cX11_areAlike 212 = .ok (.ireturn, 1) := by decide +kernel
theorem dX11_part1_0 : decode cX11_part1 0 = .ok (.iconst 0, 1) := by decide +kernel
theorem dX11_part1_1 : decode cX11_part1 1 = .ok (.istore_n 2, 1) := by decide +kernel
theorem dX11_part1_2 : decode cX11_part1 2 = .ok (.iconst 0, 1) := by decide +kernel
theorem dX11_part1_3 : decode cX11_part1 3 = .ok (.istore_n 3, 1) := by decide +kernel
theorem dX11_part1_4 : decode cX11_part1 4 = .ok (.iload_n 3, 1) := by decide +kernel
theorem dX11_part1_5 : decode cX11_part1 5 = .ok (.aload_n 0, 1) := by decide +kernel
theorem dX11_part1_6 : decode cX11_part1 6 = .ok (.getfield 23, 3) := by decide +kernel
theorem dX11_part1_9 : decode cX11_part1 9 = .ok (.iload_n 1, 1) := by decide +kernel
theorem dX11_part1_10 : decode cX11_part1 10 = .ok (.iaload, 1) := by decide +kernel
theorem dX11_part1_11 : decode cX11_part1 11 = .ok (.if_icmp .ge 34, 3) := by decide +kernel
theorem dX11_part1_14 : decode cX11_part1 14 = .ok (.iload_n 2, 1) := by decide +kernel
theorem dX11_part1_15 : decode cX11_part1 15 = .ok (.aload_n 0, 1) := by decide +kernel
theorem dX11_part1_16 : decode cX11_part1 16 = .ok (.getfield 35, 3) := by decide +kernel
theorem dX11_part1_19 : decode cX11_part1 19 = .ok (.bipush 16, 2) := by decide +kernel
theorem dX11_part1_21 : decode cX11_part1 21 = .ok (.iload_n 1, 1) := by decide +kernel
theorem dX11_part1_22 : decode cX11_part1 22 = .ok (.imul, 1) := by decide +kernel
theorem dX11_part1_23 : decode cX11_part1 23 = .ok (.iload_n 3, 1) := by decide +kernel
theorem dX11_part1_24 : decode cX11_part1 24 = .ok (.iadd, 1) := by decide +kernel
theorem dX11_part1_25 : decode cX11_part1 25 = .ok (.iaload, 1) := by decide +kernel
theorem dX11_part1_26 : decode cX11_part1 26 = .ok (.iconst 1, 1) := by decide +kernel
theorem dX11_part1_27 : decode cX11_part1 27 = .ok (.if_icmp .ne 9, 3) := by decide +kernel
theorem dX11_part1_30 : decode cX11_part1 30 = .ok (.iconst 1, 1) := by decide +kernel
theorem dX11_part1_31 : decode cX11_part1 31 = .ok (.iload_n 3, 1) := by decide +kernel
theorem dX11_part1_32 : decode cX11_part1 32 = .ok (.ishl, 1) := by decide +kernel
theorem dX11_part1_33 : decode cX11_part1 33 = .ok (.goto 4, 3) := by decide +kernel
theorem dX11_part1_36 : decode cX11_part1 36 = .ok (.iconst 0, 1) := by decide +kernel
theorem dX11_part1_37 : decode cX11_part1 37 = .ok (.ior, 1) := by decide +kernel
theorem dX11_part1_38 : decode cX11_part1 38 = .ok (.istore_n 2, 1) := by decide +kernel
theorem dX11_part1_39 : decode cX11_part1 39 = .ok (.iinc 3 1, 3) := by decide +kernel
theorem dX11_part1_42 : decode cX11_part1 42 = .ok (.goto (-38), 3) := by decide +kernel
theorem dX11_part1_45 : decode cX11_part1 45 = .ok (.iconst 0, 1) := by decide +kernel
theorem dX11_part1_46 : decode cX11_part1 46 = .ok (.istore_n 3, 1) := by decide +kernel
theorem dX11_part1_47 : decode cX11_part1 47 = .ok (.iload_n 3, 1) := by decide +kernel
theorem dX11_part1_48 : decode cX11_part1 48 = .ok (.aload_n 0, 1) := by decide +kernel
theorem dX11_part1_49 : decode cX11_part1 49 = .ok (.getfield 291, 3) := by decide +kernel
theorem dX11_part1_52 : decode cX11_part1 52 = .ok (.iload_n 1, 1) := by decide +kernel
theorem dX11_part1_53 : decode cX11_part1 53 = .ok (.iaload, 1) := by decide +kernel
theorem dX11_part1_54 : decode cX11_part1 54 = .ok (.if_icmp .ge 21, 3) := by decide +kernel
theorem dX11_part1_57 : decode cX11_part1 57 = .ok (.aload_n 0, 1) := by decide +kernel
theorem dX11_part1_58 : decode cX11_part1 58 = .ok (.getfield 306, 3) := by decide +kernel
theorem dX11_part1_61 : decode cX11_part1 61 = .ok (.bipush 48, 2) := by decide +kernel
theorem dX11_part1_63 : decode cX11_part1 63 = .ok (.iload_n 1, 1) := by decide +kernel
theorem dX11_part1_64 : decode cX11_part1 64 = .ok (.imul, 1) := by decide +kernel
theorem dX11_part1_65 : decode cX11_part1 65 = .ok (.iload_n 3, 1) := by decide +kernel
theorem dX11_part1_66 : decode cX11_part1 66 = .ok (.iadd, 1) := by decide +kernel
theorem dX11_part1_67 : decode cX11_part1 67 = .ok (.iconst 0, 1) := by decide +kernel
theorem dX11_part1_68 : decode cX11_part1 68 = .ok (.iastore, 1) := by decide +kernel
theorem dX11_part1_69 : decode cX11_part1 69 = .ok (.iinc 3 1, 3) := by decide +kernel
theorem dX11_part1_72 : decode cX11_part1 72 = .ok (.goto (-25), 3) := by decide +kernel
theorem dX11_part1_75 : decode cX11_part1 75 = .ok (.iconst 1, 1) := by decide +kernel
theorem dX11_part1_76 : decode cX11_part1 76 = .ok (.istore_n 3, 1) := by decide +kernel
theorem dX11_part1_77 : decode cX11_part1 77 = .ok (.iload_n 3, 1) := by decide +kernel
theorem dX11_part1_78 : decode cX11_part1 78 = .ok (.ifCond .eq 130, 3) := by decide +kernel
theorem dX11_part1_81 : decode cX11_part1 81 = .ok (.iconst 0, 1) := by decide +kernel
theorem dX11_part1_82 : decode cX11_part1 82 = .ok (.istore_n 3, 1) := by decide +kernel
theorem dX11_part1_83 : decode cX11_part1 83 = .ok (.iconst 0, 1) := by decide +kernel
theorem dX11_part1_84 : decode cX11_part1 84 = .ok (.istore 4, 2) := by decide +kernel
theorem dX11_part1_86 : decode cX11_part1 86 = .ok (.iload 4, 2) := by decide +kernel
theorem dX11_part1_88 : decode cX11_part1 88 = .ok (.aload_n 0, 1) := by decide +kernel
theorem dX11_part1_89 : decode cX11_part1 89 = .ok (.getfield 291, 3) := by decide +kernel
theorem dX11_part1_92 : decode cX11_part1 92 = .ok (.iload_n 1, 1) := by decide +kernel
theorem dX11_part1_93 : decode cX11_part1 93 = .ok (.iaload, 1) := by decide +kernel
theorem dX11_part1_94 : decode cX11_part1 94 = .ok (.if_icmp .ge 40, 3) := by decide +kernel
theorem dX11_part1_97 : decode cX11_part1 97 = .ok (.iconst 0, 1) := by decide +kernel
theorem dX11_part1_98 : decode cX11_part1 98 = .ok (.istore 5, 2) := by decide +kernel
theorem dX11_part1_100 : decode cX11_part1 100 = .ok (.aload_n 0, 1) := by decide +kernel
theorem dX11_part1_101 : decode cX11_part1 101 = .ok (.iload_n 1, 1) := by decide +kernel
theorem dX11_part1_102 : decode cX11_part1 102 = .ok (.iload 5, 2) := by decide +kernel
theorem dX11_part1_104 : decode cX11_part1 104 = .ok (.iload 4, 2) := by decide +kernel
theorem dX11_part1_106 : decode cX11_part1 106 = .ok (.iload_n 2, 1) := by decide +kernel
theorem dX11_part1_107 : decode cX11_part1 107 = .ok (.invokevirtual 862, 3) := by decide +kernel
theorem dX11_part1_110 : decode cX11_part1 110 = .ok (.ifCond .ne 9, 3) := by decide +kernel
theorem dX11_part1_113 : decode cX11_part1 113 = .ok (.iinc 5 1, 3) := by decide +kernel
theorem dX11_part1_116 : decode cX11_part1 116 = .ok (.goto (-16), 3) := by decide +kernel
theorem dX11_part1_119 : decode cX11_part1 119 = .ok (.aload_n 0, 1) := by decide +kernel
theorem dX11_part1_120 : decode cX11_part1 120 = .ok (.getfield 322, 3) := by decide +kernel
theorem dX11_part1_123 : decode cX11_part1 123 = .ok (.iload 4, 2) := by decide +kernel
theorem dX11_part1_125 : decode cX11_part1 125 = .ok (.iload 5, 2) := by decide +kernel
theorem dX11_part1_127 : decode cX11_part1 127 = .ok (.iastore, 1) := by decide +kernel
theorem dX11_part1_128 : decode cX11_part1 128 = .ok (.iinc 4 1, 3) := by decide +kernel
theorem dX11_part1_131 : decode cX11_part1 131 = .ok (.goto (-45), 3) := by decide +kernel
theorem dX11_part1_134 : decode cX11_part1 134 = .ok (.iconst 0, 1) := by decide +kernel
theorem dX11_part1_135 : decode cX11_part1 135 = .ok (.istore 4, 2) := by decide +kernel
theorem dX11_part1_137 : decode cX11_part1 137 = .ok (.iload 4, 2) := by decide +kernel
theorem dX11_part1_139 : decode cX11_part1 139 = .ok (.aload_n 0, 1) := by decide +kernel
theorem dX11_part1_140 : decode cX11_part1 140 = .ok (.getfield 291, 3) := by decide +kernel
theorem dX11_part1_143 : decode cX11_part1 143 = .ok (.iload_n 1, 1) := by decide +kernel
theorem dX11_part1_144 : decode cX11_part1 144 = .ok (.iaload, 1) := by decide +kernel
theorem dX11_part1_145 : decode cX11_part1 145 = .ok (.if_icmp .ge 60, 3) := by decide +kernel
theorem dX11_part1_148 : decode cX11_part1 148 = .ok (.iload_n 3, 1) := by decide +kernel
theorem dX11_part1_149 : decode cX11_part1 149 = .ok (.ifCond .ne 25, 3) := by decide +kernel
theorem dX11_part1_152 : decode cX11_part1 152 = .ok (.aload_n 0, 1) := by decide +kernel
theorem dX11_part1_153 : decode cX11_part1 153 = .ok (.getfield 306, 3) := by decide +kernel
theorem dX11_part1_156 : decode cX11_part1 156 = .ok (.bipush 48, 2) := by decide +kernel
theorem dX11_part1_158 : decode cX11_part1 158 = .ok (.iload_n 1, 1) := by decide +kernel
theorem dX11_part1_159 : decode cX11_part1 159 = .ok (.imul, 1) := by decide +kernel
theorem dX11_part1_160 : decode cX11_part1 160 = .ok (.iload 4, 2) := by decide +kernel
theorem dX11_part1_162 : decode cX11_part1 162 = .ok (.iadd, 1) := by decide +kernel
theorem dX11_part1_163 : decode cX11_part1 163 = .ok (.iaload, 1) := by decide +kernel
theorem dX11_part1_164 : decode cX11_part1 164 = .ok (.aload_n 0, 1) := by decide +kernel
theorem dX11_part1_165 : decode cX11_part1 165 = .ok (.getfield 322, 3) := by decide +kernel
theorem dX11_part1_168 : decode cX11_part1 168 = .ok (.iload 4, 2) := by decide +kernel
theorem dX11_part1_170 : decode cX11_part1 170 = .ok (.iaload, 1) := by decide +kernel
theorem dX11_part1_171 : decode cX11_part1 171 = .ok (.if_icmp .eq 7, 3) := by decide +kernel
theorem dX11_part1_174 : decode cX11_part1 174 = .ok (.iconst 1, 1) := by decide +kernel
theorem dX11_part1_175 : decode cX11_part1 175 = .ok (.goto 4, 3) := by decide +kernel
theorem dX11_part1_178 : decode cX11_part1 178 = .ok (.iconst 0, 1) := by decide +kernel
theorem dX11_part1_179 : decode cX11_part1 179 = .ok (.istore_n 3, 1) := by decide +kernel
theorem dX11_part1_180 : decode cX11_part1 180 = .ok (.aload_n 0, 1) := by decide +kernel
theorem dX11_part1_181 : decode cX11_part1 181 = .ok (.getfield 306, 3) := by decide +kernel
theorem dX11_part1_184 : decode cX11_part1 184 = .ok (.bipush 48, 2) := by decide +kernel
theorem dX11_part1_186 : decode cX11_part1 186 = .ok (.iload_n 1, 1) := by decide +kernel
theorem dX11_part1_187 : decode cX11_part1 187 = .ok (.imul, 1) := by decide +kernel
theorem dX11_part1_188 : decode cX11_part1 188 = .ok (.iload 4, 2) := by decide +kernel
theorem dX11_part1_190 : decode cX11_part1 190 = .ok (.iadd, 1) := by decide +kernel
theorem dX11_part1_191 : decode cX11_part1 191 = .ok (.aload_n 0, 1) := by decide +kernel
theorem dX11_part1_192 : decode cX11_part1 192 = .ok (.getfield 322, 3) := by decide +kernel
theorem dX11_part1_195 : decode cX11_part1 195 = .ok (.iload 4, 2) := by decide +kernel
theorem dX11_part1_197 : decode cX11_part1 197 = .ok (.iaload, 1) := by decide +kernel
theorem dX11_part1_198 : decode cX11_part1 198 = .ok (.iastore, 1) := by decide +kernel
theorem dX11_part1_199 : decode cX11_part1 199 = .ok (.iinc 4 1, 3) := by decide +kernel
theorem dX11_part1_202 : decode cX11_part1 202 = .ok (.goto (-65), 3) := by decide +kernel
theorem dX11_part1_205 : decode cX11_part1 205 = .ok (.goto (-128), 3) := by decide +kernel
theorem dX11_part1_208 : decode cX11_part1 208 = .ok (.return_, 1) := by decide +kernel
theorem dX11_isSearched_0 : decode cX11_isSearched 0 = .ok (.aload_n 0, 1) := by decide +kernel
theorem dX11_isSearched_1 : decode cX11_isSearched 1 = .ok (.iload_n 1, 1) := by decide +kernel
theorem dX11_isSearched_2 : decode cX11_isSearched 2 = .ok (.invokevirtual 727, 3) := by decide +kernel
theorem dX11_isSearched_5 : decode cX11_isSearched 5 = .ok (.ifCond .ne 5, 3) := by decide +kernel
theorem dX11_isSearched_8 : decode cX11_isSearched 8 = .ok (.iconst 0, 1) := by decide +kernel
theorem dX11_isSearched_9 : decode cX11_isSearched 9 = .ok (.ireturn, 1) := by decide +kernel
theorem dX11_isSearched_10 : decode cX11_isSearched 10 = .ok (.aload_n 0, 1) := by decide +kernel
theorem dX11_isSearched_11 : decode cX11_isSearched 11 = .ok (.iload_n 1, 1) := by decide +kernel
theorem dX11_isSearched_12 : decode cX11_isSearched 12 = .ok (.invokevirtual 866, 3) := by decide +kernel
theorem dX11_isSearched_15 : decode cX11_isSearched 15 = .ok (.aload_n 0, 1) := by decide +kernel
theorem dX11_isSearched_16 : decode cX11_isSearched 16 = .ok (.getfield 288, 3) := by decide +kernel
theorem dX11_isSearched_19 : decode cX11_isSearched 19 = .ok (.iload_n 1, 1) := by decide +kernel
theorem dX11_isSearched_20 : decode cX11_isSearched 20 = .ok (.iaload, 1) := by decide +kernel
theorem dX11_isSearched_21 : decode cX11_isSearched 21 = .ok (.iconst 1, 1) := by decide +kernel
theorem dX11_isSearched_22 : decode cX11_isSearched 22 = .ok (.if_icmp .ne 7, 3) := by decide +kernel
theorem dX11_isSearched_25 : decode cX11_isSearched 25 = .ok (.iconst 1, 1) := by decide +kernel
theorem dX11_isSearched_26 : decode cX11_isSearched 26 = .ok (.goto 4, 3) := by decide +kernel
theorem dX11_isSearched_29 : decode cX11_isSearched 29 = .ok (.iconst 0, 1) := by decide +kernel
theorem dX11_isSearched_30 : decode cX11_isSearched 30 = .ok (.ireturn, 1) := by decide +kernel
theorem dX11_search_0 : decode cX11_search 0 = .ok (.aload_n 0, 1) := by decide +kernel
theorem dX11_search_1 : decode cX11_search 1 = .ok (.iload_n 1, 1) := by decide +kernel
theorem dX11_search_2 : decode cX11_search 2 = .ok (.invokevirtual 727, 3) := by decide +kernel
theorem dX11_search_5 : decode cX11_search 5 = .ok (.ifCond .ne 5, 3) := by decide +kernel
theorem dX11_search_8 : decode cX11_search 8 = .ok (.iconst (-1), 1) := by decide +kernel
theorem dX11_search_9 : decode cX11_search 9 = .ok (.ireturn, 1) := by decide +kernel
theorem dX11_search_10 : decode cX11_search 10 = .ok (.aload_n 0, 1) := by decide +kernel
theorem dX11_search_11 : decode cX11_search 11 = .ok (.iload_n 1, 1) := by decide +kernel
theorem dX11_search_12 : decode cX11_search 12 = .ok (.invokevirtual 866, 3) := by decide +kernel
theorem dX11_search_15 : decode cX11_search 15 = .ok (.aload_n 0, 1) := by decide +kernel
theorem dX11_search_16 : decode cX11_search 16 = .ok (.getfield 288, 3) := by decide +kernel
theorem dX11_search_19 : decode cX11_search 19 = .ok (.iload_n 1, 1) := by decide +kernel
theorem dX11_search_20 : decode cX11_search 20 = .ok (.iaload, 1) := by decide +kernel
theorem dX11_search_21 : decode cX11_search 21 = .ok (.iconst 1, 1) := by decide +kernel
theorem dX11_search_22 : decode cX11_search 22 = .ok (.if_icmp .ne 12, 3) := by decide +kernel
theorem dX11_search_25 : decode cX11_search 25 = .ok (.aload_n 0, 1) := by decide +kernel
theorem dX11_search_26 : decode cX11_search 26 = .ok (.getfield 291, 3) := by decide +kernel
theorem dX11_search_29 : decode cX11_search 29 = .ok (.iload_n 1, 1) := by decide +kernel
theorem dX11_search_30 : decode cX11_search 30 = .ok (.iaload, 1) := by decide +kernel
theorem dX11_search_31 : decode cX11_search 31 = .ok (.goto 5, 3) := by decide +kernel
theorem dX11_search_34 : decode cX11_search 34 = .ok (.bipush (-4), 2) := by decide +kernel
theorem dX11_search_36 : decode cX11_search 36 = .ok (.ireturn, 1) := by decide +kernel
theorem dX11_move_0 : decode cX11_move 0 = .ok (.aload_n 0, 1) := by decide +kernel
theorem dX11_move_1 : decode cX11_move 1 = .ok (.iload_n 1, 1) := by decide +kernel
theorem dX11_move_2 : decode cX11_move 2 = .ok (.invokevirtual 869, 3) := by decide +kernel
theorem dX11_move_5 : decode cX11_move 5 = .ok (.ifCond .eq 49, 3) := by decide +kernel
theorem dX11_move_8 : decode cX11_move 8 = .ok (.iload_n 2, 1) := by decide +kernel
theorem dX11_move_9 : decode cX11_move 9 = .ok (.i2l, 1) := by decide +kernel
theorem dX11_move_10 : decode cX11_move 10 = .ok (.lconst 0, 1) := by decide +kernel
theorem dX11_move_11 : decode cX11_move 11 = .ok (.aload_n 0, 1) := by decide +kernel
theorem dX11_move_12 : decode cX11_move 12 = .ok (.getfield 291, 3) := by decide +kernel
theorem dX11_move_15 : decode cX11_move 15 = .ok (.iload_n 1, 1) := by decide +kernel
theorem dX11_move_16 : decode cX11_move 16 = .ok (.iaload, 1) := by decide +kernel
theorem dX11_move_17 : decode cX11_move 17 = .ok (.iconst 1, 1) := by decide +kernel
theorem dX11_move_18 : decode cX11_move 18 = .ok (.isub, 1) := by decide +kernel
theorem dX11_move_19 : decode cX11_move 19 = .ok (.i2l, 1) := by decide +kernel
theorem dX11_move_20 : decode cX11_move 20 = .ok (.invokestatic 332, 3) := by decide +kernel
theorem dX11_move_23 : decode cX11_move 23 = .ok (.ifCond .eq 31, 3) := by decide +kernel
theorem dX11_move_26 : decode cX11_move 26 = .ok (.iload_n 3, 1) := by decide +kernel
theorem dX11_move_27 : decode cX11_move 27 = .ok (.i2l, 1) := by decide +kernel
theorem dX11_move_28 : decode cX11_move 28 = .ok (.lconst 0, 1) := by decide +kernel
theorem dX11_move_29 : decode cX11_move 29 = .ok (.aload_n 0, 1) := by decide +kernel
theorem dX11_move_30 : decode cX11_move 30 = .ok (.iload_n 1, 1) := by decide +kernel
theorem dX11_move_31 : decode cX11_move 31 = .ok (.invokevirtual 849, 3) := by decide +kernel
theorem dX11_move_34 : decode cX11_move 34 = .ok (.iconst 1, 1) := by decide +kernel
theorem dX11_move_35 : decode cX11_move 35 = .ok (.isub, 1) := by decide +kernel
theorem dX11_move_36 : decode cX11_move 36 = .ok (.i2l, 1) := by decide +kernel
theorem dX11_move_37 : decode cX11_move 37 = .ok (.invokestatic 332, 3) := by decide +kernel
theorem dX11_move_40 : decode cX11_move 40 = .ok (.ifCond .eq 14, 3) := by decide +kernel
theorem dX11_move_43 : decode cX11_move 43 = .ok (.iload 4, 2) := by decide +kernel
theorem dX11_move_45 : decode cX11_move 45 = .ok (.i2l, 1) := by decide +kernel
theorem dX11_move_46 : decode cX11_move 46 = .ok (.lconst 0, 1) := by decide +kernel
theorem dX11_move_47 : decode cX11_move 47 = .ok (.lconst 1, 1) := by decide +kernel
theorem dX11_move_48 : decode cX11_move 48 = .ok (.invokestatic 332, 3) := by decide +kernel
theorem dX11_move_51 : decode cX11_move 51 = .ok (.ifCond .ne 6, 3) := by decide +kernel
theorem dX11_move_54 : decode cX11_move 54 = .ok (.bipush (-9), 2) := by decide +kernel
theorem dX11_move_56 : decode cX11_move 56 = .ok (.ireturn, 1) := by decide +kernel
theorem dX11_move_57 : decode cX11_move 57 = .ok (.bipush 32, 2) := by decide +kernel
theorem dX11_move_59 : decode cX11_move 59 = .ok (.bipush 48, 2) := by decide +kernel
theorem dX11_move_61 : decode cX11_move 61 = .ok (.iload_n 1, 1) := by decide +kernel
theorem dX11_move_62 : decode cX11_move 62 = .ok (.imul, 1) := by decide +kernel
theorem dX11_move_63 : decode cX11_move 63 = .ok (.iload_n 2, 1) := by decide +kernel
theorem dX11_move_64 : decode cX11_move 64 = .ok (.iadd, 1) := by decide +kernel
theorem dX11_move_65 : decode cX11_move 65 = .ok (.imul, 1) := by decide +kernel
theorem dX11_move_66 : decode cX11_move 66 = .ok (.iload_n 3, 1) := by decide +kernel
theorem dX11_move_67 : decode cX11_move 67 = .ok (.iadd, 1) := by decide +kernel
theorem dX11_move_68 : decode cX11_move 68 = .ok (.istore 5, 2) := by decide +kernel
theorem dX11_move_70 : decode cX11_move 70 = .ok (.iload 4, 2) := by decide +kernel
theorem dX11_move_72 : decode cX11_move 72 = .ok (.ifCond .ne 13, 3) := by decide +kernel
theorem dX11_move_75 : decode cX11_move 75 = .ok (.aload_n 0, 1) := by decide +kernel
theorem dX11_move_76 : decode cX11_move 76 = .ok (.getfield 309, 3) := by decide +kernel
theorem dX11_move_79 : decode cX11_move 79 = .ok (.iload 5, 2) := by decide +kernel
theorem dX11_move_81 : decode cX11_move 81 = .ok (.iaload, 1) := by decide +kernel
theorem dX11_move_82 : decode cX11_move 82 = .ok (.goto 10, 3) := by decide +kernel
theorem dX11_move_85 : decode cX11_move 85 = .ok (.aload_n 0, 1) := by decide +kernel
theorem dX11_move_86 : decode cX11_move 86 = .ok (.getfield 312, 3) := by decide +kernel
theorem dX11_move_89 : decode cX11_move 89 = .ok (.iload 5, 2) := by decide +kernel
theorem dX11_move_91 : decode cX11_move 91 = .ok (.iaload, 1) := by decide +kernel
theorem dX11_move_92 : decode cX11_move 92 = .ok (.ireturn, 1) := by decide +kernel
theorem dX11_classOf_0 : decode cX11_classOf 0 = .ok (.aload_n 0, 1) := by decide +kernel
theorem dX11_classOf_1 : decode cX11_classOf 1 = .ok (.iload_n 1, 1) := by decide +kernel
theorem dX11_classOf_2 : decode cX11_classOf 2 = .ok (.invokevirtual 869, 3) := by decide +kernel
theorem dX11_classOf_5 : decode cX11_classOf 5 = .ok (.ifCond .eq 35, 3) := by decide +kernel
theorem dX11_classOf_8 : decode cX11_classOf 8 = .ok (.iload_n 2, 1) := by decide +kernel
theorem dX11_classOf_9 : decode cX11_classOf 9 = .ok (.i2l, 1) := by decide +kernel
theorem dX11_classOf_10 : decode cX11_classOf 10 = .ok (.lconst 0, 1) := by decide +kernel
theorem dX11_classOf_11 : decode cX11_classOf 11 = .ok (.aload_n 0, 1) := by decide +kernel
theorem dX11_classOf_12 : decode cX11_classOf 12 = .ok (.getfield 291, 3) := by decide +kernel
theorem dX11_classOf_15 : decode cX11_classOf 15 = .ok (.iload_n 1, 1) := by decide +kernel
theorem dX11_classOf_16 : decode cX11_classOf 16 = .ok (.iaload, 1) := by decide +kernel
theorem dX11_classOf_17 : decode cX11_classOf 17 = .ok (.iconst 1, 1) := by decide +kernel
theorem dX11_classOf_18 : decode cX11_classOf 18 = .ok (.isub, 1) := by decide +kernel
theorem dX11_classOf_19 : decode cX11_classOf 19 = .ok (.i2l, 1) := by decide +kernel
theorem dX11_classOf_20 : decode cX11_classOf 20 = .ok (.invokestatic 332, 3) := by decide +kernel
theorem dX11_classOf_23 : decode cX11_classOf 23 = .ok (.ifCond .eq 17, 3) := by decide +kernel
theorem dX11_classOf_26 : decode cX11_classOf 26 = .ok (.aload_n 0, 1) := by decide +kernel
theorem dX11_classOf_27 : decode cX11_classOf 27 = .ok (.getfield 306, 3) := by decide +kernel
theorem dX11_classOf_30 : decode cX11_classOf 30 = .ok (.bipush 48, 2) := by decide +kernel
theorem dX11_classOf_32 : decode cX11_classOf 32 = .ok (.iload_n 1, 1) := by decide +kernel
theorem dX11_classOf_33 : decode cX11_classOf 33 = .ok (.imul, 1) := by decide +kernel
theorem dX11_classOf_34 : decode cX11_classOf 34 = .ok (.iload_n 2, 1) := by decide +kernel
theorem dX11_classOf_35 : decode cX11_classOf 35 = .ok (.iadd, 1) := by decide +kernel
theorem dX11_classOf_36 : decode cX11_classOf 36 = .ok (.iaload, 1) := by decide +kernel
theorem dX11_classOf_37 : decode cX11_classOf 37 = .ok (.goto 5, 3) := by decide +kernel
theorem dX11_classOf_40 : decode cX11_classOf 40 = .ok (.bipush (-9), 2) := by decide +kernel
theorem dX11_classOf_42 : decode cX11_classOf 42 = .ok (.ireturn, 1) := by decide +kernel
theorem dX11_way_0 : decode cX11_way 0 = .ok (.aload_n 0, 1) := by decide +kernel
theorem dX11_way_1 : decode cX11_way 1 = .ok (.iload_n 1, 1) := by decide +kernel
theorem dX11_way_2 : decode cX11_way 2 = .ok (.invokevirtual 869, 3) := by decide +kernel
theorem dX11_way_5 : decode cX11_way 5 = .ok (.ifCond .eq 21, 3) := by decide +kernel
theorem dX11_way_8 : decode cX11_way 8 = .ok (.iload_n 2, 1) := by decide +kernel
theorem dX11_way_9 : decode cX11_way 9 = .ok (.i2l, 1) := by decide +kernel
theorem dX11_way_10 : decode cX11_way 10 = .ok (.lconst 0, 1) := by decide +kernel
theorem dX11_way_11 : decode cX11_way 11 = .ok (.aload_n 0, 1) := by decide +kernel
theorem dX11_way_12 : decode cX11_way 12 = .ok (.getfield 291, 3) := by decide +kernel
theorem dX11_way_15 : decode cX11_way 15 = .ok (.iload_n 1, 1) := by decide +kernel
theorem dX11_way_16 : decode cX11_way 16 = .ok (.iaload, 1) := by decide +kernel
theorem dX11_way_17 : decode cX11_way 17 = .ok (.iconst 1, 1) := by decide +kernel
theorem dX11_way_18 : decode cX11_way 18 = .ok (.isub, 1) := by decide +kernel
theorem dX11_way_19 : decode cX11_way 19 = .ok (.i2l, 1) := by decide +kernel
theorem dX11_way_20 : decode cX11_way 20 = .ok (.invokestatic 332, 3) := by decide +kernel
theorem dX11_way_23 : decode cX11_way 23 = .ok (.ifCond .ne 6, 3) := by decide +kernel
theorem dX11_way_26 : decode cX11_way 26 = .ok (.bipush (-9), 2) := by decide +kernel
theorem dX11_way_28 : decode cX11_way 28 = .ok (.ireturn, 1) := by decide +kernel
theorem dX11_way_29 : decode cX11_way 29 = .ok (.iconst 0, 1) := by decide +kernel
theorem dX11_way_30 : decode cX11_way 30 = .ok (.istore 4, 2) := by decide +kernel
theorem dX11_way_32 : decode cX11_way 32 = .ok (.iload_n 2, 1) := by decide +kernel
theorem dX11_way_33 : decode cX11_way 33 = .ok (.istore 5, 2) := by decide +kernel
theorem dX11_way_35 : decode cX11_way 35 = .ok (.aload_n 0, 1) := by decide +kernel
theorem dX11_way_36 : decode cX11_way 36 = .ok (.getfield 300, 3) := by decide +kernel
theorem dX11_way_39 : decode cX11_way 39 = .ok (.bipush 48, 2) := by decide +kernel
theorem dX11_way_41 : decode cX11_way 41 = .ok (.iload_n 1, 1) := by decide +kernel
theorem dX11_way_42 : decode cX11_way 42 = .ok (.imul, 1) := by decide +kernel
theorem dX11_way_43 : decode cX11_way 43 = .ok (.iload 5, 2) := by decide +kernel
theorem dX11_way_45 : decode cX11_way 45 = .ok (.iadd, 1) := by decide +kernel
theorem dX11_way_46 : decode cX11_way 46 = .ok (.iaload, 1) := by decide +kernel
theorem dX11_way_47 : decode cX11_way 47 = .ok (.iconst (-1), 1) := by decide +kernel
theorem dX11_way_48 : decode cX11_way 48 = .ok (.if_icmp .eq 23, 3) := by decide +kernel
theorem dX11_way_51 : decode cX11_way 51 = .ok (.aload_n 0, 1) := by decide +kernel
theorem dX11_way_52 : decode cX11_way 52 = .ok (.getfield 300, 3) := by decide +kernel
theorem dX11_way_55 : decode cX11_way 55 = .ok (.bipush 48, 2) := by decide +kernel
theorem dX11_way_57 : decode cX11_way 57 = .ok (.iload_n 1, 1) := by decide +kernel
theorem dX11_way_58 : decode cX11_way 58 = .ok (.imul, 1) := by decide +kernel
theorem dX11_way_59 : decode cX11_way 59 = .ok (.iload 5, 2) := by decide +kernel
theorem dX11_way_61 : decode cX11_way 61 = .ok (.iadd, 1) := by decide +kernel
theorem dX11_way_62 : decode cX11_way 62 = .ok (.iaload, 1) := by decide +kernel
theorem dX11_way_63 : decode cX11_way 63 = .ok (.istore 5, 2) := by decide +kernel
theorem dX11_way_65 : decode cX11_way 65 = .ok (.iinc 4 1, 3) := by decide +kernel
theorem dX11_way_68 : decode cX11_way 68 = .ok (.goto (-33), 3) := by decide +kernel
theorem dX11_way_71 : decode cX11_way 71 = .ok (.iload_n 3, 1) := by decide +kernel
theorem dX11_way_72 : decode cX11_way 72 = .ok (.iconst (-1), 1) := by decide +kernel
theorem dX11_way_73 : decode cX11_way 73 = .ok (.if_icmp .ne 6, 3) := by decide +kernel
theorem dX11_way_76 : decode cX11_way 76 = .ok (.iload 4, 2) := by decide +kernel
theorem dX11_way_78 : decode cX11_way 78 = .ok (.ireturn, 1) := by decide +kernel
theorem dX11_way_79 : decode cX11_way 79 = .ok (.iload_n 3, 1) := by decide +kernel
theorem dX11_way_80 : decode cX11_way 80 = .ok (.i2l, 1) := by decide +kernel
theorem dX11_way_81 : decode cX11_way 81 = .ok (.lconst 0, 1) := by decide +kernel
theorem dX11_way_82 : decode cX11_way 82 = .ok (.iload 4, 2) := by decide +kernel
theorem dX11_way_84 : decode cX11_way 84 = .ok (.iconst 1, 1) := by decide +kernel
theorem dX11_way_85 : decode cX11_way 85 = .ok (.isub, 1) := by decide +kernel
theorem dX11_way_86 : decode cX11_way 86 = .ok (.i2l, 1) := by decide +kernel
theorem dX11_way_87 : decode cX11_way 87 = .ok (.invokestatic 332, 3) := by decide +kernel
theorem dX11_way_90 : decode cX11_way 90 = .ok (.ifCond .ne 6, 3) := by decide +kernel
theorem dX11_way_93 : decode cX11_way 93 = .ok (.bipush (-9), 2) := by decide +kernel
theorem dX11_way_95 : decode cX11_way 95 = .ok (.ireturn, 1) := by decide +kernel
theorem dX11_way_96 : decode cX11_way 96 = .ok (.iload_n 2, 1) := by decide +kernel
theorem dX11_way_97 : decode cX11_way 97 = .ok (.istore 5, 2) := by decide +kernel
theorem dX11_way_99 : decode cX11_way 99 = .ok (.iload 4, 2) := by decide +kernel
theorem dX11_way_101 : decode cX11_way 101 = .ok (.iconst 1, 1) := by decide +kernel
theorem dX11_way_102 : decode cX11_way 102 = .ok (.isub, 1) := by decide +kernel
theorem dX11_way_103 : decode cX11_way 103 = .ok (.istore 6, 2) := by decide +kernel
theorem dX11_way_105 : decode cX11_way 105 = .ok (.iload 6, 2) := by decide +kernel
theorem dX11_way_107 : decode cX11_way 107 = .ok (.iload_n 3, 1) := by decide +kernel
theorem dX11_way_108 : decode cX11_way 108 = .ok (.if_icmp .le 23, 3) := by decide +kernel
theorem dX11_way_111 : decode cX11_way 111 = .ok (.aload_n 0, 1) := by decide +kernel
theorem dX11_way_112 : decode cX11_way 112 = .ok (.getfield 300, 3) := by decide +kernel
theorem dX11_way_115 : decode cX11_way 115 = .ok (.bipush 48, 2) := by decide +kernel
theorem dX11_way_117 : decode cX11_way 117 = .ok (.iload_n 1, 1) := by decide +kernel
theorem dX11_way_118 : decode cX11_way 118 = .ok (.imul, 1) := by decide +kernel
theorem dX11_way_119 : decode cX11_way 119 = .ok (.iload 5, 2) := by decide +kernel
theorem dX11_way_121 : decode cX11_way 121 = .ok (.iadd, 1) := by decide +kernel
theorem dX11_way_122 : decode cX11_way 122 = .ok (.iaload, 1) := by decide +kernel
theorem dX11_way_123 : decode cX11_way 123 = .ok (.istore 5, 2) := by decide +kernel
theorem dX11_way_125 : decode cX11_way 125 = .ok (.iinc 6 (-1), 3) := by decide +kernel
theorem dX11_way_128 : decode cX11_way 128 = .ok (.goto (-23), 3) := by decide +kernel
theorem dX11_way_131 : decode cX11_way 131 = .ok (.aload_n 0, 1) := by decide +kernel
theorem dX11_way_132 : decode cX11_way 132 = .ok (.getfield 303, 3) := by decide +kernel
theorem dX11_way_135 : decode cX11_way 135 = .ok (.bipush 48, 2) := by decide +kernel
theorem dX11_way_137 : decode cX11_way 137 = .ok (.iload_n 1, 1) := by decide +kernel
theorem dX11_way_138 : decode cX11_way 138 = .ok (.imul, 1) := by decide +kernel
theorem dX11_way_139 : decode cX11_way 139 = .ok (.iload 5, 2) := by decide +kernel
theorem dX11_way_141 : decode cX11_way 141 = .ok (.iadd, 1) := by decide +kernel
theorem dX11_way_142 : decode cX11_way 142 = .ok (.iaload, 1) := by decide +kernel
theorem dX11_way_143 : decode cX11_way 143 = .ok (.ireturn, 1) := by decide +kernel
theorem dX11_seek_0 : decode cX11_seek 0 = .ok (.aload_n 0, 1) := by decide +kernel
theorem dX11_seek_1 : decode cX11_seek 1 = .ok (.iconst (-1), 1) := by decide +kernel
theorem dX11_seek_2 : decode cX11_seek 2 = .ok (.putfield 315, 3) := by decide +kernel
theorem dX11_seek_5 : decode cX11_seek 5 = .ok (.aload_n 0, 1) := by decide +kernel
theorem dX11_seek_6 : decode cX11_seek 6 = .ok (.iconst (-1), 1) := by decide +kernel
theorem dX11_seek_7 : decode cX11_seek 7 = .ok (.putfield 319, 3) := by decide +kernel
theorem dX11_seek_10 : decode cX11_seek 10 = .ok (.iconst 0, 1) := by decide +kernel
theorem dX11_seek_11 : decode cX11_seek 11 = .ok (.istore 4, 2) := by decide +kernel
theorem dX11_seek_13 : decode cX11_seek 13 = .ok (.iload 4, 2) := by decide +kernel
theorem dX11_seek_15 : decode cX11_seek 15 = .ok (.aload_n 0, 1) := by decide +kernel
theorem dX11_seek_16 : decode cX11_seek 16 = .ok (.getfield 291, 3) := by decide +kernel
theorem dX11_seek_19 : decode cX11_seek 19 = .ok (.iload_n 1, 1) := by decide +kernel
theorem dX11_seek_20 : decode cX11_seek 20 = .ok (.iaload, 1) := by decide +kernel
theorem dX11_seek_21 : decode cX11_seek 21 = .ok (.if_icmp .ge 100, 3) := by decide +kernel
theorem dX11_seek_24 : decode cX11_seek 24 = .ok (.aload_n 0, 1) := by decide +kernel
theorem dX11_seek_25 : decode cX11_seek 25 = .ok (.getfield 315, 3) := by decide +kernel
theorem dX11_seek_28 : decode cX11_seek 28 = .ok (.iconst (-1), 1) := by decide +kernel
theorem dX11_seek_29 : decode cX11_seek 29 = .ok (.if_icmp .ne 92, 3) := by decide +kernel
theorem dX11_seek_32 : decode cX11_seek 32 = .ok (.iconst 0, 1) := by decide +kernel
theorem dX11_seek_33 : decode cX11_seek 33 = .ok (.istore 5, 2) := by decide +kernel
theorem dX11_seek_35 : decode cX11_seek 35 = .ok (.iload 5, 2) := by decide +kernel
theorem dX11_seek_37 : decode cX11_seek 37 = .ok (.aload_n 0, 1) := by decide +kernel
theorem dX11_seek_38 : decode cX11_seek 38 = .ok (.iload_n 1, 1) := by decide +kernel
theorem dX11_seek_39 : decode cX11_seek 39 = .ok (.invokevirtual 849, 3) := by decide +kernel
theorem dX11_seek_42 : decode cX11_seek 42 = .ok (.if_icmp .ge 73, 3) := by decide +kernel
theorem dX11_seek_45 : decode cX11_seek 45 = .ok (.aload_n 0, 1) := by decide +kernel
theorem dX11_seek_46 : decode cX11_seek 46 = .ok (.getfield 315, 3) := by decide +kernel
theorem dX11_seek_49 : decode cX11_seek 49 = .ok (.iconst (-1), 1) := by decide +kernel
theorem dX11_seek_50 : decode cX11_seek 50 = .ok (.if_icmp .ne 65, 3) := by decide +kernel
theorem dX11_seek_53 : decode cX11_seek 53 = .ok (.aload_n 0, 1) := by decide +kernel
theorem dX11_seek_54 : decode cX11_seek 54 = .ok (.getfield 312, 3) := by decide +kernel
theorem dX11_seek_57 : decode cX11_seek 57 = .ok (.bipush 32, 2) := by decide +kernel
theorem dX11_seek_59 : decode cX11_seek 59 = .ok (.bipush 48, 2) := by decide +kernel
theorem dX11_seek_61 : decode cX11_seek 61 = .ok (.iload_n 1, 1) := by decide +kernel
theorem dX11_seek_62 : decode cX11_seek 62 = .ok (.imul, 1) := by decide +kernel
theorem dX11_seek_63 : decode cX11_seek 63 = .ok (.iload 4, 2) := by decide +kernel
theorem dX11_seek_65 : decode cX11_seek 65 = .ok (.iadd, 1) := by decide +kernel
theorem dX11_seek_66 : decode cX11_seek 66 = .ok (.imul, 1) := by decide +kernel
theorem dX11_seek_67 : decode cX11_seek 67 = .ok (.iload 5, 2) := by decide +kernel
theorem dX11_seek_69 : decode cX11_seek 69 = .ok (.iadd, 1) := by decide +kernel
theorem dX11_seek_70 : decode cX11_seek 70 = .ok (.iaload, 1) := by decide +kernel
theorem dX11_seek_71 : decode cX11_seek 71 = .ok (.istore 6, 2) := by decide +kernel
theorem dX11_seek_73 : decode cX11_seek 73 = .ok (.iload 6, 2) := by decide +kernel
theorem dX11_seek_75 : decode cX11_seek 75 = .ok (.iload_n 2, 1) := by decide +kernel
theorem dX11_seek_76 : decode cX11_seek 76 = .ok (.ishr, 1) := by decide +kernel
theorem dX11_seek_77 : decode cX11_seek 77 = .ok (.iconst 1, 1) := by decide +kernel
theorem dX11_seek_78 : decode cX11_seek 78 = .ok (.iand, 1) := by decide +kernel
theorem dX11_seek_79 : decode cX11_seek 79 = .ok (.iconst 1, 1) := by decide +kernel
theorem dX11_seek_80 : decode cX11_seek 80 = .ok (.if_icmp .ne 29, 3) := by decide +kernel
theorem dX11_seek_83 : decode cX11_seek 83 = .ok (.iload_n 3, 1) := by decide +kernel
theorem dX11_seek_84 : decode cX11_seek 84 = .ok (.iconst (-1), 1) := by decide +kernel
theorem dX11_seek_85 : decode cX11_seek 85 = .ok (.if_icmp .eq 12, 3) := by decide +kernel
theorem dX11_seek_88 : decode cX11_seek 88 = .ok (.iload 6, 2) := by decide +kernel
theorem dX11_seek_90 : decode cX11_seek 90 = .ok (.iload_n 3, 1) := by decide +kernel
theorem dX11_seek_91 : decode cX11_seek 91 = .ok (.ishr, 1) := by decide +kernel
theorem dX11_seek_92 : decode cX11_seek 92 = .ok (.iconst 1, 1) := by decide +kernel
theorem dX11_seek_93 : decode cX11_seek 93 = .ok (.iand, 1) := by decide +kernel
theorem dX11_seek_94 : decode cX11_seek 94 = .ok (.ifCond .ne 15, 3) := by decide +kernel
theorem dX11_seek_97 : decode cX11_seek 97 = .ok (.aload_n 0, 1) := by decide +kernel
theorem dX11_seek_98 : decode cX11_seek 98 = .ok (.iload 4, 2) := by decide +kernel
theorem dX11_seek_100 : decode cX11_seek 100 = .ok (.putfield 315, 3) := by decide +kernel
theorem dX11_seek_103 : decode cX11_seek 103 = .ok (.aload_n 0, 1) := by decide +kernel
theorem dX11_seek_104 : decode cX11_seek 104 = .ok (.iload 5, 2) := by decide +kernel
theorem dX11_seek_106 : decode cX11_seek 106 = .ok (.putfield 319, 3) := by decide +kernel
theorem dX11_seek_109 : decode cX11_seek 109 = .ok (.iinc 5 1, 3) := by decide +kernel
theorem dX11_seek_112 : decode cX11_seek 112 = .ok (.goto (-77), 3) := by decide +kernel
theorem dX11_seek_115 : decode cX11_seek 115 = .ok (.iinc 4 1, 3) := by decide +kernel
theorem dX11_seek_118 : decode cX11_seek 118 = .ok (.goto (-105), 3) := by decide +kernel
theorem dX11_seek_121 : decode cX11_seek 121 = .ok (.aload_n 0, 1) := by decide +kernel
theorem dX11_seek_122 : decode cX11_seek 122 = .ok (.getfield 315, 3) := by decide +kernel
theorem dX11_seek_125 : decode cX11_seek 125 = .ok (.iconst (-1), 1) := by decide +kernel
theorem dX11_seek_126 : decode cX11_seek 126 = .ok (.if_icmp .ne 7, 3) := by decide +kernel
theorem dX11_seek_129 : decode cX11_seek 129 = .ok (.iconst 1, 1) := by decide +kernel
theorem dX11_seek_130 : decode cX11_seek 130 = .ok (.goto 4, 3) := by decide +kernel
theorem dX11_seek_133 : decode cX11_seek 133 = .ok (.iconst 0, 1) := by decide +kernel
theorem dX11_seek_134 : decode cX11_seek 134 = .ok (.ireturn, 1) := by decide +kernel
theorem dX11_never_0 : decode cX11_never 0 = .ok (.aload_n 0, 1) := by decide +kernel
theorem dX11_never_1 : decode cX11_never 1 = .ok (.iload_n 1, 1) := by decide +kernel
theorem dX11_never_2 : decode cX11_never 2 = .ok (.invokevirtual 869, 3) := by decide +kernel
theorem dX11_never_5 : decode cX11_never 5 = .ok (.ifCond .eq 31, 3) := by decide +kernel
theorem dX11_never_8 : decode cX11_never 8 = .ok (.iload_n 2, 1) := by decide +kernel
theorem dX11_never_9 : decode cX11_never 9 = .ok (.i2l, 1) := by decide +kernel
theorem dX11_never_10 : decode cX11_never 10 = .ok (.lconst 0, 1) := by decide +kernel
theorem dX11_never_11 : decode cX11_never 11 = .ok (.aload_n 0, 1) := by decide +kernel
theorem dX11_never_12 : decode cX11_never 12 = .ok (.getfield 23, 3) := by decide +kernel
theorem dX11_never_15 : decode cX11_never 15 = .ok (.iload_n 1, 1) := by decide +kernel
theorem dX11_never_16 : decode cX11_never 16 = .ok (.iaload, 1) := by decide +kernel
theorem dX11_never_17 : decode cX11_never 17 = .ok (.iconst 1, 1) := by decide +kernel
theorem dX11_never_18 : decode cX11_never 18 = .ok (.isub, 1) := by decide +kernel
theorem dX11_never_19 : decode cX11_never 19 = .ok (.i2l, 1) := by decide +kernel
theorem dX11_never_20 : decode cX11_never 20 = .ok (.invokestatic 332, 3) := by decide +kernel
theorem dX11_never_23 : decode cX11_never 23 = .ok (.ifCond .eq 13, 3) := by decide +kernel
theorem dX11_never_26 : decode cX11_never 26 = .ok (.aload_n 0, 1) := by decide +kernel
theorem dX11_never_27 : decode cX11_never 27 = .ok (.iload_n 1, 1) := by decide +kernel
theorem dX11_never_28 : decode cX11_never 28 = .ok (.iload_n 2, 1) := by decide +kernel
theorem dX11_never_29 : decode cX11_never 29 = .ok (.iconst (-1), 1) := by decide +kernel
theorem dX11_never_30 : decode cX11_never 30 = .ok (.invokevirtual 872, 3) := by decide +kernel
theorem dX11_never_33 : decode cX11_never 33 = .ok (.goto 5, 3) := by decide +kernel
theorem dX11_never_36 : decode cX11_never 36 = .ok (.bipush (-9), 2) := by decide +kernel
theorem dX11_never_38 : decode cX11_never 38 = .ok (.ireturn, 1) := by decide +kernel
theorem dX11_always_0 : decode cX11_always 0 = .ok (.aload_n 0, 1) := by decide +kernel
theorem dX11_always_1 : decode cX11_always 1 = .ok (.iload_n 1, 1) := by decide +kernel
theorem dX11_always_2 : decode cX11_always 2 = .ok (.invokevirtual 869, 3) := by decide +kernel
theorem dX11_always_5 : decode cX11_always 5 = .ok (.ifCond .eq 49, 3) := by decide +kernel
theorem dX11_always_8 : decode cX11_always 8 = .ok (.iload_n 2, 1) := by decide +kernel
theorem dX11_always_9 : decode cX11_always 9 = .ok (.i2l, 1) := by decide +kernel
theorem dX11_always_10 : decode cX11_always 10 = .ok (.lconst 0, 1) := by decide +kernel
theorem dX11_always_11 : decode cX11_always 11 = .ok (.aload_n 0, 1) := by decide +kernel
theorem dX11_always_12 : decode cX11_always 12 = .ok (.getfield 23, 3) := by decide +kernel
theorem dX11_always_15 : decode cX11_always 15 = .ok (.iload_n 1, 1) := by decide +kernel
theorem dX11_always_16 : decode cX11_always 16 = .ok (.iaload, 1) := by decide +kernel
theorem dX11_always_17 : decode cX11_always 17 = .ok (.iconst 1, 1) := by decide +kernel
theorem dX11_always_18 : decode cX11_always 18 = .ok (.isub, 1) := by decide +kernel
theorem dX11_always_19 : decode cX11_always 19 = .ok (.i2l, 1) := by decide +kernel
theorem dX11_always_20 : decode cX11_always 20 = .ok (.invokestatic 332, 3) := by decide +kernel
theorem dX11_always_23 : decode cX11_always 23 = .ok (.ifCond .eq 31, 3) := by decide +kernel
theorem dX11_always_26 : decode cX11_always 26 = .ok (.iload_n 3, 1) := by decide +kernel
theorem dX11_always_27 : decode cX11_always 27 = .ok (.i2l, 1) := by decide +kernel
theorem dX11_always_28 : decode cX11_always 28 = .ok (.lconst 0, 1) := by decide +kernel
theorem dX11_always_29 : decode cX11_always 29 = .ok (.aload_n 0, 1) := by decide +kernel
theorem dX11_always_30 : decode cX11_always 30 = .ok (.getfield 23, 3) := by decide +kernel
theorem dX11_always_33 : decode cX11_always 33 = .ok (.iload_n 1, 1) := by decide +kernel
theorem dX11_always_34 : decode cX11_always 34 = .ok (.iaload, 1) := by decide +kernel
theorem dX11_always_35 : decode cX11_always 35 = .ok (.iconst 1, 1) := by decide +kernel
theorem dX11_always_36 : decode cX11_always 36 = .ok (.isub, 1) := by decide +kernel
theorem dX11_always_37 : decode cX11_always 37 = .ok (.i2l, 1) := by decide +kernel
theorem dX11_always_38 : decode cX11_always 38 = .ok (.invokestatic 332, 3) := by decide +kernel
theorem dX11_always_41 : decode cX11_always 41 = .ok (.ifCond .eq 13, 3) := by decide +kernel
theorem dX11_always_44 : decode cX11_always 44 = .ok (.aload_n 0, 1) := by decide +kernel
theorem dX11_always_45 : decode cX11_always 45 = .ok (.iload_n 1, 1) := by decide +kernel
theorem dX11_always_46 : decode cX11_always 46 = .ok (.iload_n 2, 1) := by decide +kernel
theorem dX11_always_47 : decode cX11_always 47 = .ok (.iload_n 3, 1) := by decide +kernel
theorem dX11_always_48 : decode cX11_always 48 = .ok (.invokevirtual 872, 3) := by decide +kernel
theorem dX11_always_51 : decode cX11_always 51 = .ok (.goto 5, 3) := by decide +kernel
theorem dX11_always_54 : decode cX11_always 54 = .ok (.bipush (-9), 2) := by decide +kernel
theorem dX11_always_56 : decode cX11_always 56 = .ok (.ireturn, 1) := by decide +kernel
theorem dX11_seeks_0 : decode cX11_seeks 0 = .ok (.aload_n 0, 1) := by decide +kernel
theorem dX11_seeks_1 : decode cX11_seeks 1 = .ok (.getfield 315, 3) := by decide +kernel
theorem dX11_seeks_4 : decode cX11_seeks 4 = .ok (.istore 4, 2) := by decide +kernel
theorem dX11_seeks_6 : decode cX11_seeks 6 = .ok (.aload_n 0, 1) := by decide +kernel
theorem dX11_seeks_7 : decode cX11_seeks 7 = .ok (.getfield 319, 3) := by decide +kernel
theorem dX11_seeks_10 : decode cX11_seeks 10 = .ok (.istore 5, 2) := by decide +kernel
theorem dX11_seeks_12 : decode cX11_seeks 12 = .ok (.aload_n 0, 1) := by decide +kernel
theorem dX11_seeks_13 : decode cX11_seeks 13 = .ok (.iload_n 1, 1) := by decide +kernel
theorem dX11_seeks_14 : decode cX11_seeks 14 = .ok (.iload_n 2, 1) := by decide +kernel
theorem dX11_seeks_15 : decode cX11_seeks 15 = .ok (.iload_n 3, 1) := by decide +kernel
theorem dX11_seeks_16 : decode cX11_seeks 16 = .ok (.invokevirtual 875, 3) := by decide +kernel
theorem dX11_seeks_19 : decode cX11_seeks 19 = .ok (.istore 6, 2) := by decide +kernel
theorem dX11_seeks_21 : decode cX11_seeks 21 = .ok (.iload 6, 2) := by decide +kernel
theorem dX11_seeks_23 : decode cX11_seeks 23 = .ok (.iconst 1, 1) := by decide +kernel
theorem dX11_seeks_24 : decode cX11_seeks 24 = .ok (.if_icmp .ne 15, 3) := by decide +kernel
theorem dX11_seeks_27 : decode cX11_seeks 27 = .ok (.aload_n 0, 1) := by decide +kernel
theorem dX11_seeks_28 : decode cX11_seeks 28 = .ok (.iload 4, 2) := by decide +kernel
theorem dX11_seeks_30 : decode cX11_seeks 30 = .ok (.putfield 315, 3) := by decide +kernel
theorem dX11_seeks_33 : decode cX11_seeks 33 = .ok (.aload_n 0, 1) := by decide +kernel
theorem dX11_seeks_34 : decode cX11_seeks 34 = .ok (.iload 5, 2) := by decide +kernel
theorem dX11_seeks_36 : decode cX11_seeks 36 = .ok (.putfield 319, 3) := by decide +kernel
theorem dX11_seeks_39 : decode cX11_seeks 39 = .ok (.iload 6, 2) := by decide +kernel
theorem dX11_seeks_41 : decode cX11_seeks 41 = .ok (.ireturn, 1) := by decide +kernel
theorem dX11_against_0 : decode cX11_against 0 = .ok (.iload_n 1, 1) := by decide +kernel
theorem dX11_against_1 : decode cX11_against 1 = .ok (.ifCond .ne 10, 3) := by decide +kernel
theorem dX11_against_4 : decode cX11_against 4 = .ok (.aload_n 0, 1) := by decide +kernel
theorem dX11_against_5 : decode cX11_against 5 = .ok (.getfield 315, 3) := by decide +kernel
theorem dX11_against_8 : decode cX11_against 8 = .ok (.goto 16, 3) := by decide +kernel
theorem dX11_against_11 : decode cX11_against 11 = .ok (.iload_n 1, 1) := by decide +kernel
theorem dX11_against_12 : decode cX11_against 12 = .ok (.iconst 1, 1) := by decide +kernel
theorem dX11_against_13 : decode cX11_against 13 = .ok (.if_icmp .ne 10, 3) := by decide +kernel
theorem dX11_against_16 : decode cX11_against 16 = .ok (.aload_n 0, 1) := by decide +kernel
theorem dX11_against_17 : decode cX11_against 17 = .ok (.getfield 319, 3) := by decide +kernel
theorem dX11_against_20 : decode cX11_against 20 = .ok (.goto 4, 3) := by decide +kernel
theorem dX11_against_23 : decode cX11_against 23 = .ok (.iconst (-1), 1) := by decide +kernel
theorem dX11_against_24 : decode cX11_against 24 = .ok (.ireturn, 1) := by decide +kernel
theorem dX11_count_0 : decode cX11_count 0 = .ok (.iload_n 1, 1) := by decide +kernel
theorem dX11_count_1 : decode cX11_count 1 = .ok (.ifCond .ne 10, 3) := by decide +kernel
theorem dX11_count_4 : decode cX11_count 4 = .ok (.aload_n 0, 1) := by decide +kernel
theorem dX11_count_5 : decode cX11_count 5 = .ok (.getfield 709, 3) := by decide +kernel
theorem dX11_count_8 : decode cX11_count 8 = .ok (.goto 28, 3) := by decide +kernel
theorem dX11_count_11 : decode cX11_count 11 = .ok (.iload_n 1, 1) := by decide +kernel
theorem dX11_count_12 : decode cX11_count 12 = .ok (.iconst 1, 1) := by decide +kernel
theorem dX11_count_13 : decode cX11_count 13 = .ok (.if_icmp .ne 10, 3) := by decide +kernel
theorem dX11_count_16 : decode cX11_count 16 = .ok (.aload_n 0, 1) := by decide +kernel
theorem dX11_count_17 : decode cX11_count 17 = .ok (.getfield 789, 3) := by decide +kernel
theorem dX11_count_20 : decode cX11_count 20 = .ok (.goto 16, 3) := by decide +kernel
theorem dX11_count_23 : decode cX11_count 23 = .ok (.iload_n 1, 1) := by decide +kernel
theorem dX11_count_24 : decode cX11_count 24 = .ok (.iconst 2, 1) := by decide +kernel
theorem dX11_count_25 : decode cX11_count 25 = .ok (.if_icmp .ne 10, 3) := by decide +kernel
theorem dX11_count_28 : decode cX11_count 28 = .ok (.aload_n 0, 1) := by decide +kernel
theorem dX11_count_29 : decode cX11_count 29 = .ok (.getfield 325, 3) := by decide +kernel
theorem dX11_count_32 : decode cX11_count 32 = .ok (.goto 4, 3) := by decide +kernel
theorem dX11_count_35 : decode cX11_count 35 = .ok (.iconst (-1), 1) := by decide +kernel
theorem dX11_count_36 : decode cX11_count 36 = .ok (.ireturn, 1) := by decide +kernel
theorem dX11_clear_0 : decode cX11_clear 0 = .ok (.aload_n 0, 1) := by decide +kernel
theorem dX11_clear_1 : decode cX11_clear 1 = .ok (.getfield 709, 3) := by decide +kernel
theorem dX11_clear_4 : decode cX11_clear 4 = .ok (.istore_n 1, 1) := by decide +kernel
theorem dX11_clear_5 : decode cX11_clear 5 = .ok (.aload_n 0, 1) := by decide +kernel
theorem dX11_clear_6 : decode cX11_clear 6 = .ok (.iconst 0, 1) := by decide +kernel
theorem dX11_clear_7 : decode cX11_clear 7 = .ok (.putfield 709, 3) := by decide +kernel
theorem dX11_clear_10 : decode cX11_clear 10 = .ok (.aload_n 0, 1) := by decide +kernel
theorem dX11_clear_11 : decode cX11_clear 11 = .ok (.iconst 0, 1) := by decide +kernel
theorem dX11_clear_12 : decode cX11_clear 12 = .ok (.putfield 789, 3) := by decide +kernel
theorem dX11_clear_15 : decode cX11_clear 15 = .ok (.iload_n 1, 1) := by decide +kernel
theorem dX11_clear_16 : decode cX11_clear 16 = .ok (.ireturn, 1) := by decide +kernel
