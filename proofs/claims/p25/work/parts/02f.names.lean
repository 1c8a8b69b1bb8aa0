theorem dL_acts_100 : decode cL_acts 100 = .ok (.if_icmp .eq 61, 3) := by decide +kernel
theorem dL_acts_103 : decode cL_acts 103 = .ok (.iload 6, 2) := by decide +kernel
theorem dL_acts_105 : decode cL_acts 105 = .ok (.iconst (-1), 1) := by decide +kernel
theorem dL_acts_106 : decode cL_acts 106 = .ok (.if_icmp .ne 24, 3) := by decide +kernel
theorem dL_acts_109 : decode cL_acts 109 = .ok (.aload_n 0, 1) := by decide +kernel
theorem dL_acts_110 : decode cL_acts 110 = .ok (.iload 5, 2) := by decide +kernel
theorem dL_acts_112 : decode cL_acts 112 = .ok (.invokevirtual 73, 3) := by decide +kernel
theorem dL_acts_115 : decode cL_acts 115 = .ok (.ldc 76, 2) := by decide +kernel
theorem dL_acts_117 : decode cL_acts 117 = .ok (.if_icmp .ne 13, 3) := by decide +kernel
theorem dL_acts_120 : decode cL_acts 120 = .ok (.aload_n 0, 1) := by decide +kernel
theorem dL_acts_121 : decode cL_acts 121 = .ok (.iconst 0, 1) := by decide +kernel
theorem dL_acts_122 : decode cL_acts 122 = .ok (.invokevirtual 13, 3) := by decide +kernel
theorem dL_acts_125 : decode cL_acts 125 = .ok (.iload 4, 2) := by decide +kernel
theorem dL_acts_127 : decode cL_acts 127 = .ok (.if_icmp .eq 34, 3) := by decide +kernel
theorem dL_acts_130 : decode cL_acts 130 = .ok (.iload 6, 2) := by decide +kernel
theorem dL_acts_132 : decode cL_acts 132 = .ok (.bipush (-2), 2) := by decide +kernel
theorem dL_acts_134 : decode cL_acts 134 = .ok (.if_icmp .ne 13, 3) := by decide +kernel
theorem dL_acts_137 : decode cL_acts 137 = .ok (.aload_n 0, 1) := by decide +kernel
theorem dL_acts_138 : decode cL_acts 138 = .ok (.iconst 0, 1) := by decide +kernel
theorem dL_acts_139 : decode cL_acts 139 = .ok (.invokevirtual 13, 3) := by decide +kernel
theorem dL_acts_142 : decode cL_acts 142 = .ok (.iload 4, 2) := by decide +kernel
theorem dL_acts_144 : decode cL_acts 144 = .ok (.if_icmp .eq 17, 3) := by decide +kernel
theorem dL_acts_147 : decode cL_acts 147 = .ok (.iload 6, 2) := by decide +kernel
theorem dL_acts_149 : decode cL_acts 149 = .ok (.ldc 67, 2) := by decide +kernel
theorem dL_acts_151 : decode cL_acts 151 = .ok (.if_icmp .ne 14, 3) := by decide +kernel
theorem dL_acts_154 : decode cL_acts 154 = .ok (.iload 4, 2) := by decide +kernel
theorem dL_acts_156 : decode cL_acts 156 = .ok (.bipush 40, 2) := by decide +kernel
theorem dL_acts_158 : decode cL_acts 158 = .ok (.if_icmp .ne 7, 3) := by decide +kernel
theorem dL_acts_161 : decode cL_acts 161 = .ok (.iconst 1, 1) := by decide +kernel
theorem dL_acts_162 : decode cL_acts 162 = .ok (.goto 4, 3) := by decide +kernel
theorem dL_acts_165 : decode cL_acts 165 = .ok (.iconst 0, 1) := by decide +kernel
theorem dL_acts_166 : decode cL_acts 166 = .ok (.ireturn, 1) := by decide +kernel
theorem dL_acts_167 : decode cL_acts 167 = .ok (.iload_n 3, 1) := by decide +kernel
theorem dL_acts_168 : decode cL_acts 168 = .ok (.bipush 6, 2) := by decide +kernel
theorem dL_acts_170 : decode cL_acts 170 = .ok (.if_icmp .ne 81, 3) := by decide +kernel
theorem dL_acts_173 : decode cL_acts 173 = .ok (.iload_n 2, 1) := by decide +kernel
theorem dL_acts_174 : decode cL_acts 174 = .ok (.bipush 7, 2) := by decide +kernel
theorem dL_acts_176 : decode cL_acts 176 = .ok (.invokestatic 52, 3) := by decide +kernel
theorem dL_acts_179 : decode cL_acts 179 = .ok (.istore 5, 2) := by decide +kernel
theorem dL_acts_181 : decode cL_acts 181 = .ok (.iload_n 2, 1) := by decide +kernel
theorem dL_acts_182 : decode cL_acts 182 = .ok (.iconst 3, 1) := by decide +kernel
theorem dL_acts_183 : decode cL_acts 183 = .ok (.ishr, 1) := by decide +kernel
theorem dL_acts_184 : decode cL_acts 184 = .ok (.bipush 7, 2) := by decide +kernel
theorem dL_acts_186 : decode cL_acts 186 = .ok (.invokestatic 52, 3) := by decide +kernel
theorem dL_acts_189 : decode cL_acts 189 = .ok (.istore 6, 2) := by decide +kernel
theorem dL_acts_191 : decode cL_acts 191 = .ok (.aload_n 0, 1) := by decide +kernel
theorem dL_acts_192 : decode cL_acts 192 = .ok (.bipush 10, 2) := by decide +kernel
theorem dL_acts_194 : decode cL_acts 194 = .ok (.iload 5, 2) := by decide +kernel
theorem dL_acts_196 : decode cL_acts 196 = .ok (.bipush 6, 2) := by decide +kernel
theorem dL_acts_198 : decode cL_acts 198 = .ok (.if_icmp .ne 7, 3) := by decide +kernel
theorem dL_acts_201 : decode cL_acts 201 = .ok (.iconst 0, 1) := by decide +kernel
theorem dL_acts_202 : decode cL_acts 202 = .ok (.goto 5, 3) := by decide +kernel
theorem dL_acts_205 : decode cL_acts 205 = .ok (.iload 5, 2) := by decide +kernel
theorem dL_acts_207 : decode cL_acts 207 = .ok (.iadd, 1) := by decide +kernel
theorem dL_acts_208 : decode cL_acts 208 = .ok (.invokevirtual 13, 3) := by decide +kernel
theorem dL_acts_211 : decode cL_acts 211 = .ok (.istore 7, 2) := by decide +kernel
theorem dL_acts_213 : decode cL_acts 213 = .ok (.aload_n 0, 1) := by decide +kernel
theorem dL_acts_214 : decode cL_acts 214 = .ok (.iload 5, 2) := by decide +kernel
theorem dL_acts_216 : decode cL_acts 216 = .ok (.iload 6, 2) := by decide +kernel
theorem dL_acts_218 : decode cL_acts 218 = .ok (.invokevirtual 77, 3) := by decide +kernel
theorem dL_acts_221 : decode cL_acts 221 = .ok (.iload 5, 2) := by decide +kernel
theorem dL_acts_223 : decode cL_acts 223 = .ok (.bipush 6, 2) := by decide +kernel
theorem dL_acts_225 : decode cL_acts 225 = .ok (.if_icmp .eq 10, 3) := by decide +kernel
theorem dL_acts_228 : decode cL_acts 228 = .ok (.iload 6, 2) := by decide +kernel
theorem dL_acts_230 : decode cL_acts 230 = .ok (.bipush 6, 2) := by decide +kernel
theorem dL_acts_232 : decode cL_acts 232 = .ok (.if_icmp .ne 8, 3) := by decide +kernel
theorem dL_acts_235 : decode cL_acts 235 = .ok (.ldc 72, 2) := by decide +kernel
theorem dL_acts_237 : decode cL_acts 237 = .ok (.goto 5, 3) := by decide +kernel
theorem dL_acts_240 : decode cL_acts 240 = .ok (.iload 7, 2) := by decide +kernel
theorem dL_acts_242 : decode cL_acts 242 = .ok (.if_icmp .ne 7, 3) := by decide +kernel
theorem dL_acts_245 : decode cL_acts 245 = .ok (.iconst 1, 1) := by decide +kernel
theorem dL_acts_246 : decode cL_acts 246 = .ok (.goto 4, 3) := by decide +kernel
theorem dL_acts_249 : decode cL_acts 249 = .ok (.iconst 0, 1) := by decide +kernel
theorem dL_acts_250 : decode cL_acts 250 = .ok (.ireturn, 1) := by decide +kernel
theorem dL_acts_251 : decode cL_acts 251 = .ok (.iload_n 3, 1) := by decide +kernel
theorem dL_acts_252 : decode cL_acts 252 = .ok (.bipush 7, 2) := by decide +kernel
theorem dL_acts_254 : decode cL_acts 254 = .ok (.if_icmp .ne 52, 3) := by decide +kernel
theorem dL_acts_257 : decode cL_acts 257 = .ok (.iload_n 2, 1) := by decide +kernel
theorem dL_acts_258 : decode cL_acts 258 = .ok (.bipush 11, 2) := by decide +kernel
theorem dL_acts_260 : decode cL_acts 260 = .ok (.invokestatic 52, 3) := by decide +kernel
theorem dL_acts_263 : decode cL_acts 263 = .ok (.istore 5, 2) := by decide +kernel
theorem dL_acts_265 : decode cL_acts 265 = .ok (.aload_n 0, 1) := by decide +kernel
theorem dL_acts_266 : decode cL_acts 266 = .ok (.iconst 5, 1) := by decide +kernel
theorem dL_acts_267 : decode cL_acts 267 = .ok (.invokevirtual 13, 3) := by decide +kernel
theorem dL_acts_270 : decode cL_acts 270 = .ok (.istore 6, 2) := by decide +kernel
theorem dL_acts_272 : decode cL_acts 272 = .ok (.aload_n 0, 1) := by decide +kernel
theorem dL_acts_273 : decode cL_acts 273 = .ok (.iload 5, 2) := by decide +kernel
theorem dL_acts_275 : decode cL_acts 275 = .ok (.invokevirtual 80, 3) := by decide +kernel
theorem dL_acts_278 : decode cL_acts 278 = .ok (.iload 5, 2) := by decide +kernel
theorem dL_acts_280 : decode cL_acts 280 = .ok (.ifCond .eq 10, 3) := by decide +kernel
theorem dL_acts_283 : decode cL_acts 283 = .ok (.iload 5, 2) := by decide +kernel
theorem dL_acts_285 : decode cL_acts 285 = .ok (.bipush 10, 2) := by decide +kernel
theorem dL_acts_287 : decode cL_acts 287 = .ok (.if_icmp .ne 8, 3) := by decide +kernel
theorem dL_acts_290 : decode cL_acts 290 = .ok (.ldc 72, 2) := by decide +kernel
theorem dL_acts_292 : decode cL_acts 292 = .ok (.goto 5, 3) := by decide +kernel
theorem dL_acts_295 : decode cL_acts 295 = .ok (.iload 6, 2) := by decide +kernel
theorem dL_acts_297 : decode cL_acts 297 = .ok (.if_icmp .ne 7, 3) := by decide +kernel
theorem dL_acts_300 : decode cL_acts 300 = .ok (.iconst 1, 1) := by decide +kernel
theorem dL_acts_301 : decode cL_acts 301 = .ok (.goto 4, 3) := by decide +kernel
theorem dL_acts_304 : decode cL_acts 304 = .ok (.iconst 0, 1) := by decide +kernel
theorem dL_acts_305 : decode cL_acts 305 = .ok (.ireturn, 1) := by decide +kernel
theorem dL_acts_306 : decode cL_acts 306 = .ok (.iload_n 3, 1) := by decide +kernel
theorem dL_acts_307 : decode cL_acts 307 = .ok (.bipush 8, 2) := by decide +kernel
theorem dL_acts_309 : decode cL_acts 309 = .ok (.if_icmp .ne 42, 3) := by decide +kernel
theorem dL_acts_312 : decode cL_acts 312 = .ok (.iload_n 2, 1) := by decide +kernel
theorem dL_acts_313 : decode cL_acts 313 = .ok (.iconst 3, 1) := by decide +kernel
theorem dL_acts_314 : decode cL_acts 314 = .ok (.invokestatic 52, 3) := by decide +kernel
theorem dL_acts_317 : decode cL_acts 317 = .ok (.ifCond .ne 34, 3) := by decide +kernel
theorem dL_acts_320 : decode cL_acts 320 = .ok (.aload_n 0, 1) := by decide +kernel
theorem dL_acts_321 : decode cL_acts 321 = .ok (.invokevirtual 83, 3) := by decide +kernel
theorem dL_acts_324 : decode cL_acts 324 = .ok (.iload 4, 2) := by decide +kernel
theorem dL_acts_326 : decode cL_acts 326 = .ok (.if_icmp .ne 23, 3) := by decide +kernel
theorem dL_acts_329 : decode cL_acts 329 = .ok (.aload_n 0, 1) := by decide +kernel
theorem dL_acts_330 : decode cL_acts 330 = .ok (.iconst 0, 1) := by decide +kernel
theorem dL_acts_331 : decode cL_acts 331 = .ok (.invokevirtual 13, 3) := by decide +kernel
theorem dL_acts_334 : decode cL_acts 334 = .ok (.ifCond .ne 15, 3) := by decide +kernel
theorem dL_acts_337 : decode cL_acts 337 = .ok (.aload_n 0, 1) := by decide +kernel
theorem dL_acts_338 : decode cL_acts 338 = .ok (.iconst 4, 1) := by decide +kernel
theorem dL_acts_339 : decode cL_acts 339 = .ok (.invokevirtual 13, 3) := by decide +kernel
theorem dL_acts_342 : decode cL_acts 342 = .ok (.ifCond .ne 7, 3) := by decide +kernel
theorem dL_acts_345 : decode cL_acts 345 = .ok (.iconst 1, 1) := by decide +kernel
theorem dL_acts_346 : decode cL_acts 346 = .ok (.goto 4, 3) := by decide +kernel
theorem dL_acts_349 : decode cL_acts 349 = .ok (.iconst 0, 1) := by decide +kernel
theorem dL_acts_350 : decode cL_acts 350 = .ok (.ireturn, 1) := by decide +kernel
theorem dL_acts_351 : decode cL_acts 351 = .ok (.aload_n 0, 1) := by decide +kernel
theorem dL_acts_352 : decode cL_acts 352 = .ok (.iconst 4, 1) := by decide +kernel
theorem dL_acts_353 : decode cL_acts 353 = .ok (.invokevirtual 13, 3) := by decide +kernel
theorem dL_acts_356 : decode cL_acts 356 = .ok (.istore 5, 2) := by decide +kernel
theorem dL_acts_358 : decode cL_acts 358 = .ok (.iload_n 3, 1) := by decide +kernel
theorem dL_acts_359 : decode cL_acts 359 = .ok (.bipush 12, 2) := by decide +kernel
theorem dL_acts_361 : decode cL_acts 361 = .ok (.if_icmp .ge 79, 3) := by decide +kernel
theorem dL_acts_364 : decode cL_acts 364 = .ok (.aload_n 0, 1) := by decide +kernel
theorem dL_acts_365 : decode cL_acts 365 = .ok (.invokevirtual 86, 3) := by decide +kernel
theorem dL_acts_368 : decode cL_acts 368 = .ok (.istore 6, 2) := by decide +kernel
theorem dL_acts_370 : decode cL_acts 370 = .ok (.iload 6, 2) := by decide +kernel
theorem dL_acts_372 : decode cL_acts 372 = .ok (.ifCond .ge 40, 3) := by decide +kernel
theorem dL_acts_375 : decode cL_acts 375 = .ok (.iload 6, 2) := by decide +kernel
theorem dL_acts_377 : decode cL_acts 377 = .ok (.ldc 67, 2) := by decide +kernel
theorem dL_acts_379 : decode cL_acts 379 = .ok (.if_icmp .eq 25, 3) := by decide +kernel
theorem dL_acts_382 : decode cL_acts 382 = .ok (.iload 6, 2) := by decide +kernel
theorem dL_acts_384 : decode cL_acts 384 = .ok (.ldc 68, 2) := by decide +kernel
theorem dL_acts_386 : decode cL_acts 386 = .ok (.if_icmp .ne 22, 3) := by decide +kernel
theorem dL_acts_389 : decode cL_acts 389 = .ok (.aload_n 0, 1) := by decide +kernel
theorem dL_acts_390 : decode cL_acts 390 = .ok (.iconst 1, 1) := by decide +kernel
theorem dL_acts_391 : decode cL_acts 391 = .ok (.invokevirtual 13, 3) := by decide +kernel
theorem dL_acts_394 : decode cL_acts 394 = .ok (.ifCond .eq 10, 3) := by decide +kernel
theorem dL_acts_397 : decode cL_acts 397 = .ok (.aload_n 0, 1) := by decide +kernel
theorem dL_acts_398 : decode cL_acts 398 = .ok (.invokevirtual 39, 3) := by decide +kernel
theorem dL_acts_401 : decode cL_acts 401 = .ok (.ifCond .lt 7, 3) := by decide +kernel
theorem dL_acts_404 : decode cL_acts 404 = .ok (.iconst 1, 1) := by decide +kernel
theorem dL_acts_405 : decode cL_acts 405 = .ok (.goto 34, 3) := by decide +kernel
theorem dL_acts_408 : decode cL_acts 408 = .ok (.iconst 0, 1) := by decide +kernel
theorem dL_acts_409 : decode cL_acts 409 = .ok (.goto 30, 3) := by decide +kernel
theorem dL_acts_412 : decode cL_acts 412 = .ok (.aload_n 0, 1) := by decide +kernel
theorem dL_acts_413 : decode cL_acts 413 = .ok (.iload 6, 2) := by decide +kernel
theorem dL_acts_415 : decode cL_acts 415 = .ok (.iconst 1, 1) := by decide +kernel
theorem dL_acts_416 : decode cL_acts 416 = .ok (.invokevirtual 19, 3) := by decide +kernel
theorem dL_acts_419 : decode cL_acts 419 = .ok (.ifCond .le 19, 3) := by decide +kernel
theorem dL_acts_422 : decode cL_acts 422 = .ok (.aload_n 0, 1) := by decide +kernel
theorem dL_acts_423 : decode cL_acts 423 = .ok (.iconst 4, 1) := by decide +kernel
theorem dL_acts_424 : decode cL_acts 424 = .ok (.invokevirtual 13, 3) := by decide +kernel
theorem dL_acts_427 : decode cL_acts 427 = .ok (.iload 5, 2) := by decide +kernel
theorem dL_acts_429 : decode cL_acts 429 = .ok (.iconst 1, 1) := by decide +kernel
theorem dL_acts_430 : decode cL_acts 430 = .ok (.iadd, 1) := by decide +kernel
theorem dL_acts_431 : decode cL_acts 431 = .ok (.if_icmp .ne 7, 3) := by decide +kernel
theorem dL_acts_434 : decode cL_acts 434 = .ok (.iconst 1, 1) := by decide +kernel
theorem dL_acts_435 : decode cL_acts 435 = .ok (.goto 4, 3) := by decide +kernel
theorem dL_acts_438 : decode cL_acts 438 = .ok (.iconst 0, 1) := by decide +kernel
theorem dL_acts_439 : decode cL_acts 439 = .ok (.ireturn, 1) := by decide +kernel
theorem dL_acts_440 : decode cL_acts 440 = .ok (.iload_n 3, 1) := by decide +kernel
theorem dL_acts_441 : decode cL_acts 441 = .ok (.bipush 12, 2) := by decide +kernel
theorem dL_acts_443 : decode cL_acts 443 = .ok (.if_icmp .ne 113, 3) := by decide +kernel
theorem dL_acts_446 : decode cL_acts 446 = .ok (.iload_n 2, 1) := by decide +kernel
theorem dL_acts_447 : decode cL_acts 447 = .ok (.bipush 13, 2) := by decide +kernel
theorem dL_acts_449 : decode cL_acts 449 = .ok (.invokestatic 52, 3) := by decide +kernel
theorem dL_acts_452 : decode cL_acts 452 = .ok (.iconst 3, 1) := by decide +kernel
theorem dL_acts_453 : decode cL_acts 453 = .ok (.imul, 1) := by decide +kernel
theorem dL_acts_454 : decode cL_acts 454 = .ok (.iload_n 2, 1) := by decide +kernel
theorem dL_acts_455 : decode cL_acts 455 = .ok (.iconst 4, 1) := by decide +kernel
theorem dL_acts_456 : decode cL_acts 456 = .ok (.ishr, 1) := by decide +kernel
theorem dL_acts_457 : decode cL_acts 457 = .ok (.bipush 6, 2) := by decide +kernel
theorem dL_acts_459 : decode cL_acts 459 = .ok (.invokestatic 52, 3) := by decide +kernel
theorem dL_acts_462 : decode cL_acts 462 = .ok (.iadd, 1) := by decide +kernel
theorem dL_acts_463 : decode cL_acts 463 = .ok (.istore 6, 2) := by decide +kernel
theorem dL_acts_465 : decode cL_acts 465 = .ok (.aload_n 0, 1) := by decide +kernel
theorem dL_acts_466 : decode cL_acts 466 = .ok (.iload 6, 2) := by decide +kernel
theorem dL_acts_468 : decode cL_acts 468 = .ok (.invokevirtual 89, 3) := by decide +kernel
theorem dL_acts_471 : decode cL_acts 471 = .ok (.istore 7, 2) := by decide +kernel
theorem dL_acts_473 : decode cL_acts 473 = .ok (.iload 6, 2) := by decide +kernel
theorem dL_acts_475 : decode cL_acts 475 = .ok (.iconst 1, 1) := by decide +kernel
theorem dL_acts_476 : decode cL_acts 476 = .ok (.if_icmp .lt 10, 3) := by decide +kernel
theorem dL_acts_479 : decode cL_acts 479 = .ok (.iload 6, 2) := by decide +kernel
theorem dL_acts_481 : decode cL_acts 481 = .ok (.bipush 40, 2) := by decide +kernel
theorem dL_acts_483 : decode cL_acts 483 = .ok (.if_icmp .le 18, 3) := by decide +kernel
theorem dL_acts_486 : decode cL_acts 486 = .ok (.iload 7, 2) := by decide +kernel
theorem dL_acts_488 : decode cL_acts 488 = .ok (.ldc 72, 2) := by decide +kernel
theorem dL_acts_490 : decode cL_acts 490 = .ok (.if_icmp .ne 7, 3) := by decide +kernel
theorem dL_acts_493 : decode cL_acts 493 = .ok (.iconst 1, 1) := by decide +kernel
theorem dL_acts_494 : decode cL_acts 494 = .ok (.goto 61, 3) := by decide +kernel
theorem dL_acts_497 : decode cL_acts 497 = .ok (.iconst 0, 1) := by decide +kernel
theorem dL_acts_498 : decode cL_acts 498 = .ok (.goto 57, 3) := by decide +kernel
theorem dL_acts_501 : decode cL_acts 501 = .ok (.iload 7, 2) := by decide +kernel
theorem dL_acts_503 : decode cL_acts 503 = .ok (.ldc 67, 2) := by decide +kernel
theorem dL_acts_505 : decode cL_acts 505 = .ok (.if_icmp .eq 45, 3) := by decide +kernel
theorem dL_acts_508 : decode cL_acts 508 = .ok (.iload 7, 2) := by decide +kernel
theorem dL_acts_510 : decode cL_acts 510 = .ok (.iload 6, 2) := by decide +kernel
theorem dL_acts_512 : decode cL_acts 512 = .ok (.if_icmp .gt 42, 3) := by decide +kernel
theorem dL_acts_515 : decode cL_acts 515 = .ok (.aload_n 0, 1) := by decide +kernel
theorem dL_acts_516 : decode cL_acts 516 = .ok (.iconst 4, 1) := by decide +kernel
theorem dL_acts_517 : decode cL_acts 517 = .ok (.invokevirtual 13, 3) := by decide +kernel
theorem dL_acts_520 : decode cL_acts 520 = .ok (.iload 5, 2) := by decide +kernel
theorem dL_acts_522 : decode cL_acts 522 = .ok (.iload 7, 2) := by decide +kernel
theorem dL_acts_524 : decode cL_acts 524 = .ok (.iadd, 1) := by decide +kernel
theorem dL_acts_525 : decode cL_acts 525 = .ok (.if_icmp .ne 29, 3) := by decide +kernel
theorem dL_acts_528 : decode cL_acts 528 = .ok (.iload 7, 2) := by decide +kernel
theorem dL_acts_530 : decode cL_acts 530 = .ok (.iload 6, 2) := by decide +kernel
theorem dL_acts_532 : decode cL_acts 532 = .ok (.if_icmp .eq 18, 3) := by decide +kernel
theorem dL_acts_535 : decode cL_acts 535 = .ok (.aload_n 0, 1) := by decide +kernel
theorem dL_acts_536 : decode cL_acts 536 = .ok (.iconst 1, 1) := by decide +kernel
theorem dL_acts_537 : decode cL_acts 537 = .ok (.invokevirtual 13, 3) := by decide +kernel
theorem dL_acts_540 : decode cL_acts 540 = .ok (.ifCond .eq 10, 3) := by decide +kernel
theorem dL_acts_543 : decode cL_acts 543 = .ok (.aload_n 0, 1) := by decide +kernel
theorem dL_acts_544 : decode cL_acts 544 = .ok (.invokevirtual 39, 3) := by decide +kernel
theorem dL_acts_547 : decode cL_acts 547 = .ok (.ifCond .lt 7, 3) := by decide +kernel
theorem dL_acts_550 : decode cL_acts 550 = .ok (.iconst 1, 1) := by decide +kernel
theorem dL_acts_551 : decode cL_acts 551 = .ok (.goto 4, 3) := by decide +kernel
theorem dL_acts_554 : decode cL_acts 554 = .ok (.iconst 0, 1) := by decide +kernel
theorem dL_acts_555 : decode cL_acts 555 = .ok (.ireturn, 1) := by decide +kernel
theorem dL_acts_556 : decode cL_acts 556 = .ok (.aload_n 0, 1) := by decide +kernel
theorem dL_acts_557 : decode cL_acts 557 = .ok (.iload_n 2, 1) := by decide +kernel
theorem dL_acts_558 : decode cL_acts 558 = .ok (.invokestatic 92, 3) := by decide +kernel
theorem dL_acts_561 : decode cL_acts 561 = .ok (.ifCond .eq 14, 3) := by decide +kernel
theorem dL_acts_564 : decode cL_acts 564 = .ok (.aload_n 0, 1) := by decide +kernel
theorem dL_acts_565 : decode cL_acts 565 = .ok (.invokestatic 96, 3) := by decide +kernel
theorem dL_acts_568 : decode cL_acts 568 = .ok (.ifCond .eq 7, 3) := by decide +kernel
theorem dL_acts_571 : decode cL_acts 571 = .ok (.iconst 1, 1) := by decide +kernel
theorem dL_acts_572 : decode cL_acts 572 = .ok (.goto 4, 3) := by decide +kernel
theorem dL_acts_575 : decode cL_acts 575 = .ok (.iconst 0, 1) := by decide +kernel
theorem dL_acts_576 : decode cL_acts 576 = .ok (.ireturn, 1) := by decide +kernel
set_option maxRecDepth 20000 in
theorem ggL_law_X3_init : GoodIn wsL_law wsX3_init := goodIn_r _ [6, 7, 8, 9, 10, 11, 12, 13, 14, 15, 16, 17, 18, 19, 20, 21, 22, 23, 24, 25, 26, 27, 28, 29, 30, 31, 32, 33, 34, 35, 36, 37, 38, 39, 40, 2, 41, 42, 43, 44, 45, 46, 47, 48, 49, 50, 51, 52, 349, 350, 351, 352, 353, 354, 355, 356, 357, 358, 359, 360, 361, 346, 347, 348, 362, 363, 364, 365] (by decide +kernel) (by decide +kernel)
set_option maxRecDepth 20000 in
theorem gL_law_X3_init : GoodIn wsL_law (wsX3_init) := ggL_law_X3_init
set_option maxRecDepth 20000 in
theorem gq_L_holds_h : GoodIn wsL_law [.code yL_holds cL_holds 12 (some .boolean)] := goodIn_r _ [56] (by decide +kernel) (by decide +kernel)
theorem gq_wsL_holds_r1 : GoodIn wsL_law wsL_holds_r1 := goodIn_r _ [57, 58, 59, 60, 61, 2, 62, 13, 17, 21, 63, 64, 12, 65, 66, 35, 28, 67, 68, 69, 70, 71, 26, 72] (by decide +kernel) (by decide +kernel)
theorem gq_wsL_holds_r2 : GoodIn wsL_law wsL_holds_r2 := goodIn_r _ [73, 74, 75, 76, 77, 78, 79, 80, 81, 82, 83, 84, 85, 86, 87, 88, 89, 90, 91, 92, 93, 94, 95, 96] (by decide +kernel) (by decide +kernel)
theorem gq_wsL_holds_r3 : GoodIn wsL_law wsL_holds_r3 := goodIn_r _ [27, 97, 98, 99, 100, 101, 102, 103, 104, 105, 106, 107, 108, 109, 110, 111, 112, 113, 114, 115, 116, 117, 118, 119] (by decide +kernel) (by decide +kernel)
theorem gq_wsL_holds_r4 : GoodIn wsL_law wsL_holds_r4 := goodIn_r _ [29, 120, 121, 122, 123, 124, 125, 34, 126, 127, 128, 129, 130, 131, 132, 133, 134, 135, 136, 137, 138, 139, 140, 141] (by decide +kernel) (by decide +kernel)
theorem gq_wsL_holds_r5 : GoodIn wsL_law wsL_holds_r5 := goodIn_r _ [142, 143, 144, 145, 146, 147, 30, 148, 149, 150, 151, 152, 153, 154, 155, 156, 157, 158, 159, 160, 161, 162, 163, 164] (by decide +kernel) (by decide +kernel)
theorem gq_wsL_holds_r6 : GoodIn wsL_law wsL_holds_r6 := goodIn_r _ [165, 166, 167] (by decide +kernel) (by decide +kernel)
theorem gq_L_holds_wsX30 : GoodIn wsL_law wsX30 := goodIn_r _ [346, 347, 348] (by decide +kernel) (by decide +kernel)
theorem gq_L_holds_wsX10 : GoodIn wsL_law wsX10 := goodIn_r _ [349, 350, 351, 352, 353, 354, 355, 356, 357, 358, 359, 360, 361] (by decide +kernel) (by decide +kernel)
theorem gq_L_holds_wsX00 : GoodIn wsL_law wsX00 := goodIn_r _ [362, 363] (by decide +kernel) (by decide +kernel)
theorem gq_L_holds_wsX20 : GoodIn wsL_law wsX20 := goodIn_r _ [364, 365] (by decide +kernel) (by decide +kernel)
theorem ggL_law_L_holds : GoodIn wsL_law wsL_holds := goodIn_app (a := [.code yL_holds cL_holds 12 (some .boolean)]) gq_L_holds_h (goodIn_app (goodIn_app (goodIn_app (goodIn_app (goodIn_app gq_wsL_holds_r1 (goodIn_app gq_wsL_holds_r2 (goodIn_app gq_wsL_holds_r3 (goodIn_app gq_wsL_holds_r4 (goodIn_app gq_wsL_holds_r5 gq_wsL_holds_r6))))) gq_L_holds_wsX30) gq_L_holds_wsX10) gq_L_holds_wsX00) gq_L_holds_wsX20)
set_option maxRecDepth 20000 in
theorem gL_law_L_holds : GoodIn wsL_law (va_wsS RL 101 yL_holds wsL_holds) := goodIn_app (goodIn_of _ (by decide +kernel)) ggL_law_L_holds
set_option maxRecDepth 20000 in
theorem ggL_law_X3_undo : GoodIn wsL_law wsX3_undo := goodIn_r _ [171, 17, 13, 172, 173, 16, 174, 175, 47, 176, 177, 178, 179, 46, 180, 12, 181, 182, 26, 27, 28, 29, 30, 31, 32, 34, 35, 36, 37, 38, 39, 183, 2, 184, 185, 186, 187, 188, 189, 190, 191, 192, 193, 194, 346, 347, 348, 362, 363, 349, 350, 351, 352, 353, 354, 355, 356, 357, 358, 359, 360, 361] (by decide +kernel) (by decide +kernel)
set_option maxRecDepth 20000 in
theorem gL_law_X3_undo : GoodIn wsL_law (wsV RL 104 RX3 yX3_undo wsX3_undo) := goodIn_app (goodIn_of _ (by decide +kernel)) ggL_law_X3_undo
set_option maxRecDepth 20000 in
theorem ggL_law_L_lot : GoodIn wsL_law wsL_lot := goodIn_r _ [197, 198] (by decide +kernel) (by decide +kernel)
set_option maxRecDepth 20000 in
theorem gL_law_L_lot : GoodIn wsL_law (va_wsS RL 107 yL_lot wsL_lot) := goodIn_app (goodIn_of _ (by decide +kernel)) ggL_law_L_lot
set_option maxRecDepth 20000 in
theorem gq_L_digest_h : GoodIn wsL_law [.code yL_digest cL_digest 4 (some .long)] := goodIn_r _ [201] (by decide +kernel) (by decide +kernel)
theorem gq_wsL_digest_r1 : GoodIn wsL_law wsL_digest_r1 := goodIn_r _ [202, 203, 204, 205, 206, 59, 60, 61, 2, 62, 13, 17, 21, 63, 64, 12, 65, 66, 35, 28, 67, 68, 69, 70] (by decide +kernel) (by decide +kernel)
theorem gq_wsL_digest_r2 : GoodIn wsL_law wsL_digest_r2 := goodIn_r _ [71, 26, 72, 73, 74, 75, 76, 77, 78, 79, 80, 81, 82, 83, 84, 85, 86, 87, 88, 89, 90, 91, 92, 93] (by decide +kernel) (by decide +kernel)
theorem gq_wsL_digest_r3 : GoodIn wsL_law wsL_digest_r3 := goodIn_r _ [94, 95, 96, 27, 97, 98, 99, 100, 101, 102, 103, 104, 105, 106, 107, 148, 149, 150, 151, 113, 114, 115, 116, 117] (by decide +kernel) (by decide +kernel)
theorem gq_wsL_digest_r4 : GoodIn wsL_law wsL_digest_r4 := goodIn_r _ [118, 119, 29, 120, 121, 122, 123, 124, 125, 34, 126, 127, 152, 153, 154, 155, 156, 157, 158] (by decide +kernel) (by decide +kernel)
theorem gq_L_digest_wsX30 : GoodIn wsL_law wsX30 := goodIn_r _ [346, 347, 348] (by decide +kernel) (by decide +kernel)
theorem gq_L_digest_wsX10 : GoodIn wsL_law wsX10 := goodIn_r _ [349, 350, 351, 352, 353, 354, 355, 356, 357, 358, 359, 360, 361] (by decide +kernel) (by decide +kernel)
theorem gq_L_digest_wsX00 : GoodIn wsL_law wsX00 := goodIn_r _ [362, 363] (by decide +kernel) (by decide +kernel)
theorem gq_L_digest_wsX20 : GoodIn wsL_law wsX20 := goodIn_r _ [364, 365] (by decide +kernel) (by decide +kernel)
theorem ggL_law_L_digest : GoodIn wsL_law wsL_digest := goodIn_app (a := [.code yL_digest cL_digest 4 (some .long)]) gq_L_digest_h (goodIn_app (goodIn_app (goodIn_app (goodIn_app (goodIn_app gq_wsL_digest_r1 (goodIn_app gq_wsL_digest_r2 (goodIn_app gq_wsL_digest_r3 gq_wsL_digest_r4))) gq_L_digest_wsX30) gq_L_digest_wsX10) gq_L_digest_wsX00) gq_L_digest_wsX20)
set_option maxRecDepth 20000 in
theorem gL_law_L_digest : GoodIn wsL_law (va_wsS RL 111 yL_digest wsL_digest) := goodIn_app (goodIn_of _ (by decide +kernel)) ggL_law_L_digest
set_option maxRecDepth 20000 in
theorem ggL_law_X3_count : GoodIn wsL_law wsX3_count := goodIn_r _ [62, 13, 17, 21, 63, 64, 12, 65, 66, 35, 28, 67, 2, 68, 69, 70, 71, 26, 346, 347, 348, 349, 350, 351, 352, 353, 354, 355, 356, 357, 358, 359, 360, 361, 362, 363, 364, 365] (by decide +kernel) (by decide +kernel)
set_option maxRecDepth 20000 in
theorem gL_law_X3_count : GoodIn wsL_law (wsV RL 13 RX3 yX3_count wsX3_count) := goodIn_app (goodIn_of _ (by decide +kernel)) ggL_law_X3_count
set_option maxRecDepth 20000 in
theorem gq_L_acts_h : GoodIn wsL_law [.code yL_acts cL_acts 8 (some .boolean)] := goodIn_r _ [209] (by decide +kernel) (by decide +kernel)
theorem gq_wsL_acts_r1 : GoodIn wsL_law wsL_acts_r1 := goodIn_r _ [210, 211, 212, 3, 213, 214, 55, 215, 216, 59, 60, 61, 2, 62, 13, 17, 21, 63, 64, 12, 65, 66, 35, 28] (by decide +kernel) (by decide +kernel)
theorem gq_wsL_acts_r2 : GoodIn wsL_law wsL_acts_r2 := goodIn_r _ [67, 68, 69, 70, 71, 26, 217, 218, 219, 220, 221, 16, 222, 223, 47, 176, 177, 178, 179, 46, 180, 181, 182, 27] (by decide +kernel) (by decide +kernel)
theorem gq_wsL_acts_r3 : GoodIn wsL_law wsL_acts_r3 := goodIn_r _ [29, 30, 31, 32, 34, 36, 37, 38, 39, 183, 184, 185, 186, 187, 188, 189, 190, 191, 192, 193, 194, 224, 225, 226] (by decide +kernel) (by decide +kernel)
theorem gq_wsL_acts_r4 : GoodIn wsL_law wsL_acts_r4 := goodIn_r _ [227, 228, 229, 230, 231, 232, 233, 97, 98, 99, 100, 234, 235, 236, 237, 238, 239, 40, 41, 240, 241, 242, 243, 244] (by decide +kernel) (by decide +kernel)
theorem gq_wsL_acts_r5 : GoodIn wsL_law wsL_acts_r5 := goodIn_r _ [245, 246, 129, 130, 131, 112, 132, 126, 127, 247, 248, 249, 250, 251, 252, 253, 254, 255, 256, 257, 258, 259, 260, 261] (by decide +kernel) (by decide +kernel)
theorem gq_wsL_acts_r6 : GoodIn wsL_law wsL_acts_r6 := goodIn_r _ [262, 263, 264, 265, 266, 128, 152, 153, 154, 155, 156, 157, 158, 267, 268, 269, 270, 271, 272, 273, 274, 275, 276, 277] (by decide +kernel) (by decide +kernel)
theorem gq_wsL_acts_r7 : GoodIn wsL_law wsL_acts_r7 := goodIn_r _ [278, 279, 280, 281, 282, 283, 284, 285, 286, 287, 288, 289, 290, 291, 292, 293, 294, 295, 137, 138, 139, 296, 297, 298] (by decide +kernel) (by decide +kernel)
theorem gq_wsL_acts_r8 : GoodIn wsL_law wsL_acts_r8 := goodIn_r _ [299, 300, 88, 89, 90, 91, 92, 93, 301, 302, 303, 304, 105, 80, 81, 82, 305, 133, 134, 135, 136, 83, 84, 85] (by decide +kernel) (by decide +kernel)
theorem gq_wsL_acts_r9 : GoodIn wsL_law wsL_acts_r9 := goodIn_r _ [86, 72, 73, 74, 75, 76, 77, 78, 79, 87, 94, 95, 96, 101, 102, 103, 104, 106, 107, 306, 307, 308, 309, 310] (by decide +kernel) (by decide +kernel)
theorem gq_wsL_acts_r10 : GoodIn wsL_law wsL_acts_r10 := goodIn_r _ [172, 311, 312, 313, 314, 315, 316, 317, 318, 319, 320, 321, 322, 20, 323, 324, 52, 51, 325, 326, 327, 57, 328, 329] (by decide +kernel) (by decide +kernel)
theorem gq_wsL_acts_r11 : GoodIn wsL_law wsL_acts_r11 := goodIn_r _ [330, 331, 332, 333, 334, 335, 336, 337, 338, 339, 340, 341, 342, 343, 344, 345] (by decide +kernel) (by decide +kernel)
theorem gq_L_acts_wsX30 : GoodIn wsL_law wsX30 := goodIn_r _ [346, 347, 348] (by decide +kernel) (by decide +kernel)
theorem gq_L_acts_wsX10 : GoodIn wsL_law wsX10 := goodIn_r _ [349, 350, 351, 352, 353, 354, 355, 356, 357, 358, 359, 360, 361] (by decide +kernel) (by decide +kernel)
theorem gq_L_acts_wsX00 : GoodIn wsL_law wsX00 := goodIn_r _ [362, 363] (by decide +kernel) (by decide +kernel)
theorem gq_L_acts_wsX20 : GoodIn wsL_law wsX20 := goodIn_r _ [364, 365] (by decide +kernel) (by decide +kernel)
theorem ggL_law_L_acts : GoodIn wsL_law wsL_acts := goodIn_app (a := [.code yL_acts cL_acts 8 (some .boolean)]) gq_L_acts_h (goodIn_app (goodIn_app (goodIn_app (goodIn_app (goodIn_app gq_wsL_acts_r1 (goodIn_app gq_wsL_acts_r2 (goodIn_app gq_wsL_acts_r3 (goodIn_app gq_wsL_acts_r4 (goodIn_app gq_wsL_acts_r5 (goodIn_app gq_wsL_acts_r6 (goodIn_app gq_wsL_acts_r7 (goodIn_app gq_wsL_acts_r8 (goodIn_app gq_wsL_acts_r9 (goodIn_app gq_wsL_acts_r10 gq_wsL_acts_r11)))))))))) gq_L_acts_wsX30) gq_L_acts_wsX10) gq_L_acts_wsX00) gq_L_acts_wsX20)
set_option maxRecDepth 20000 in
theorem gL_law_L_acts : GoodIn wsL_law (va_wsS RL 115 yL_acts wsL_acts) := goodIn_app (goodIn_of _ (by decide +kernel)) ggL_law_L_acts
set_option maxRecDepth 20000 in
theorem ggL_law_L_low : GoodIn wsL_law wsL_low := goodIn_r _ [215, 216] (by decide +kernel) (by decide +kernel)
set_option maxRecDepth 20000 in
theorem gL_law_L_low : GoodIn wsL_law (va_wsS RL 52 yL_low wsL_low) := goodIn_app (goodIn_of _ (by decide +kernel)) ggL_law_L_low
theorem dL_law_0 : decode cL_law 0 = .ok (.new 14, 3) := by decide +kernel
theorem dL_law_3 : decode cL_law 3 = .ok (.dup, 1) := by decide +kernel
theorem dL_law_4 : decode cL_law 4 = .ok (.invokespecial 100, 3) := by decide +kernel
theorem dL_law_7 : decode cL_law 7 = .ok (.astore_n 1, 1) := by decide +kernel
theorem dL_law_8 : decode cL_law 8 = .ok (.aload_n 1, 1) := by decide +kernel
theorem dL_law_9 : decode cL_law 9 = .ok (.invokestatic 101, 3) := by decide +kernel
theorem dL_law_12 : decode cL_law 12 = .ok (.ifCond .eq 16, 3) := by decide +kernel
theorem dL_law_15 : decode cL_law 15 = .ok (.aload_n 1, 1) := by decide +kernel
theorem dL_law_16 : decode cL_law 16 = .ok (.invokevirtual 104, 3) := by decide +kernel
theorem dL_law_19 : decode cL_law 19 = .ok (.ldc 68, 2) := by decide +kernel
theorem dL_law_21 : decode cL_law 21 = .ok (.if_icmp .ne 7, 3) := by decide +kernel
theorem dL_law_24 : decode cL_law 24 = .ok (.iconst 1, 1) := by decide +kernel
theorem dL_law_25 : decode cL_law 25 = .ok (.goto 4, 3) := by decide +kernel
theorem dL_law_28 : decode cL_law 28 = .ok (.iconst 0, 1) := by decide +kernel
theorem dL_law_29 : decode cL_law 29 = .ok (.istore_n 2, 1) := by decide +kernel
theorem dL_law_30 : decode cL_law 30 = .ok (.iconst 0, 1) := by decide +kernel
theorem dL_law_31 : decode cL_law 31 = .ok (.istore_n 3, 1) := by decide +kernel
theorem dL_law_32 : decode cL_law 32 = .ok (.iload_n 3, 1) := by decide +kernel
theorem dL_law_33 : decode cL_law 33 = .ok (.bipush 24, 2) := by decide +kernel
theorem dL_law_35 : decode cL_law 35 = .ok (.if_icmp .ge 238, 3) := by decide +kernel
theorem dL_law_38 : decode cL_law 38 = .ok (.iload_n 2, 1) := by decide +kernel
theorem dL_law_39 : decode cL_law 39 = .ok (.ifCond .eq 234, 3) := by decide +kernel
theorem dL_law_42 : decode cL_law 42 = .ok (.aload_n 0, 1) := by decide +kernel
theorem dL_law_43 : decode cL_law 43 = .ok (.iconst 2, 1) := by decide +kernel
theorem dL_law_44 : decode cL_law 44 = .ok (.iload_n 3, 1) := by decide +kernel
theorem dL_law_45 : decode cL_law 45 = .ok (.imul, 1) := by decide +kernel
theorem dL_law_46 : decode cL_law 46 = .ok (.invokestatic 107, 3) := by decide +kernel
theorem dL_law_49 : decode cL_law 49 = .ok (.istore 4, 2) := by decide +kernel
theorem dL_law_51 : decode cL_law 51 = .ok (.aload_n 0, 1) := by decide +kernel
theorem dL_law_52 : decode cL_law 52 = .ok (.iconst 2, 1) := by decide +kernel
theorem dL_law_53 : decode cL_law 53 = .ok (.iload_n 3, 1) := by decide +kernel
theorem dL_law_54 : decode cL_law 54 = .ok (.imul, 1) := by decide +kernel
theorem dL_law_55 : decode cL_law 55 = .ok (.iconst 1, 1) := by decide +kernel
theorem dL_law_56 : decode cL_law 56 = .ok (.iadd, 1) := by decide +kernel
theorem dL_law_57 : decode cL_law 57 = .ok (.invokestatic 107, 3) := by decide +kernel
theorem dL_law_60 : decode cL_law 60 = .ok (.istore 5, 2) := by decide +kernel
theorem dL_law_62 : decode cL_law 62 = .ok (.aload_n 1, 1) := by decide +kernel
theorem dL_law_63 : decode cL_law 63 = .ok (.invokestatic 111, 3) := by decide +kernel
theorem dL_law_66 : decode cL_law 66 = .ok (.lstore 6, 2) := by decide +kernel
theorem dL_law_68 : decode cL_law 68 = .ok (.aload_n 1, 1) := by decide +kernel
theorem dL_law_69 : decode cL_law 69 = .ok (.bipush 8, 2) := by decide +kernel
theorem dL_law_71 : decode cL_law 71 = .ok (.invokevirtual 13, 3) := by decide +kernel
theorem dL_law_74 : decode cL_law 74 = .ok (.istore 8, 2) := by decide +kernel
theorem dL_law_76 : decode cL_law 76 = .ok (.aload_n 1, 1) := by decide +kernel
theorem dL_law_77 : decode cL_law 77 = .ok (.iload_n 3, 1) := by decide +kernel
theorem dL_law_78 : decode cL_law 78 = .ok (.bipush 6, 2) := by decide +kernel
theorem dL_law_80 : decode cL_law 80 = .ok (.if_icmp .ge 11, 3) := by decide +kernel
theorem dL_law_83 : decode cL_law 83 = .ok (.iload 4, 2) := by decide +kernel
theorem dL_law_85 : decode cL_law 85 = .ok (.bipush (-16), 2) := by decide +kernel
theorem dL_law_87 : decode cL_law 87 = .ok (.iand, 1) := by decide +kernel
theorem dL_law_88 : decode cL_law 88 = .ok (.goto 5, 3) := by decide +kernel
theorem dL_law_91 : decode cL_law 91 = .ok (.iload 4, 2) := by decide +kernel
theorem dL_law_93 : decode cL_law 93 = .ok (.iload 5, 2) := by decide +kernel
theorem dL_law_95 : decode cL_law 95 = .ok (.invokestatic 115, 3) := by decide +kernel
theorem dL_law_98 : decode cL_law 98 = .ok (.ifCond .eq 21, 3) := by decide +kernel
theorem dL_law_101 : decode cL_law 101 = .ok (.iload_n 3, 1) := by decide +kernel
theorem dL_law_102 : decode cL_law 102 = .ok (.iconst 4, 1) := by decide +kernel
theorem dL_law_103 : decode cL_law 103 = .ok (.irem, 1) := by decide +kernel
theorem dL_law_104 : decode cL_law 104 = .ok (.iconst 3, 1) := by decide +kernel
theorem dL_law_105 : decode cL_law 105 = .ok (.if_icmp .ne 10, 3) := by decide +kernel
theorem dL_law_108 : decode cL_law 108 = .ok (.aload_n 1, 1) := by decide +kernel
theorem dL_law_109 : decode cL_law 109 = .ok (.invokestatic 101, 3) := by decide +kernel
theorem dL_law_112 : decode cL_law 112 = .ok (.ifCond .eq 7, 3) := by decide +kernel
theorem dL_law_115 : decode cL_law 115 = .ok (.iconst 1, 1) := by decide +kernel
theorem dL_law_116 : decode cL_law 116 = .ok (.goto 4, 3) := by decide +kernel
theorem dL_law_119 : decode cL_law 119 = .ok (.iconst 0, 1) := by decide +kernel
theorem dL_law_120 : decode cL_law 120 = .ok (.istore_n 2, 1) := by decide +kernel
theorem dL_law_121 : decode cL_law 121 = .ok (.aload_n 1, 1) := by decide +kernel
theorem dL_law_122 : decode cL_law 122 = .ok (.bipush 8, 2) := by decide +kernel
theorem dL_law_124 : decode cL_law 124 = .ok (.invokevirtual 13, 3) := by decide +kernel
theorem dL_law_127 : decode cL_law 127 = .ok (.istore 9, 2) := by decide +kernel
theorem dL_law_129 : decode cL_law 129 = .ok (.iload_n 2, 1) := by decide +kernel
theorem dL_law_130 : decode cL_law 130 = .ok (.ifCond .eq 39, 3) := by decide +kernel
theorem dL_law_133 : decode cL_law 133 = .ok (.iload 9, 2) := by decide +kernel
theorem dL_law_135 : decode cL_law 135 = .ok (.iload 8, 2) := by decide +kernel
theorem dL_law_137 : decode cL_law 137 = .ok (.if_icmp .ne 19, 3) := by decide +kernel
theorem dL_law_140 : decode cL_law 140 = .ok (.iload 8, 2) := by decide +kernel
theorem dL_law_142 : decode cL_law 142 = .ok (.iconst 4, 1) := by decide +kernel
theorem dL_law_143 : decode cL_law 143 = .ok (.if_icmp .eq 22, 3) := by decide +kernel
theorem dL_law_146 : decode cL_law 146 = .ok (.aload_n 1, 1) := by decide +kernel
theorem dL_law_147 : decode cL_law 147 = .ok (.invokestatic 111, 3) := by decide +kernel
theorem dL_law_150 : decode cL_law 150 = .ok (.lload 6, 2) := by decide +kernel
theorem dL_law_152 : decode cL_law 152 = .ok (.lcmp, 1) := by decide +kernel
theorem dL_law_153 : decode cL_law 153 = .ok (.ifCond .eq 12, 3) := by decide +kernel
theorem dL_law_156 : decode cL_law 156 = .ok (.iload 9, 2) := by decide +kernel
theorem dL_law_158 : decode cL_law 158 = .ok (.iload 8, 2) := by decide +kernel
theorem dL_law_160 : decode cL_law 160 = .ok (.iconst 1, 1) := by decide +kernel
theorem dL_law_161 : decode cL_law 161 = .ok (.iadd, 1) := by decide +kernel
theorem dL_law_162 : decode cL_law 162 = .ok (.if_icmp .ne 7, 3) := by decide +kernel
theorem dL_law_165 : decode cL_law 165 = .ok (.iconst 1, 1) := by decide +kernel
theorem dL_law_166 : decode cL_law 166 = .ok (.goto 4, 3) := by decide +kernel
theorem dL_law_169 : decode cL_law 169 = .ok (.iconst 0, 1) := by decide +kernel
theorem dL_law_170 : decode cL_law 170 = .ok (.istore_n 2, 1) := by decide +kernel
theorem dL_law_171 : decode cL_law 171 = .ok (.iload_n 2, 1) := by decide +kernel
theorem dL_law_172 : decode cL_law 172 = .ok (.ifCond .eq 49, 3) := by decide +kernel
theorem dL_law_175 : decode cL_law 175 = .ok (.iload 9, 2) := by decide +kernel
theorem dL_law_177 : decode cL_law 177 = .ok (.iload 8, 2) := by decide +kernel
theorem dL_law_179 : decode cL_law 179 = .ok (.iconst 1, 1) := by decide +kernel
theorem dL_law_180 : decode cL_law 180 = .ok (.iadd, 1) := by decide +kernel
theorem dL_law_181 : decode cL_law 181 = .ok (.if_icmp .ne 40, 3) := by decide +kernel
theorem dL_law_184 : decode cL_law 184 = .ok (.iload 5, 2) := by decide +kernel
theorem dL_law_186 : decode cL_law 186 = .ok (.bipush 8, 2) := by decide +kernel
theorem dL_law_188 : decode cL_law 188 = .ok (.ishr, 1) := by decide +kernel
theorem dL_law_189 : decode cL_law 189 = .ok (.iconst 2, 1) := by decide +kernel
theorem dL_law_190 : decode cL_law 190 = .ok (.invokestatic 52, 3) := by decide +kernel
theorem dL_law_193 : decode cL_law 193 = .ok (.ifCond .ne 28, 3) := by decide +kernel
theorem dL_law_196 : decode cL_law 196 = .ok (.aload_n 1, 1) := by decide +kernel
theorem dL_law_197 : decode cL_law 197 = .ok (.invokevirtual 104, 3) := by decide +kernel
theorem dL_law_200 : decode cL_law 200 = .ok (.iload 8, 2) := by decide +kernel
theorem dL_law_202 : decode cL_law 202 = .ok (.if_icmp .ne 17, 3) := by decide +kernel
theorem dL_law_205 : decode cL_law 205 = .ok (.aload_n 1, 1) := by decide +kernel
theorem dL_law_206 : decode cL_law 206 = .ok (.invokestatic 111, 3) := by decide +kernel
theorem dL_law_209 : decode cL_law 209 = .ok (.lload 6, 2) := by decide +kernel
theorem dL_law_211 : decode cL_law 211 = .ok (.lcmp, 1) := by decide +kernel
theorem dL_law_212 : decode cL_law 212 = .ok (.ifCond .ne 7, 3) := by decide +kernel
theorem dL_law_215 : decode cL_law 215 = .ok (.iconst 1, 1) := by decide +kernel
theorem dL_law_216 : decode cL_law 216 = .ok (.goto 4, 3) := by decide +kernel
theorem dL_law_219 : decode cL_law 219 = .ok (.iconst 0, 1) := by decide +kernel
theorem dL_law_220 : decode cL_law 220 = .ok (.istore_n 2, 1) := by decide +kernel
theorem dL_law_221 : decode cL_law 221 = .ok (.iload_n 2, 1) := by decide +kernel
theorem dL_law_222 : decode cL_law 222 = .ok (.ifCond .eq 45, 3) := by decide +kernel
theorem dL_law_225 : decode cL_law 225 = .ok (.iload_n 3, 1) := by decide +kernel
theorem dL_law_226 : decode cL_law 226 = .ok (.iconst 5, 1) := by decide +kernel
theorem dL_law_227 : decode cL_law 227 = .ok (.irem, 1) := by decide +kernel
theorem dL_law_228 : decode cL_law 228 = .ok (.iconst 4, 1) := by decide +kernel
theorem dL_law_229 : decode cL_law 229 = .ok (.if_icmp .ne 38, 3) := by decide +kernel
theorem dL_law_232 : decode cL_law 232 = .ok (.aload_n 1, 1) := by decide +kernel
theorem dL_law_233 : decode cL_law 233 = .ok (.bipush 8, 2) := by decide +kernel
theorem dL_law_235 : decode cL_law 235 = .ok (.invokevirtual 13, 3) := by decide +kernel
theorem dL_law_238 : decode cL_law 238 = .ok (.istore 10, 2) := by decide +kernel
theorem dL_law_240 : decode cL_law 240 = .ok (.aload_n 1, 1) := by decide +kernel
theorem dL_law_241 : decode cL_law 241 = .ok (.invokevirtual 104, 3) := by decide +kernel
theorem dL_law_244 : decode cL_law 244 = .ok (.iload 10, 2) := by decide +kernel
theorem dL_law_246 : decode cL_law 246 = .ok (.ifCond .ne 8, 3) := by decide +kernel
theorem dL_law_249 : decode cL_law 249 = .ok (.ldc 68, 2) := by decide +kernel
theorem dL_law_251 : decode cL_law 251 = .ok (.goto 7, 3) := by decide +kernel
theorem dL_law_254 : decode cL_law 254 = .ok (.iload 10, 2) := by decide +kernel
theorem dL_law_256 : decode cL_law 256 = .ok (.iconst 1, 1) := by decide +kernel
theorem dL_law_257 : decode cL_law 257 = .ok (.isub, 1) := by decide +kernel
theorem dL_law_258 : decode cL_law 258 = .ok (.if_icmp .ne 7, 3) := by decide +kernel
theorem dL_law_261 : decode cL_law 261 = .ok (.iconst 1, 1) := by decide +kernel
theorem dL_law_262 : decode cL_law 262 = .ok (.goto 4, 3) := by decide +kernel
theorem dL_law_265 : decode cL_law 265 = .ok (.iconst 0, 1) := by decide +kernel
theorem dL_law_266 : decode cL_law 266 = .ok (.istore_n 2, 1) := by decide +kernel
theorem dL_law_267 : decode cL_law 267 = .ok (.iinc 3 1, 3) := by decide +kernel
theorem dL_law_270 : decode cL_law 270 = .ok (.goto (-238), 3) := by decide +kernel
theorem dL_law_273 : decode cL_law 273 = .ok (.iload_n 2, 1) := by decide +kernel
theorem dL_law_274 : decode cL_law 274 = .ok (.ifCond .eq 14, 3) := by decide +kernel
theorem dL_law_277 : decode cL_law 277 = .ok (.aload_n 1, 1) := by decide +kernel
theorem dL_law_278 : decode cL_law 278 = .ok (.invokestatic 101, 3) := by decide +kernel
theorem dL_law_281 : decode cL_law 281 = .ok (.ifCond .eq 7, 3) := by decide +kernel
theorem dL_law_284 : decode cL_law 284 = .ok (.iconst 1, 1) := by decide +kernel
theorem dL_law_285 : decode cL_law 285 = .ok (.goto 4, 3) := by decide +kernel
theorem dL_law_288 : decode cL_law 288 = .ok (.iconst 0, 1) := by decide +kernel
theorem dL_law_289 : decode cL_law 289 = .ok (.ireturn, 1) := by decide +kernel
abbrev vwCl : List vw_C := [(RX0, TX0, 2), (RX1, TX1, 13), (RX2, TX2, 2), (RX3, TX3, 3)]
