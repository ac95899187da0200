/-! ===== the law: its cases ===== -/
theorem dL_0 : decode code 0 = .ok (.new 7, 3) := by decide +kernel
theorem dL_3 : decode code 3 = .ok (.dup, 1) := by decide +kernel
theorem dL_4 : decode code 4 = .ok (.invokespecial 9, 3) := by decide +kernel
theorem dL_7 : decode code 7 = .ok (.astore_n 1, 1) := by decide +kernel
theorem dL_8 : decode code 8 = .ok (.new 10, 3) := by decide +kernel
theorem dL_11 : decode code 11 = .ok (.dup, 1) := by decide +kernel
theorem dL_12 : decode code 12 = .ok (.invokespecial 12, 3) := by decide +kernel
theorem dL_15 : decode code 15 = .ok (.astore_n 2, 1) := by decide +kernel
theorem dL_16 : decode code 16 = .ok (.iconst 0, 1) := by decide +kernel
theorem dL_17 : decode code 17 = .ok (.istore_n 3, 1) := by decide +kernel
theorem dL_18 : decode code 18 = .ok (.iload_n 3, 1) := by decide +kernel
theorem dL_19 : decode code 19 = .ok (.aload_n 0, 1) := by decide +kernel
theorem dL_20 : decode code 20 = .ok (.arraylength, 1) := by decide +kernel
theorem dL_21 : decode code 21 = .ok (.bipush 6, 2) := by decide +kernel
theorem dL_23 : decode code 23 = .ok (.isub, 1) := by decide +kernel
theorem dL_24 : decode code 24 = .ok (.if_icmp .gt 1480, 3) := by decide +kernel
theorem dL_27 : decode code 27 = .ok (.aload_n 0, 1) := by decide +kernel
theorem dL_28 : decode code 28 = .ok (.iload_n 3, 1) := by decide +kernel
theorem dL_29 : decode code 29 = .ok (.iaload, 1) := by decide +kernel
theorem dL_30 : decode code 30 = .ok (.bipush 63, 2) := by decide +kernel
theorem dL_32 : decode code 32 = .ok (.iand, 1) := by decide +kernel
theorem dL_33 : decode code 33 = .ok (.tableswitch 1465 0 42 #[187, 250, 273, 296, 329, 363, 386, 409, 442, 475, 508, 541, 564, 597, 620, 653, 676, 709, 722, 755, 778, 811, 834, 847, 880, 903, 917, 941, 975, 988, 1011, 1035, 1059, 1083, 1106, 1129, 1212, 1256, 1299, 1373, 1396, 1419, 1442], 187) := by decide +kernel
theorem dL_220 : decode code 220 = .ok (.aload_n 1, 1) := by decide +kernel
theorem dL_221 : decode code 221 = .ok (.aload_n 0, 1) := by decide +kernel
theorem dL_222 : decode code 222 = .ok (.iload_n 3, 1) := by decide +kernel
theorem dL_223 : decode code 223 = .ok (.iconst 1, 1) := by decide +kernel
theorem dL_224 : decode code 224 = .ok (.iadd, 1) := by decide +kernel
theorem dL_225 : decode code 225 = .ok (.iaload, 1) := by decide +kernel
theorem dL_226 : decode code 226 = .ok (.aload_n 0, 1) := by decide +kernel
theorem dL_227 : decode code 227 = .ok (.iload_n 3, 1) := by decide +kernel
theorem dL_228 : decode code 228 = .ok (.iconst 2, 1) := by decide +kernel
theorem dL_229 : decode code 229 = .ok (.iadd, 1) := by decide +kernel
theorem dL_230 : decode code 230 = .ok (.iaload, 1) := by decide +kernel
theorem dL_231 : decode code 231 = .ok (.aload_n 0, 1) := by decide +kernel
theorem dL_232 : decode code 232 = .ok (.iload_n 3, 1) := by decide +kernel
theorem dL_233 : decode code 233 = .ok (.iconst 3, 1) := by decide +kernel
theorem dL_234 : decode code 234 = .ok (.iadd, 1) := by decide +kernel
theorem dL_235 : decode code 235 = .ok (.iaload, 1) := by decide +kernel
theorem dL_236 : decode code 236 = .ok (.aload_n 0, 1) := by decide +kernel
theorem dL_237 : decode code 237 = .ok (.iload_n 3, 1) := by decide +kernel
theorem dL_238 : decode code 238 = .ok (.iconst 4, 1) := by decide +kernel
theorem dL_239 : decode code 239 = .ok (.iadd, 1) := by decide +kernel
theorem dL_240 : decode code 240 = .ok (.iaload, 1) := by decide +kernel
theorem dL_241 : decode code 241 = .ok (.aload_n 0, 1) := by decide +kernel
theorem dL_242 : decode code 242 = .ok (.iload_n 3, 1) := by decide +kernel
theorem dL_243 : decode code 243 = .ok (.iconst 5, 1) := by decide +kernel
theorem dL_244 : decode code 244 = .ok (.iadd, 1) := by decide +kernel
theorem dL_245 : decode code 245 = .ok (.iaload, 1) := by decide +kernel
theorem dL_246 : decode code 246 = .ok (.invokevirtual 13, 3) := by decide +kernel
theorem dL_249 : decode code 249 = .ok (.aload_n 2, 1) := by decide +kernel
theorem dL_250 : decode code 250 = .ok (.aload_n 0, 1) := by decide +kernel
theorem dL_251 : decode code 251 = .ok (.iload_n 3, 1) := by decide +kernel
theorem dL_252 : decode code 252 = .ok (.iconst 1, 1) := by decide +kernel
theorem dL_253 : decode code 253 = .ok (.iadd, 1) := by decide +kernel
theorem dL_254 : decode code 254 = .ok (.iaload, 1) := by decide +kernel
theorem dL_255 : decode code 255 = .ok (.aload_n 0, 1) := by decide +kernel
theorem dL_256 : decode code 256 = .ok (.iload_n 3, 1) := by decide +kernel
theorem dL_257 : decode code 257 = .ok (.iconst 2, 1) := by decide +kernel
theorem dL_258 : decode code 258 = .ok (.iadd, 1) := by decide +kernel
theorem dL_259 : decode code 259 = .ok (.iaload, 1) := by decide +kernel
theorem dL_260 : decode code 260 = .ok (.aload_n 0, 1) := by decide +kernel
theorem dL_261 : decode code 261 = .ok (.iload_n 3, 1) := by decide +kernel
theorem dL_262 : decode code 262 = .ok (.iconst 3, 1) := by decide +kernel
theorem dL_263 : decode code 263 = .ok (.iadd, 1) := by decide +kernel
theorem dL_264 : decode code 264 = .ok (.iaload, 1) := by decide +kernel
theorem dL_265 : decode code 265 = .ok (.aload_n 0, 1) := by decide +kernel
theorem dL_266 : decode code 266 = .ok (.iload_n 3, 1) := by decide +kernel
theorem dL_267 : decode code 267 = .ok (.iconst 4, 1) := by decide +kernel
theorem dL_268 : decode code 268 = .ok (.iadd, 1) := by decide +kernel
theorem dL_269 : decode code 269 = .ok (.iaload, 1) := by decide +kernel
theorem dL_270 : decode code 270 = .ok (.aload_n 0, 1) := by decide +kernel
theorem dL_271 : decode code 271 = .ok (.iload_n 3, 1) := by decide +kernel
theorem dL_272 : decode code 272 = .ok (.iconst 5, 1) := by decide +kernel
theorem dL_273 : decode code 273 = .ok (.iadd, 1) := by decide +kernel
theorem dL_274 : decode code 274 = .ok (.iaload, 1) := by decide +kernel
theorem dL_275 : decode code 275 = .ok (.invokevirtual 17, 3) := by decide +kernel
theorem dL_278 : decode code 278 = .ok (.if_icmp .eq 1220, 3) := by decide +kernel
theorem dL_281 : decode code 281 = .ok (.iconst 0, 1) := by decide +kernel
theorem dL_282 : decode code 282 = .ok (.ireturn, 1) := by decide +kernel
theorem dL_283 : decode code 283 = .ok (.aload_n 1, 1) := by decide +kernel
theorem dL_284 : decode code 284 = .ok (.aload_n 0, 1) := by decide +kernel
theorem dL_285 : decode code 285 = .ok (.iload_n 3, 1) := by decide +kernel
theorem dL_286 : decode code 286 = .ok (.iconst 1, 1) := by decide +kernel
theorem dL_287 : decode code 287 = .ok (.iadd, 1) := by decide +kernel
theorem dL_288 : decode code 288 = .ok (.iaload, 1) := by decide +kernel
theorem dL_289 : decode code 289 = .ok (.invokevirtual 18, 3) := by decide +kernel
theorem dL_292 : decode code 292 = .ok (.aload_n 2, 1) := by decide +kernel
theorem dL_293 : decode code 293 = .ok (.aload_n 0, 1) := by decide +kernel
theorem dL_294 : decode code 294 = .ok (.iload_n 3, 1) := by decide +kernel
theorem dL_295 : decode code 295 = .ok (.iconst 1, 1) := by decide +kernel
theorem dL_296 : decode code 296 = .ok (.iadd, 1) := by decide +kernel
theorem dL_297 : decode code 297 = .ok (.iaload, 1) := by decide +kernel
theorem dL_298 : decode code 298 = .ok (.invokevirtual 22, 3) := by decide +kernel
theorem dL_301 : decode code 301 = .ok (.if_icmp .eq 1197, 3) := by decide +kernel
theorem dL_304 : decode code 304 = .ok (.iconst 0, 1) := by decide +kernel
theorem dL_305 : decode code 305 = .ok (.ireturn, 1) := by decide +kernel
theorem dL_306 : decode code 306 = .ok (.aload_n 1, 1) := by decide +kernel
theorem dL_307 : decode code 307 = .ok (.aload_n 0, 1) := by decide +kernel
theorem dL_308 : decode code 308 = .ok (.iload_n 3, 1) := by decide +kernel
theorem dL_309 : decode code 309 = .ok (.iconst 1, 1) := by decide +kernel
theorem dL_310 : decode code 310 = .ok (.iadd, 1) := by decide +kernel
theorem dL_311 : decode code 311 = .ok (.iaload, 1) := by decide +kernel
theorem dL_312 : decode code 312 = .ok (.invokevirtual 23, 3) := by decide +kernel
theorem dL_315 : decode code 315 = .ok (.aload_n 2, 1) := by decide +kernel
theorem dL_316 : decode code 316 = .ok (.aload_n 0, 1) := by decide +kernel
theorem dL_317 : decode code 317 = .ok (.iload_n 3, 1) := by decide +kernel
theorem dL_318 : decode code 318 = .ok (.iconst 1, 1) := by decide +kernel
theorem dL_319 : decode code 319 = .ok (.iadd, 1) := by decide +kernel
theorem dL_320 : decode code 320 = .ok (.iaload, 1) := by decide +kernel
theorem dL_321 : decode code 321 = .ok (.invokevirtual 26, 3) := by decide +kernel
theorem dL_324 : decode code 324 = .ok (.if_icmp .eq 1174, 3) := by decide +kernel
theorem dL_327 : decode code 327 = .ok (.iconst 0, 1) := by decide +kernel
theorem dL_328 : decode code 328 = .ok (.ireturn, 1) := by decide +kernel
theorem dL_329 : decode code 329 = .ok (.aload_n 1, 1) := by decide +kernel
theorem dL_330 : decode code 330 = .ok (.aload_n 0, 1) := by decide +kernel
theorem dL_331 : decode code 331 = .ok (.iload_n 3, 1) := by decide +kernel
theorem dL_332 : decode code 332 = .ok (.iconst 1, 1) := by decide +kernel
theorem dL_333 : decode code 333 = .ok (.iadd, 1) := by decide +kernel
theorem dL_334 : decode code 334 = .ok (.iaload, 1) := by decide +kernel
theorem dL_335 : decode code 335 = .ok (.aload_n 0, 1) := by decide +kernel
theorem dL_336 : decode code 336 = .ok (.iload_n 3, 1) := by decide +kernel
theorem dL_337 : decode code 337 = .ok (.iconst 2, 1) := by decide +kernel
theorem dL_338 : decode code 338 = .ok (.iadd, 1) := by decide +kernel
theorem dL_339 : decode code 339 = .ok (.iaload, 1) := by decide +kernel
theorem dL_340 : decode code 340 = .ok (.invokevirtual 27, 3) := by decide +kernel
theorem dL_343 : decode code 343 = .ok (.aload_n 2, 1) := by decide +kernel
theorem dL_344 : decode code 344 = .ok (.aload_n 0, 1) := by decide +kernel
theorem dL_345 : decode code 345 = .ok (.iload_n 3, 1) := by decide +kernel
theorem dL_346 : decode code 346 = .ok (.iconst 1, 1) := by decide +kernel
theorem dL_347 : decode code 347 = .ok (.iadd, 1) := by decide +kernel
theorem dL_348 : decode code 348 = .ok (.iaload, 1) := by decide +kernel
theorem dL_349 : decode code 349 = .ok (.aload_n 0, 1) := by decide +kernel
theorem dL_350 : decode code 350 = .ok (.iload_n 3, 1) := by decide +kernel
theorem dL_351 : decode code 351 = .ok (.iconst 2, 1) := by decide +kernel
theorem dL_352 : decode code 352 = .ok (.iadd, 1) := by decide +kernel
theorem dL_353 : decode code 353 = .ok (.iaload, 1) := by decide +kernel
theorem dL_354 : decode code 354 = .ok (.invokevirtual 31, 3) := by decide +kernel
theorem dL_357 : decode code 357 = .ok (.if_icmp .eq 1141, 3) := by decide +kernel
theorem dL_360 : decode code 360 = .ok (.iconst 0, 1) := by decide +kernel
theorem dL_361 : decode code 361 = .ok (.ireturn, 1) := by decide +kernel
theorem dL_362 : decode code 362 = .ok (.aload_n 1, 1) := by decide +kernel
theorem dL_363 : decode code 363 = .ok (.aload_n 0, 1) := by decide +kernel
theorem dL_364 : decode code 364 = .ok (.iload_n 3, 1) := by decide +kernel
theorem dL_365 : decode code 365 = .ok (.iconst 1, 1) := by decide +kernel
theorem dL_366 : decode code 366 = .ok (.iadd, 1) := by decide +kernel
theorem dL_367 : decode code 367 = .ok (.iaload, 1) := by decide +kernel
theorem dL_368 : decode code 368 = .ok (.aload_n 0, 1) := by decide +kernel
theorem dL_369 : decode code 369 = .ok (.iload_n 3, 1) := by decide +kernel
theorem dL_370 : decode code 370 = .ok (.iconst 2, 1) := by decide +kernel
theorem dL_371 : decode code 371 = .ok (.iadd, 1) := by decide +kernel
theorem dL_372 : decode code 372 = .ok (.iaload, 1) := by decide +kernel
theorem dL_373 : decode code 373 = .ok (.invokevirtual 32, 3) := by decide +kernel
theorem dL_376 : decode code 376 = .ok (.aload_n 2, 1) := by decide +kernel
theorem dL_377 : decode code 377 = .ok (.aload_n 0, 1) := by decide +kernel
theorem dL_378 : decode code 378 = .ok (.iload_n 3, 1) := by decide +kernel
theorem dL_379 : decode code 379 = .ok (.iconst 1, 1) := by decide +kernel
theorem dL_380 : decode code 380 = .ok (.iadd, 1) := by decide +kernel
theorem dL_381 : decode code 381 = .ok (.iaload, 1) := by decide +kernel
theorem dL_382 : decode code 382 = .ok (.aload_n 0, 1) := by decide +kernel
theorem dL_383 : decode code 383 = .ok (.iload_n 3, 1) := by decide +kernel
theorem dL_384 : decode code 384 = .ok (.iconst 2, 1) := by decide +kernel
theorem dL_385 : decode code 385 = .ok (.iadd, 1) := by decide +kernel
theorem dL_386 : decode code 386 = .ok (.iaload, 1) := by decide +kernel
theorem dL_387 : decode code 387 = .ok (.invokevirtual 36, 3) := by decide +kernel
theorem dL_390 : decode code 390 = .ok (.lcmp, 1) := by decide +kernel
theorem dL_391 : decode code 391 = .ok (.ifCond .eq 1107, 3) := by decide +kernel
theorem dL_394 : decode code 394 = .ok (.iconst 0, 1) := by decide +kernel
theorem dL_395 : decode code 395 = .ok (.ireturn, 1) := by decide +kernel
theorem dL_396 : decode code 396 = .ok (.aload_n 1, 1) := by decide +kernel
theorem dL_397 : decode code 397 = .ok (.aload_n 0, 1) := by decide +kernel
theorem dL_398 : decode code 398 = .ok (.iload_n 3, 1) := by decide +kernel
theorem dL_399 : decode code 399 = .ok (.iconst 1, 1) := by decide +kernel
theorem dL_400 : decode code 400 = .ok (.iadd, 1) := by decide +kernel
theorem dL_401 : decode code 401 = .ok (.iaload, 1) := by decide +kernel
theorem dL_402 : decode code 402 = .ok (.invokevirtual 37, 3) := by decide +kernel
theorem dL_405 : decode code 405 = .ok (.aload_n 2, 1) := by decide +kernel
theorem dL_406 : decode code 406 = .ok (.aload_n 0, 1) := by decide +kernel
theorem dL_407 : decode code 407 = .ok (.iload_n 3, 1) := by decide +kernel
theorem dL_408 : decode code 408 = .ok (.iconst 1, 1) := by decide +kernel
theorem dL_409 : decode code 409 = .ok (.iadd, 1) := by decide +kernel
theorem dL_410 : decode code 410 = .ok (.iaload, 1) := by decide +kernel
theorem dL_411 : decode code 411 = .ok (.invokevirtual 40, 3) := by decide +kernel
theorem dL_414 : decode code 414 = .ok (.if_icmp .eq 1084, 3) := by decide +kernel
theorem dL_417 : decode code 417 = .ok (.iconst 0, 1) := by decide +kernel
theorem dL_418 : decode code 418 = .ok (.ireturn, 1) := by decide +kernel
theorem dL_419 : decode code 419 = .ok (.aload_n 1, 1) := by decide +kernel
theorem dL_420 : decode code 420 = .ok (.aload_n 0, 1) := by decide +kernel
theorem dL_421 : decode code 421 = .ok (.iload_n 3, 1) := by decide +kernel
theorem dL_422 : decode code 422 = .ok (.iconst 1, 1) := by decide +kernel
theorem dL_423 : decode code 423 = .ok (.iadd, 1) := by decide +kernel
theorem dL_424 : decode code 424 = .ok (.iaload, 1) := by decide +kernel
theorem dL_425 : decode code 425 = .ok (.invokevirtual 41, 3) := by decide +kernel
theorem dL_428 : decode code 428 = .ok (.aload_n 2, 1) := by decide +kernel
theorem dL_429 : decode code 429 = .ok (.aload_n 0, 1) := by decide +kernel
theorem dL_430 : decode code 430 = .ok (.iload_n 3, 1) := by decide +kernel
theorem dL_431 : decode code 431 = .ok (.iconst 1, 1) := by decide +kernel
theorem dL_432 : decode code 432 = .ok (.iadd, 1) := by decide +kernel
theorem dL_433 : decode code 433 = .ok (.iaload, 1) := by decide +kernel
theorem dL_434 : decode code 434 = .ok (.invokevirtual 44, 3) := by decide +kernel
theorem dL_437 : decode code 437 = .ok (.if_icmp .eq 1061, 3) := by decide +kernel
theorem dL_440 : decode code 440 = .ok (.iconst 0, 1) := by decide +kernel
theorem dL_441 : decode code 441 = .ok (.ireturn, 1) := by decide +kernel
theorem dL_442 : decode code 442 = .ok (.aload_n 1, 1) := by decide +kernel
theorem dL_443 : decode code 443 = .ok (.aload_n 0, 1) := by decide +kernel
theorem dL_444 : decode code 444 = .ok (.iload_n 3, 1) := by decide +kernel
theorem dL_445 : decode code 445 = .ok (.iconst 1, 1) := by decide +kernel
theorem dL_446 : decode code 446 = .ok (.iadd, 1) := by decide +kernel
theorem dL_447 : decode code 447 = .ok (.iaload, 1) := by decide +kernel
theorem dL_448 : decode code 448 = .ok (.aload_n 0, 1) := by decide +kernel
theorem dL_449 : decode code 449 = .ok (.iload_n 3, 1) := by decide +kernel
theorem dL_450 : decode code 450 = .ok (.iconst 2, 1) := by decide +kernel
theorem dL_451 : decode code 451 = .ok (.iadd, 1) := by decide +kernel
theorem dL_452 : decode code 452 = .ok (.iaload, 1) := by decide +kernel
theorem dL_453 : decode code 453 = .ok (.invokevirtual 45, 3) := by decide +kernel
theorem dL_456 : decode code 456 = .ok (.aload_n 2, 1) := by decide +kernel
theorem dL_457 : decode code 457 = .ok (.aload_n 0, 1) := by decide +kernel
theorem dL_458 : decode code 458 = .ok (.iload_n 3, 1) := by decide +kernel
theorem dL_459 : decode code 459 = .ok (.iconst 1, 1) := by decide +kernel
theorem dL_460 : decode code 460 = .ok (.iadd, 1) := by decide +kernel
theorem dL_461 : decode code 461 = .ok (.iaload, 1) := by decide +kernel
theorem dL_462 : decode code 462 = .ok (.aload_n 0, 1) := by decide +kernel
theorem dL_463 : decode code 463 = .ok (.iload_n 3, 1) := by decide +kernel
theorem dL_464 : decode code 464 = .ok (.iconst 2, 1) := by decide +kernel
theorem dL_465 : decode code 465 = .ok (.iadd, 1) := by decide +kernel
theorem dL_466 : decode code 466 = .ok (.iaload, 1) := by decide +kernel
theorem dL_467 : decode code 467 = .ok (.invokevirtual 48, 3) := by decide +kernel
theorem dL_470 : decode code 470 = .ok (.if_icmp .eq 1028, 3) := by decide +kernel
theorem dL_473 : decode code 473 = .ok (.iconst 0, 1) := by decide +kernel
theorem dL_474 : decode code 474 = .ok (.ireturn, 1) := by decide +kernel
theorem dL_475 : decode code 475 = .ok (.aload_n 1, 1) := by decide +kernel
theorem dL_476 : decode code 476 = .ok (.aload_n 0, 1) := by decide +kernel
theorem dL_477 : decode code 477 = .ok (.iload_n 3, 1) := by decide +kernel
theorem dL_478 : decode code 478 = .ok (.iconst 1, 1) := by decide +kernel
theorem dL_479 : decode code 479 = .ok (.iadd, 1) := by decide +kernel
theorem dL_480 : decode code 480 = .ok (.iaload, 1) := by decide +kernel
theorem dL_481 : decode code 481 = .ok (.aload_n 0, 1) := by decide +kernel
theorem dL_482 : decode code 482 = .ok (.iload_n 3, 1) := by decide +kernel
theorem dL_483 : decode code 483 = .ok (.iconst 2, 1) := by decide +kernel
theorem dL_484 : decode code 484 = .ok (.iadd, 1) := by decide +kernel
theorem dL_485 : decode code 485 = .ok (.iaload, 1) := by decide +kernel
theorem dL_486 : decode code 486 = .ok (.invokevirtual 49, 3) := by decide +kernel
theorem dL_489 : decode code 489 = .ok (.aload_n 2, 1) := by decide +kernel
theorem dL_490 : decode code 490 = .ok (.aload_n 0, 1) := by decide +kernel
theorem dL_491 : decode code 491 = .ok (.iload_n 3, 1) := by decide +kernel
theorem dL_492 : decode code 492 = .ok (.iconst 1, 1) := by decide +kernel
theorem dL_493 : decode code 493 = .ok (.iadd, 1) := by decide +kernel
theorem dL_494 : decode code 494 = .ok (.iaload, 1) := by decide +kernel
theorem dL_495 : decode code 495 = .ok (.aload_n 0, 1) := by decide +kernel
theorem dL_496 : decode code 496 = .ok (.iload_n 3, 1) := by decide +kernel
theorem dL_497 : decode code 497 = .ok (.iconst 2, 1) := by decide +kernel
theorem dL_498 : decode code 498 = .ok (.iadd, 1) := by decide +kernel
theorem dL_499 : decode code 499 = .ok (.iaload, 1) := by decide +kernel
theorem dL_500 : decode code 500 = .ok (.invokevirtual 52, 3) := by decide +kernel
theorem dL_503 : decode code 503 = .ok (.if_icmp .eq 995, 3) := by decide +kernel
theorem dL_506 : decode code 506 = .ok (.iconst 0, 1) := by decide +kernel
theorem dL_507 : decode code 507 = .ok (.ireturn, 1) := by decide +kernel
theorem dL_508 : decode code 508 = .ok (.aload_n 1, 1) := by decide +kernel
theorem dL_509 : decode code 509 = .ok (.aload_n 0, 1) := by decide +kernel
theorem dL_510 : decode code 510 = .ok (.iload_n 3, 1) := by decide +kernel
theorem dL_511 : decode code 511 = .ok (.iconst 1, 1) := by decide +kernel
theorem dL_512 : decode code 512 = .ok (.iadd, 1) := by decide +kernel
theorem dL_513 : decode code 513 = .ok (.iaload, 1) := by decide +kernel
theorem dL_514 : decode code 514 = .ok (.aload_n 0, 1) := by decide +kernel
theorem dL_515 : decode code 515 = .ok (.iload_n 3, 1) := by decide +kernel
theorem dL_516 : decode code 516 = .ok (.iconst 2, 1) := by decide +kernel
theorem dL_517 : decode code 517 = .ok (.iadd, 1) := by decide +kernel
theorem dL_518 : decode code 518 = .ok (.iaload, 1) := by decide +kernel
theorem dL_519 : decode code 519 = .ok (.invokevirtual 53, 3) := by decide +kernel
theorem dL_522 : decode code 522 = .ok (.aload_n 2, 1) := by decide +kernel
theorem dL_523 : decode code 523 = .ok (.aload_n 0, 1) := by decide +kernel
theorem dL_524 : decode code 524 = .ok (.iload_n 3, 1) := by decide +kernel
theorem dL_525 : decode code 525 = .ok (.iconst 1, 1) := by decide +kernel
theorem dL_526 : decode code 526 = .ok (.iadd, 1) := by decide +kernel
theorem dL_527 : decode code 527 = .ok (.iaload, 1) := by decide +kernel
theorem dL_528 : decode code 528 = .ok (.aload_n 0, 1) := by decide +kernel
theorem dL_529 : decode code 529 = .ok (.iload_n 3, 1) := by decide +kernel
theorem dL_530 : decode code 530 = .ok (.iconst 2, 1) := by decide +kernel
theorem dL_531 : decode code 531 = .ok (.iadd, 1) := by decide +kernel
theorem dL_532 : decode code 532 = .ok (.iaload, 1) := by decide +kernel
theorem dL_533 : decode code 533 = .ok (.invokevirtual 56, 3) := by decide +kernel
theorem dL_536 : decode code 536 = .ok (.if_icmp .eq 962, 3) := by decide +kernel
theorem dL_539 : decode code 539 = .ok (.iconst 0, 1) := by decide +kernel
theorem dL_540 : decode code 540 = .ok (.ireturn, 1) := by decide +kernel
theorem dL_541 : decode code 541 = .ok (.aload_n 1, 1) := by decide +kernel
theorem dL_542 : decode code 542 = .ok (.aload_n 0, 1) := by decide +kernel
theorem dL_543 : decode code 543 = .ok (.iload_n 3, 1) := by decide +kernel
theorem dL_544 : decode code 544 = .ok (.iconst 1, 1) := by decide +kernel
theorem dL_545 : decode code 545 = .ok (.iadd, 1) := by decide +kernel
theorem dL_546 : decode code 546 = .ok (.iaload, 1) := by decide +kernel
theorem dL_547 : decode code 547 = .ok (.aload_n 0, 1) := by decide +kernel
theorem dL_548 : decode code 548 = .ok (.iload_n 3, 1) := by decide +kernel
theorem dL_549 : decode code 549 = .ok (.iconst 2, 1) := by decide +kernel
theorem dL_550 : decode code 550 = .ok (.iadd, 1) := by decide +kernel
theorem dL_551 : decode code 551 = .ok (.iaload, 1) := by decide +kernel
theorem dL_552 : decode code 552 = .ok (.invokevirtual 57, 3) := by decide +kernel
theorem dL_555 : decode code 555 = .ok (.aload_n 2, 1) := by decide +kernel
theorem dL_556 : decode code 556 = .ok (.aload_n 0, 1) := by decide +kernel
theorem dL_557 : decode code 557 = .ok (.iload_n 3, 1) := by decide +kernel
theorem dL_558 : decode code 558 = .ok (.iconst 1, 1) := by decide +kernel
theorem dL_559 : decode code 559 = .ok (.iadd, 1) := by decide +kernel
theorem dL_560 : decode code 560 = .ok (.iaload, 1) := by decide +kernel
theorem dL_561 : decode code 561 = .ok (.aload_n 0, 1) := by decide +kernel
theorem dL_562 : decode code 562 = .ok (.iload_n 3, 1) := by decide +kernel
theorem dL_563 : decode code 563 = .ok (.iconst 2, 1) := by decide +kernel
theorem dL_564 : decode code 564 = .ok (.iadd, 1) := by decide +kernel
theorem dL_565 : decode code 565 = .ok (.iaload, 1) := by decide +kernel
theorem dL_566 : decode code 566 = .ok (.invokevirtual 60, 3) := by decide +kernel
theorem dL_569 : decode code 569 = .ok (.if_icmp .eq 929, 3) := by decide +kernel
theorem dL_572 : decode code 572 = .ok (.iconst 0, 1) := by decide +kernel
theorem dL_573 : decode code 573 = .ok (.ireturn, 1) := by decide +kernel
theorem dL_574 : decode code 574 = .ok (.aload_n 1, 1) := by decide +kernel
theorem dL_575 : decode code 575 = .ok (.aload_n 0, 1) := by decide +kernel
theorem dL_576 : decode code 576 = .ok (.iload_n 3, 1) := by decide +kernel
theorem dL_577 : decode code 577 = .ok (.iconst 1, 1) := by decide +kernel
theorem dL_578 : decode code 578 = .ok (.iadd, 1) := by decide +kernel
theorem dL_579 : decode code 579 = .ok (.iaload, 1) := by decide +kernel
theorem dL_580 : decode code 580 = .ok (.invokevirtual 61, 3) := by decide +kernel
theorem dL_583 : decode code 583 = .ok (.aload_n 2, 1) := by decide +kernel
theorem dL_584 : decode code 584 = .ok (.aload_n 0, 1) := by decide +kernel
theorem dL_585 : decode code 585 = .ok (.iload_n 3, 1) := by decide +kernel
theorem dL_586 : decode code 586 = .ok (.iconst 1, 1) := by decide +kernel
theorem dL_587 : decode code 587 = .ok (.iadd, 1) := by decide +kernel
theorem dL_588 : decode code 588 = .ok (.iaload, 1) := by decide +kernel
theorem dL_589 : decode code 589 = .ok (.invokevirtual 64, 3) := by decide +kernel
theorem dL_592 : decode code 592 = .ok (.if_icmp .eq 906, 3) := by decide +kernel
theorem dL_595 : decode code 595 = .ok (.iconst 0, 1) := by decide +kernel
theorem dL_596 : decode code 596 = .ok (.ireturn, 1) := by decide +kernel
theorem dL_597 : decode code 597 = .ok (.aload_n 1, 1) := by decide +kernel
theorem dL_598 : decode code 598 = .ok (.aload_n 0, 1) := by decide +kernel
theorem dL_599 : decode code 599 = .ok (.iload_n 3, 1) := by decide +kernel
theorem dL_600 : decode code 600 = .ok (.iconst 1, 1) := by decide +kernel
theorem dL_601 : decode code 601 = .ok (.iadd, 1) := by decide +kernel
theorem dL_602 : decode code 602 = .ok (.iaload, 1) := by decide +kernel
theorem dL_603 : decode code 603 = .ok (.aload_n 0, 1) := by decide +kernel
theorem dL_604 : decode code 604 = .ok (.iload_n 3, 1) := by decide +kernel
theorem dL_605 : decode code 605 = .ok (.iconst 2, 1) := by decide +kernel
theorem dL_606 : decode code 606 = .ok (.iadd, 1) := by decide +kernel
theorem dL_607 : decode code 607 = .ok (.iaload, 1) := by decide +kernel
theorem dL_608 : decode code 608 = .ok (.invokevirtual 65, 3) := by decide +kernel
theorem dL_611 : decode code 611 = .ok (.aload_n 2, 1) := by decide +kernel
theorem dL_612 : decode code 612 = .ok (.aload_n 0, 1) := by decide +kernel
theorem dL_613 : decode code 613 = .ok (.iload_n 3, 1) := by decide +kernel
theorem dL_614 : decode code 614 = .ok (.iconst 1, 1) := by decide +kernel
theorem dL_615 : decode code 615 = .ok (.iadd, 1) := by decide +kernel
theorem dL_616 : decode code 616 = .ok (.iaload, 1) := by decide +kernel
theorem dL_617 : decode code 617 = .ok (.aload_n 0, 1) := by decide +kernel
theorem dL_618 : decode code 618 = .ok (.iload_n 3, 1) := by decide +kernel
theorem dL_619 : decode code 619 = .ok (.iconst 2, 1) := by decide +kernel
theorem dL_620 : decode code 620 = .ok (.iadd, 1) := by decide +kernel
theorem dL_621 : decode code 621 = .ok (.iaload, 1) := by decide +kernel
theorem dL_622 : decode code 622 = .ok (.invokevirtual 68, 3) := by decide +kernel
theorem dL_625 : decode code 625 = .ok (.if_icmp .eq 873, 3) := by decide +kernel
theorem dL_628 : decode code 628 = .ok (.iconst 0, 1) := by decide +kernel
theorem dL_629 : decode code 629 = .ok (.ireturn, 1) := by decide +kernel
theorem dL_630 : decode code 630 = .ok (.aload_n 1, 1) := by decide +kernel
theorem dL_631 : decode code 631 = .ok (.aload_n 0, 1) := by decide +kernel
theorem dL_632 : decode code 632 = .ok (.iload_n 3, 1) := by decide +kernel
theorem dL_633 : decode code 633 = .ok (.iconst 1, 1) := by decide +kernel
theorem dL_634 : decode code 634 = .ok (.iadd, 1) := by decide +kernel
theorem dL_635 : decode code 635 = .ok (.iaload, 1) := by decide +kernel
theorem dL_636 : decode code 636 = .ok (.invokevirtual 69, 3) := by decide +kernel
theorem dL_639 : decode code 639 = .ok (.aload_n 2, 1) := by decide +kernel
theorem dL_640 : decode code 640 = .ok (.aload_n 0, 1) := by decide +kernel
theorem dL_641 : decode code 641 = .ok (.iload_n 3, 1) := by decide +kernel
theorem dL_642 : decode code 642 = .ok (.iconst 1, 1) := by decide +kernel
theorem dL_643 : decode code 643 = .ok (.iadd, 1) := by decide +kernel
theorem dL_644 : decode code 644 = .ok (.iaload, 1) := by decide +kernel
theorem dL_645 : decode code 645 = .ok (.invokevirtual 72, 3) := by decide +kernel
theorem dL_648 : decode code 648 = .ok (.if_icmp .eq 850, 3) := by decide +kernel
theorem dL_651 : decode code 651 = .ok (.iconst 0, 1) := by decide +kernel
theorem dL_652 : decode code 652 = .ok (.ireturn, 1) := by decide +kernel
theorem dL_653 : decode code 653 = .ok (.aload_n 1, 1) := by decide +kernel
theorem dL_654 : decode code 654 = .ok (.aload_n 0, 1) := by decide +kernel
theorem dL_655 : decode code 655 = .ok (.iload_n 3, 1) := by decide +kernel
theorem dL_656 : decode code 656 = .ok (.iconst 1, 1) := by decide +kernel
theorem dL_657 : decode code 657 = .ok (.iadd, 1) := by decide +kernel
theorem dL_658 : decode code 658 = .ok (.iaload, 1) := by decide +kernel
theorem dL_659 : decode code 659 = .ok (.aload_n 0, 1) := by decide +kernel
theorem dL_660 : decode code 660 = .ok (.iload_n 3, 1) := by decide +kernel
theorem dL_661 : decode code 661 = .ok (.iconst 2, 1) := by decide +kernel
theorem dL_662 : decode code 662 = .ok (.iadd, 1) := by decide +kernel
theorem dL_663 : decode code 663 = .ok (.iaload, 1) := by decide +kernel
theorem dL_664 : decode code 664 = .ok (.invokevirtual 73, 3) := by decide +kernel
theorem dL_667 : decode code 667 = .ok (.aload_n 2, 1) := by decide +kernel
theorem dL_668 : decode code 668 = .ok (.aload_n 0, 1) := by decide +kernel
theorem dL_669 : decode code 669 = .ok (.iload_n 3, 1) := by decide +kernel
theorem dL_670 : decode code 670 = .ok (.iconst 1, 1) := by decide +kernel
theorem dL_671 : decode code 671 = .ok (.iadd, 1) := by decide +kernel
theorem dL_672 : decode code 672 = .ok (.iaload, 1) := by decide +kernel
theorem dL_673 : decode code 673 = .ok (.aload_n 0, 1) := by decide +kernel
theorem dL_674 : decode code 674 = .ok (.iload_n 3, 1) := by decide +kernel
theorem dL_675 : decode code 675 = .ok (.iconst 2, 1) := by decide +kernel
theorem dL_676 : decode code 676 = .ok (.iadd, 1) := by decide +kernel
theorem dL_677 : decode code 677 = .ok (.iaload, 1) := by decide +kernel
theorem dL_678 : decode code 678 = .ok (.invokevirtual 76, 3) := by decide +kernel
theorem dL_681 : decode code 681 = .ok (.if_icmp .eq 817, 3) := by decide +kernel
theorem dL_684 : decode code 684 = .ok (.iconst 0, 1) := by decide +kernel
theorem dL_685 : decode code 685 = .ok (.ireturn, 1) := by decide +kernel
theorem dL_686 : decode code 686 = .ok (.aload_n 1, 1) := by decide +kernel
theorem dL_687 : decode code 687 = .ok (.aload_n 0, 1) := by decide +kernel
theorem dL_688 : decode code 688 = .ok (.iload_n 3, 1) := by decide +kernel
theorem dL_689 : decode code 689 = .ok (.iconst 1, 1) := by decide +kernel
theorem dL_690 : decode code 690 = .ok (.iadd, 1) := by decide +kernel
theorem dL_691 : decode code 691 = .ok (.iaload, 1) := by decide +kernel
theorem dL_692 : decode code 692 = .ok (.invokevirtual 77, 3) := by decide +kernel
theorem dL_695 : decode code 695 = .ok (.aload_n 2, 1) := by decide +kernel
theorem dL_696 : decode code 696 = .ok (.aload_n 0, 1) := by decide +kernel
theorem dL_697 : decode code 697 = .ok (.iload_n 3, 1) := by decide +kernel
theorem dL_698 : decode code 698 = .ok (.iconst 1, 1) := by decide +kernel
theorem dL_699 : decode code 699 = .ok (.iadd, 1) := by decide +kernel
theorem dL_700 : decode code 700 = .ok (.iaload, 1) := by decide +kernel
theorem dL_701 : decode code 701 = .ok (.invokevirtual 80, 3) := by decide +kernel
theorem dL_704 : decode code 704 = .ok (.if_icmp .eq 794, 3) := by decide +kernel
theorem dL_707 : decode code 707 = .ok (.iconst 0, 1) := by decide +kernel
theorem dL_708 : decode code 708 = .ok (.ireturn, 1) := by decide +kernel
theorem dL_709 : decode code 709 = .ok (.aload_n 1, 1) := by decide +kernel
theorem dL_710 : decode code 710 = .ok (.aload_n 0, 1) := by decide +kernel
theorem dL_711 : decode code 711 = .ok (.iload_n 3, 1) := by decide +kernel
theorem dL_712 : decode code 712 = .ok (.iconst 1, 1) := by decide +kernel
theorem dL_713 : decode code 713 = .ok (.iadd, 1) := by decide +kernel
theorem dL_714 : decode code 714 = .ok (.iaload, 1) := by decide +kernel
theorem dL_715 : decode code 715 = .ok (.aload_n 0, 1) := by decide +kernel
theorem dL_716 : decode code 716 = .ok (.iload_n 3, 1) := by decide +kernel
theorem dL_717 : decode code 717 = .ok (.iconst 2, 1) := by decide +kernel
theorem dL_718 : decode code 718 = .ok (.iadd, 1) := by decide +kernel
theorem dL_719 : decode code 719 = .ok (.iaload, 1) := by decide +kernel
theorem dL_720 : decode code 720 = .ok (.invokevirtual 81, 3) := by decide +kernel
theorem dL_723 : decode code 723 = .ok (.aload_n 2, 1) := by decide +kernel
theorem dL_724 : decode code 724 = .ok (.aload_n 0, 1) := by decide +kernel
theorem dL_725 : decode code 725 = .ok (.iload_n 3, 1) := by decide +kernel
theorem dL_726 : decode code 726 = .ok (.iconst 1, 1) := by decide +kernel
theorem dL_727 : decode code 727 = .ok (.iadd, 1) := by decide +kernel
theorem dL_728 : decode code 728 = .ok (.iaload, 1) := by decide +kernel
theorem dL_729 : decode code 729 = .ok (.aload_n 0, 1) := by decide +kernel
theorem dL_730 : decode code 730 = .ok (.iload_n 3, 1) := by decide +kernel
theorem dL_731 : decode code 731 = .ok (.iconst 2, 1) := by decide +kernel
theorem dL_732 : decode code 732 = .ok (.iadd, 1) := by decide +kernel
theorem dL_733 : decode code 733 = .ok (.iaload, 1) := by decide +kernel
theorem dL_734 : decode code 734 = .ok (.invokevirtual 84, 3) := by decide +kernel
theorem dL_737 : decode code 737 = .ok (.if_icmp .eq 761, 3) := by decide +kernel
theorem dL_740 : decode code 740 = .ok (.iconst 0, 1) := by decide +kernel
theorem dL_741 : decode code 741 = .ok (.ireturn, 1) := by decide +kernel
theorem dL_742 : decode code 742 = .ok (.aload_n 1, 1) := by decide +kernel
theorem dL_743 : decode code 743 = .ok (.invokevirtual 85, 3) := by decide +kernel
theorem dL_746 : decode code 746 = .ok (.aload_n 2, 1) := by decide +kernel
theorem dL_747 : decode code 747 = .ok (.invokevirtual 89, 3) := by decide +kernel
theorem dL_750 : decode code 750 = .ok (.if_icmp .eq 748, 3) := by decide +kernel
theorem dL_753 : decode code 753 = .ok (.iconst 0, 1) := by decide +kernel
theorem dL_754 : decode code 754 = .ok (.ireturn, 1) := by decide +kernel
theorem dL_755 : decode code 755 = .ok (.aload_n 1, 1) := by decide +kernel
theorem dL_756 : decode code 756 = .ok (.aload_n 0, 1) := by decide +kernel
theorem dL_757 : decode code 757 = .ok (.iload_n 3, 1) := by decide +kernel
theorem dL_758 : decode code 758 = .ok (.iconst 1, 1) := by decide +kernel
theorem dL_759 : decode code 759 = .ok (.iadd, 1) := by decide +kernel
theorem dL_760 : decode code 760 = .ok (.iaload, 1) := by decide +kernel
theorem dL_761 : decode code 761 = .ok (.aload_n 0, 1) := by decide +kernel
theorem dL_762 : decode code 762 = .ok (.iload_n 3, 1) := by decide +kernel
theorem dL_763 : decode code 763 = .ok (.iconst 2, 1) := by decide +kernel
theorem dL_764 : decode code 764 = .ok (.iadd, 1) := by decide +kernel
theorem dL_765 : decode code 765 = .ok (.iaload, 1) := by decide +kernel
theorem dL_766 : decode code 766 = .ok (.invokevirtual 90, 3) := by decide +kernel
theorem dL_769 : decode code 769 = .ok (.aload_n 2, 1) := by decide +kernel
theorem dL_770 : decode code 770 = .ok (.aload_n 0, 1) := by decide +kernel
theorem dL_771 : decode code 771 = .ok (.iload_n 3, 1) := by decide +kernel
theorem dL_772 : decode code 772 = .ok (.iconst 1, 1) := by decide +kernel
theorem dL_773 : decode code 773 = .ok (.iadd, 1) := by decide +kernel
theorem dL_774 : decode code 774 = .ok (.iaload, 1) := by decide +kernel
theorem dL_775 : decode code 775 = .ok (.aload_n 0, 1) := by decide +kernel
theorem dL_776 : decode code 776 = .ok (.iload_n 3, 1) := by decide +kernel
theorem dL_777 : decode code 777 = .ok (.iconst 2, 1) := by decide +kernel
theorem dL_778 : decode code 778 = .ok (.iadd, 1) := by decide +kernel
theorem dL_779 : decode code 779 = .ok (.iaload, 1) := by decide +kernel
theorem dL_780 : decode code 780 = .ok (.invokevirtual 93, 3) := by decide +kernel
theorem dL_783 : decode code 783 = .ok (.if_icmp .eq 715, 3) := by decide +kernel
theorem dL_786 : decode code 786 = .ok (.iconst 0, 1) := by decide +kernel
theorem dL_787 : decode code 787 = .ok (.ireturn, 1) := by decide +kernel
theorem dL_788 : decode code 788 = .ok (.aload_n 1, 1) := by decide +kernel
theorem dL_789 : decode code 789 = .ok (.aload_n 0, 1) := by decide +kernel
theorem dL_790 : decode code 790 = .ok (.iload_n 3, 1) := by decide +kernel
theorem dL_791 : decode code 791 = .ok (.iconst 1, 1) := by decide +kernel
theorem dL_792 : decode code 792 = .ok (.iadd, 1) := by decide +kernel
theorem dL_793 : decode code 793 = .ok (.iaload, 1) := by decide +kernel
theorem dL_794 : decode code 794 = .ok (.invokevirtual 94, 3) := by decide +kernel
theorem dL_797 : decode code 797 = .ok (.aload_n 2, 1) := by decide +kernel
theorem dL_798 : decode code 798 = .ok (.aload_n 0, 1) := by decide +kernel
theorem dL_799 : decode code 799 = .ok (.iload_n 3, 1) := by decide +kernel
theorem dL_800 : decode code 800 = .ok (.iconst 1, 1) := by decide +kernel
theorem dL_801 : decode code 801 = .ok (.iadd, 1) := by decide +kernel
theorem dL_802 : decode code 802 = .ok (.iaload, 1) := by decide +kernel
theorem dL_803 : decode code 803 = .ok (.invokevirtual 97, 3) := by decide +kernel
theorem dL_806 : decode code 806 = .ok (.if_icmp .eq 692, 3) := by decide +kernel
theorem dL_809 : decode code 809 = .ok (.iconst 0, 1) := by decide +kernel
theorem dL_810 : decode code 810 = .ok (.ireturn, 1) := by decide +kernel
theorem dL_811 : decode code 811 = .ok (.aload_n 1, 1) := by decide +kernel
theorem dL_812 : decode code 812 = .ok (.aload_n 0, 1) := by decide +kernel
theorem dL_813 : decode code 813 = .ok (.iload_n 3, 1) := by decide +kernel
theorem dL_814 : decode code 814 = .ok (.iconst 1, 1) := by decide +kernel
theorem dL_815 : decode code 815 = .ok (.iadd, 1) := by decide +kernel
theorem dL_816 : decode code 816 = .ok (.iaload, 1) := by decide +kernel
theorem dL_817 : decode code 817 = .ok (.aload_n 0, 1) := by decide +kernel
theorem dL_818 : decode code 818 = .ok (.iload_n 3, 1) := by decide +kernel
theorem dL_819 : decode code 819 = .ok (.iconst 2, 1) := by decide +kernel
theorem dL_820 : decode code 820 = .ok (.iadd, 1) := by decide +kernel
theorem dL_821 : decode code 821 = .ok (.iaload, 1) := by decide +kernel
theorem dL_822 : decode code 822 = .ok (.invokevirtual 98, 3) := by decide +kernel
theorem dL_825 : decode code 825 = .ok (.aload_n 2, 1) := by decide +kernel
theorem dL_826 : decode code 826 = .ok (.aload_n 0, 1) := by decide +kernel
theorem dL_827 : decode code 827 = .ok (.iload_n 3, 1) := by decide +kernel
theorem dL_828 : decode code 828 = .ok (.iconst 1, 1) := by decide +kernel
theorem dL_829 : decode code 829 = .ok (.iadd, 1) := by decide +kernel
theorem dL_830 : decode code 830 = .ok (.iaload, 1) := by decide +kernel
theorem dL_831 : decode code 831 = .ok (.aload_n 0, 1) := by decide +kernel
theorem dL_832 : decode code 832 = .ok (.iload_n 3, 1) := by decide +kernel
theorem dL_833 : decode code 833 = .ok (.iconst 2, 1) := by decide +kernel
theorem dL_834 : decode code 834 = .ok (.iadd, 1) := by decide +kernel
theorem dL_835 : decode code 835 = .ok (.iaload, 1) := by decide +kernel
theorem dL_836 : decode code 836 = .ok (.invokevirtual 101, 3) := by decide +kernel
theorem dL_839 : decode code 839 = .ok (.if_icmp .eq 659, 3) := by decide +kernel
theorem dL_842 : decode code 842 = .ok (.iconst 0, 1) := by decide +kernel
theorem dL_843 : decode code 843 = .ok (.ireturn, 1) := by decide +kernel
theorem dL_844 : decode code 844 = .ok (.aload_n 1, 1) := by decide +kernel
theorem dL_845 : decode code 845 = .ok (.aload_n 0, 1) := by decide +kernel
theorem dL_846 : decode code 846 = .ok (.iload_n 3, 1) := by decide +kernel
theorem dL_847 : decode code 847 = .ok (.iconst 1, 1) := by decide +kernel
theorem dL_848 : decode code 848 = .ok (.iadd, 1) := by decide +kernel
theorem dL_849 : decode code 849 = .ok (.iaload, 1) := by decide +kernel
theorem dL_850 : decode code 850 = .ok (.invokevirtual 102, 3) := by decide +kernel
theorem dL_853 : decode code 853 = .ok (.aload_n 2, 1) := by decide +kernel
theorem dL_854 : decode code 854 = .ok (.aload_n 0, 1) := by decide +kernel
theorem dL_855 : decode code 855 = .ok (.iload_n 3, 1) := by decide +kernel
theorem dL_856 : decode code 856 = .ok (.iconst 1, 1) := by decide +kernel
theorem dL_857 : decode code 857 = .ok (.iadd, 1) := by decide +kernel
theorem dL_858 : decode code 858 = .ok (.iaload, 1) := by decide +kernel
theorem dL_859 : decode code 859 = .ok (.invokevirtual 105, 3) := by decide +kernel
theorem dL_862 : decode code 862 = .ok (.if_icmp .eq 636, 3) := by decide +kernel
theorem dL_865 : decode code 865 = .ok (.iconst 0, 1) := by decide +kernel
theorem dL_866 : decode code 866 = .ok (.ireturn, 1) := by decide +kernel
theorem dL_867 : decode code 867 = .ok (.aload_n 1, 1) := by decide +kernel
theorem dL_868 : decode code 868 = .ok (.invokevirtual 106, 3) := by decide +kernel
theorem dL_871 : decode code 871 = .ok (.aload_n 2, 1) := by decide +kernel
theorem dL_872 : decode code 872 = .ok (.invokevirtual 109, 3) := by decide +kernel
theorem dL_875 : decode code 875 = .ok (.if_icmp .eq 623, 3) := by decide +kernel
theorem dL_878 : decode code 878 = .ok (.iconst 0, 1) := by decide +kernel
theorem dL_879 : decode code 879 = .ok (.ireturn, 1) := by decide +kernel
theorem dL_880 : decode code 880 = .ok (.aload_n 1, 1) := by decide +kernel
theorem dL_881 : decode code 881 = .ok (.aload_n 0, 1) := by decide +kernel
theorem dL_882 : decode code 882 = .ok (.iload_n 3, 1) := by decide +kernel
theorem dL_883 : decode code 883 = .ok (.iconst 1, 1) := by decide +kernel
theorem dL_884 : decode code 884 = .ok (.iadd, 1) := by decide +kernel
theorem dL_885 : decode code 885 = .ok (.iaload, 1) := by decide +kernel
theorem dL_886 : decode code 886 = .ok (.aload_n 0, 1) := by decide +kernel
theorem dL_887 : decode code 887 = .ok (.iload_n 3, 1) := by decide +kernel
theorem dL_888 : decode code 888 = .ok (.iconst 2, 1) := by decide +kernel
theorem dL_889 : decode code 889 = .ok (.iadd, 1) := by decide +kernel
theorem dL_890 : decode code 890 = .ok (.iaload, 1) := by decide +kernel
theorem dL_891 : decode code 891 = .ok (.invokevirtual 110, 3) := by decide +kernel
theorem dL_894 : decode code 894 = .ok (.aload_n 2, 1) := by decide +kernel
theorem dL_895 : decode code 895 = .ok (.aload_n 0, 1) := by decide +kernel
theorem dL_896 : decode code 896 = .ok (.iload_n 3, 1) := by decide +kernel
theorem dL_897 : decode code 897 = .ok (.iconst 1, 1) := by decide +kernel
theorem dL_898 : decode code 898 = .ok (.iadd, 1) := by decide +kernel
theorem dL_899 : decode code 899 = .ok (.iaload, 1) := by decide +kernel
theorem dL_900 : decode code 900 = .ok (.aload_n 0, 1) := by decide +kernel
theorem dL_901 : decode code 901 = .ok (.iload_n 3, 1) := by decide +kernel
theorem dL_902 : decode code 902 = .ok (.iconst 2, 1) := by decide +kernel
theorem dL_903 : decode code 903 = .ok (.iadd, 1) := by decide +kernel
theorem dL_904 : decode code 904 = .ok (.iaload, 1) := by decide +kernel
theorem dL_905 : decode code 905 = .ok (.invokevirtual 113, 3) := by decide +kernel
theorem dL_908 : decode code 908 = .ok (.if_icmp .eq 590, 3) := by decide +kernel
theorem dL_911 : decode code 911 = .ok (.iconst 0, 1) := by decide +kernel
theorem dL_912 : decode code 912 = .ok (.ireturn, 1) := by decide +kernel
theorem dL_913 : decode code 913 = .ok (.aload_n 1, 1) := by decide +kernel
theorem dL_914 : decode code 914 = .ok (.aload_n 0, 1) := by decide +kernel
theorem dL_915 : decode code 915 = .ok (.iload_n 3, 1) := by decide +kernel
theorem dL_916 : decode code 916 = .ok (.iconst 1, 1) := by decide +kernel
theorem dL_917 : decode code 917 = .ok (.iadd, 1) := by decide +kernel
theorem dL_918 : decode code 918 = .ok (.iaload, 1) := by decide +kernel
theorem dL_919 : decode code 919 = .ok (.invokevirtual 114, 3) := by decide +kernel
theorem dL_922 : decode code 922 = .ok (.aload_n 2, 1) := by decide +kernel
theorem dL_923 : decode code 923 = .ok (.aload_n 0, 1) := by decide +kernel
theorem dL_924 : decode code 924 = .ok (.iload_n 3, 1) := by decide +kernel
theorem dL_925 : decode code 925 = .ok (.iconst 1, 1) := by decide +kernel
theorem dL_926 : decode code 926 = .ok (.iadd, 1) := by decide +kernel
theorem dL_927 : decode code 927 = .ok (.iaload, 1) := by decide +kernel
theorem dL_928 : decode code 928 = .ok (.invokevirtual 117, 3) := by decide +kernel
theorem dL_931 : decode code 931 = .ok (.if_icmp .eq 567, 3) := by decide +kernel
theorem dL_934 : decode code 934 = .ok (.iconst 0, 1) := by decide +kernel
theorem dL_935 : decode code 935 = .ok (.ireturn, 1) := by decide +kernel
theorem dL_936 : decode code 936 = .ok (.aload_n 1, 1) := by decide +kernel
theorem dL_937 : decode code 937 = .ok (.invokevirtual 118, 3) := by decide +kernel
theorem dL_940 : decode code 940 = .ok (.aload_n 2, 1) := by decide +kernel
theorem dL_941 : decode code 941 = .ok (.invokevirtual 122, 3) := by decide +kernel
theorem dL_944 : decode code 944 = .ok (.lcmp, 1) := by decide +kernel
theorem dL_945 : decode code 945 = .ok (.ifCond .eq 553, 3) := by decide +kernel
theorem dL_948 : decode code 948 = .ok (.iconst 0, 1) := by decide +kernel
theorem dL_949 : decode code 949 = .ok (.ireturn, 1) := by decide +kernel
theorem dL_950 : decode code 950 = .ok (.aload_n 1, 1) := by decide +kernel
theorem dL_951 : decode code 951 = .ok (.aload_n 0, 1) := by decide +kernel
theorem dL_952 : decode code 952 = .ok (.iload_n 3, 1) := by decide +kernel
theorem dL_953 : decode code 953 = .ok (.iconst 1, 1) := by decide +kernel
theorem dL_954 : decode code 954 = .ok (.iadd, 1) := by decide +kernel
theorem dL_955 : decode code 955 = .ok (.iaload, 1) := by decide +kernel
theorem dL_956 : decode code 956 = .ok (.invokevirtual 123, 3) := by decide +kernel
theorem dL_959 : decode code 959 = .ok (.aload_n 2, 1) := by decide +kernel
theorem dL_960 : decode code 960 = .ok (.aload_n 0, 1) := by decide +kernel
theorem dL_961 : decode code 961 = .ok (.iload_n 3, 1) := by decide +kernel
theorem dL_962 : decode code 962 = .ok (.iconst 1, 1) := by decide +kernel
theorem dL_963 : decode code 963 = .ok (.iadd, 1) := by decide +kernel
theorem dL_964 : decode code 964 = .ok (.iaload, 1) := by decide +kernel
theorem dL_965 : decode code 965 = .ok (.invokevirtual 127, 3) := by decide +kernel
theorem dL_968 : decode code 968 = .ok (.lcmp, 1) := by decide +kernel
theorem dL_969 : decode code 969 = .ok (.ifCond .eq 529, 3) := by decide +kernel
theorem dL_972 : decode code 972 = .ok (.iconst 0, 1) := by decide +kernel
theorem dL_973 : decode code 973 = .ok (.ireturn, 1) := by decide +kernel
theorem dL_974 : decode code 974 = .ok (.aload_n 1, 1) := by decide +kernel
theorem dL_975 : decode code 975 = .ok (.aload_n 0, 1) := by decide +kernel
theorem dL_976 : decode code 976 = .ok (.iload_n 3, 1) := by decide +kernel
theorem dL_977 : decode code 977 = .ok (.iconst 1, 1) := by decide +kernel
theorem dL_978 : decode code 978 = .ok (.iadd, 1) := by decide +kernel
theorem dL_979 : decode code 979 = .ok (.iaload, 1) := by decide +kernel
theorem dL_980 : decode code 980 = .ok (.aload_n 0, 1) := by decide +kernel
theorem dL_981 : decode code 981 = .ok (.iload_n 3, 1) := by decide +kernel
theorem dL_982 : decode code 982 = .ok (.iconst 2, 1) := by decide +kernel
theorem dL_983 : decode code 983 = .ok (.iadd, 1) := by decide +kernel
theorem dL_984 : decode code 984 = .ok (.iaload, 1) := by decide +kernel
theorem dL_985 : decode code 985 = .ok (.invokevirtual 128, 3) := by decide +kernel
theorem dL_988 : decode code 988 = .ok (.aload_n 2, 1) := by decide +kernel
theorem dL_989 : decode code 989 = .ok (.aload_n 0, 1) := by decide +kernel
theorem dL_990 : decode code 990 = .ok (.iload_n 3, 1) := by decide +kernel
theorem dL_991 : decode code 991 = .ok (.iconst 1, 1) := by decide +kernel
theorem dL_992 : decode code 992 = .ok (.iadd, 1) := by decide +kernel
theorem dL_993 : decode code 993 = .ok (.iaload, 1) := by decide +kernel
theorem dL_994 : decode code 994 = .ok (.aload_n 0, 1) := by decide +kernel
theorem dL_995 : decode code 995 = .ok (.iload_n 3, 1) := by decide +kernel
theorem dL_996 : decode code 996 = .ok (.iconst 2, 1) := by decide +kernel
theorem dL_997 : decode code 997 = .ok (.iadd, 1) := by decide +kernel
theorem dL_998 : decode code 998 = .ok (.iaload, 1) := by decide +kernel
theorem dL_999 : decode code 999 = .ok (.invokevirtual 131, 3) := by decide +kernel
theorem dL_1002 : decode code 1002 = .ok (.lcmp, 1) := by decide +kernel
theorem dL_1003 : decode code 1003 = .ok (.ifCond .eq 495, 3) := by decide +kernel
theorem dL_1006 : decode code 1006 = .ok (.iconst 0, 1) := by decide +kernel
theorem dL_1007 : decode code 1007 = .ok (.ireturn, 1) := by decide +kernel
theorem dL_1008 : decode code 1008 = .ok (.aload_n 1, 1) := by decide +kernel
theorem dL_1009 : decode code 1009 = .ok (.invokevirtual 132, 3) := by decide +kernel
theorem dL_1012 : decode code 1012 = .ok (.aload_n 2, 1) := by decide +kernel
theorem dL_1013 : decode code 1013 = .ok (.invokevirtual 135, 3) := by decide +kernel
theorem dL_1016 : decode code 1016 = .ok (.if_icmp .eq 482, 3) := by decide +kernel
theorem dL_1019 : decode code 1019 = .ok (.iconst 0, 1) := by decide +kernel
theorem dL_1020 : decode code 1020 = .ok (.ireturn, 1) := by decide +kernel
theorem dL_1021 : decode code 1021 = .ok (.aload_n 1, 1) := by decide +kernel
theorem dL_1022 : decode code 1022 = .ok (.aload_n 0, 1) := by decide +kernel
theorem dL_1023 : decode code 1023 = .ok (.iload_n 3, 1) := by decide +kernel
theorem dL_1024 : decode code 1024 = .ok (.iconst 1, 1) := by decide +kernel
theorem dL_1025 : decode code 1025 = .ok (.iadd, 1) := by decide +kernel
theorem dL_1026 : decode code 1026 = .ok (.iaload, 1) := by decide +kernel
theorem dL_1027 : decode code 1027 = .ok (.invokevirtual 136, 3) := by decide +kernel
theorem dL_1030 : decode code 1030 = .ok (.aload_n 2, 1) := by decide +kernel
theorem dL_1031 : decode code 1031 = .ok (.aload_n 0, 1) := by decide +kernel
theorem dL_1032 : decode code 1032 = .ok (.iload_n 3, 1) := by decide +kernel
theorem dL_1033 : decode code 1033 = .ok (.iconst 1, 1) := by decide +kernel
theorem dL_1034 : decode code 1034 = .ok (.iadd, 1) := by decide +kernel
theorem dL_1035 : decode code 1035 = .ok (.iaload, 1) := by decide +kernel
theorem dL_1036 : decode code 1036 = .ok (.invokevirtual 139, 3) := by decide +kernel
theorem dL_1039 : decode code 1039 = .ok (.if_icmp .eq 459, 3) := by decide +kernel
theorem dL_1042 : decode code 1042 = .ok (.iconst 0, 1) := by decide +kernel
theorem dL_1043 : decode code 1043 = .ok (.ireturn, 1) := by decide +kernel
theorem dL_1044 : decode code 1044 = .ok (.aload_n 1, 1) := by decide +kernel
theorem dL_1045 : decode code 1045 = .ok (.aload_n 0, 1) := by decide +kernel
theorem dL_1046 : decode code 1046 = .ok (.iload_n 3, 1) := by decide +kernel
theorem dL_1047 : decode code 1047 = .ok (.iconst 1, 1) := by decide +kernel
theorem dL_1048 : decode code 1048 = .ok (.iadd, 1) := by decide +kernel
theorem dL_1049 : decode code 1049 = .ok (.iaload, 1) := by decide +kernel
theorem dL_1050 : decode code 1050 = .ok (.invokevirtual 140, 3) := by decide +kernel
theorem dL_1053 : decode code 1053 = .ok (.aload_n 2, 1) := by decide +kernel
theorem dL_1054 : decode code 1054 = .ok (.aload_n 0, 1) := by decide +kernel
theorem dL_1055 : decode code 1055 = .ok (.iload_n 3, 1) := by decide +kernel
theorem dL_1056 : decode code 1056 = .ok (.iconst 1, 1) := by decide +kernel
theorem dL_1057 : decode code 1057 = .ok (.iadd, 1) := by decide +kernel
theorem dL_1058 : decode code 1058 = .ok (.iaload, 1) := by decide +kernel
theorem dL_1059 : decode code 1059 = .ok (.invokevirtual 143, 3) := by decide +kernel
theorem dL_1062 : decode code 1062 = .ok (.lcmp, 1) := by decide +kernel
theorem dL_1063 : decode code 1063 = .ok (.ifCond .eq 435, 3) := by decide +kernel
theorem dL_1066 : decode code 1066 = .ok (.iconst 0, 1) := by decide +kernel
theorem dL_1067 : decode code 1067 = .ok (.ireturn, 1) := by decide +kernel
theorem dL_1068 : decode code 1068 = .ok (.aload_n 1, 1) := by decide +kernel
theorem dL_1069 : decode code 1069 = .ok (.aload_n 0, 1) := by decide +kernel
theorem dL_1070 : decode code 1070 = .ok (.iload_n 3, 1) := by decide +kernel
theorem dL_1071 : decode code 1071 = .ok (.iconst 1, 1) := by decide +kernel
theorem dL_1072 : decode code 1072 = .ok (.iadd, 1) := by decide +kernel
theorem dL_1073 : decode code 1073 = .ok (.iaload, 1) := by decide +kernel
theorem dL_1074 : decode code 1074 = .ok (.invokevirtual 144, 3) := by decide +kernel
theorem dL_1077 : decode code 1077 = .ok (.aload_n 2, 1) := by decide +kernel
theorem dL_1078 : decode code 1078 = .ok (.aload_n 0, 1) := by decide +kernel
theorem dL_1079 : decode code 1079 = .ok (.iload_n 3, 1) := by decide +kernel
theorem dL_1080 : decode code 1080 = .ok (.iconst 1, 1) := by decide +kernel
theorem dL_1081 : decode code 1081 = .ok (.iadd, 1) := by decide +kernel
theorem dL_1082 : decode code 1082 = .ok (.iaload, 1) := by decide +kernel
theorem dL_1083 : decode code 1083 = .ok (.invokevirtual 147, 3) := by decide +kernel
theorem dL_1086 : decode code 1086 = .ok (.lcmp, 1) := by decide +kernel
theorem dL_1087 : decode code 1087 = .ok (.ifCond .eq 411, 3) := by decide +kernel
theorem dL_1090 : decode code 1090 = .ok (.iconst 0, 1) := by decide +kernel
theorem dL_1091 : decode code 1091 = .ok (.ireturn, 1) := by decide +kernel
theorem dL_1092 : decode code 1092 = .ok (.aload_n 1, 1) := by decide +kernel
theorem dL_1093 : decode code 1093 = .ok (.aload_n 0, 1) := by decide +kernel
theorem dL_1094 : decode code 1094 = .ok (.iload_n 3, 1) := by decide +kernel
theorem dL_1095 : decode code 1095 = .ok (.iconst 1, 1) := by decide +kernel
theorem dL_1096 : decode code 1096 = .ok (.iadd, 1) := by decide +kernel
theorem dL_1097 : decode code 1097 = .ok (.iaload, 1) := by decide +kernel
theorem dL_1098 : decode code 1098 = .ok (.invokevirtual 148, 3) := by decide +kernel
theorem dL_1101 : decode code 1101 = .ok (.aload_n 2, 1) := by decide +kernel
theorem dL_1102 : decode code 1102 = .ok (.aload_n 0, 1) := by decide +kernel
theorem dL_1103 : decode code 1103 = .ok (.iload_n 3, 1) := by decide +kernel
theorem dL_1104 : decode code 1104 = .ok (.iconst 1, 1) := by decide +kernel
theorem dL_1105 : decode code 1105 = .ok (.iadd, 1) := by decide +kernel
theorem dL_1106 : decode code 1106 = .ok (.iaload, 1) := by decide +kernel
theorem dL_1107 : decode code 1107 = .ok (.invokevirtual 151, 3) := by decide +kernel
theorem dL_1110 : decode code 1110 = .ok (.lcmp, 1) := by decide +kernel
theorem dL_1111 : decode code 1111 = .ok (.ifCond .eq 387, 3) := by decide +kernel
theorem dL_1114 : decode code 1114 = .ok (.iconst 0, 1) := by decide +kernel
theorem dL_1115 : decode code 1115 = .ok (.ireturn, 1) := by decide +kernel
theorem dL_1116 : decode code 1116 = .ok (.aload_n 1, 1) := by decide +kernel
theorem dL_1117 : decode code 1117 = .ok (.aload_n 0, 1) := by decide +kernel
theorem dL_1118 : decode code 1118 = .ok (.iload_n 3, 1) := by decide +kernel
theorem dL_1119 : decode code 1119 = .ok (.iconst 1, 1) := by decide +kernel
theorem dL_1120 : decode code 1120 = .ok (.iadd, 1) := by decide +kernel
theorem dL_1121 : decode code 1121 = .ok (.iaload, 1) := by decide +kernel
theorem dL_1122 : decode code 1122 = .ok (.invokevirtual 152, 3) := by decide +kernel
theorem dL_1125 : decode code 1125 = .ok (.aload_n 2, 1) := by decide +kernel
theorem dL_1126 : decode code 1126 = .ok (.aload_n 0, 1) := by decide +kernel
theorem dL_1127 : decode code 1127 = .ok (.iload_n 3, 1) := by decide +kernel
theorem dL_1128 : decode code 1128 = .ok (.iconst 1, 1) := by decide +kernel
theorem dL_1129 : decode code 1129 = .ok (.iadd, 1) := by decide +kernel
theorem dL_1130 : decode code 1130 = .ok (.iaload, 1) := by decide +kernel
theorem dL_1131 : decode code 1131 = .ok (.invokevirtual 155, 3) := by decide +kernel
theorem dL_1134 : decode code 1134 = .ok (.if_icmp .eq 364, 3) := by decide +kernel
theorem dL_1137 : decode code 1137 = .ok (.iconst 0, 1) := by decide +kernel
theorem dL_1138 : decode code 1138 = .ok (.ireturn, 1) := by decide +kernel
theorem dL_1139 : decode code 1139 = .ok (.aload_n 1, 1) := by decide +kernel
theorem dL_1140 : decode code 1140 = .ok (.aload_n 0, 1) := by decide +kernel
theorem dL_1141 : decode code 1141 = .ok (.iload_n 3, 1) := by decide +kernel
theorem dL_1142 : decode code 1142 = .ok (.iconst 1, 1) := by decide +kernel
theorem dL_1143 : decode code 1143 = .ok (.iadd, 1) := by decide +kernel
theorem dL_1144 : decode code 1144 = .ok (.iaload, 1) := by decide +kernel
theorem dL_1145 : decode code 1145 = .ok (.invokevirtual 156, 3) := by decide +kernel
theorem dL_1148 : decode code 1148 = .ok (.aload_n 2, 1) := by decide +kernel
theorem dL_1149 : decode code 1149 = .ok (.aload_n 0, 1) := by decide +kernel
theorem dL_1150 : decode code 1150 = .ok (.iload_n 3, 1) := by decide +kernel
theorem dL_1151 : decode code 1151 = .ok (.iconst 1, 1) := by decide +kernel
theorem dL_1152 : decode code 1152 = .ok (.iadd, 1) := by decide +kernel
theorem dL_1153 : decode code 1153 = .ok (.iaload, 1) := by decide +kernel
theorem dL_1154 : decode code 1154 = .ok (.invokevirtual 159, 3) := by decide +kernel
theorem dL_1157 : decode code 1157 = .ok (.if_icmp .eq 341, 3) := by decide +kernel
theorem dL_1160 : decode code 1160 = .ok (.iconst 0, 1) := by decide +kernel
theorem dL_1161 : decode code 1161 = .ok (.ireturn, 1) := by decide +kernel
theorem dL_1162 : decode code 1162 = .ok (.aload_n 1, 1) := by decide +kernel
theorem dL_1163 : decode code 1163 = .ok (.aload_n 0, 1) := by decide +kernel
theorem dL_1164 : decode code 1164 = .ok (.iload_n 3, 1) := by decide +kernel
theorem dL_1165 : decode code 1165 = .ok (.iconst 1, 1) := by decide +kernel
theorem dL_1166 : decode code 1166 = .ok (.iadd, 1) := by decide +kernel
theorem dL_1167 : decode code 1167 = .ok (.iaload, 1) := by decide +kernel
theorem dL_1168 : decode code 1168 = .ok (.aload_n 0, 1) := by decide +kernel
theorem dL_1169 : decode code 1169 = .ok (.iload_n 3, 1) := by decide +kernel
theorem dL_1170 : decode code 1170 = .ok (.iconst 2, 1) := by decide +kernel
theorem dL_1171 : decode code 1171 = .ok (.iadd, 1) := by decide +kernel
theorem dL_1172 : decode code 1172 = .ok (.iaload, 1) := by decide +kernel
theorem dL_1173 : decode code 1173 = .ok (.i2l, 1) := by decide +kernel
theorem dL_1174 : decode code 1174 = .ok (.bipush 32, 2) := by decide +kernel
theorem dL_1176 : decode code 1176 = .ok (.lshl, 1) := by decide +kernel
theorem dL_1177 : decode code 1177 = .ok (.aload_n 0, 1) := by decide +kernel
theorem dL_1178 : decode code 1178 = .ok (.iload_n 3, 1) := by decide +kernel
theorem dL_1179 : decode code 1179 = .ok (.iconst 3, 1) := by decide +kernel
theorem dL_1180 : decode code 1180 = .ok (.iadd, 1) := by decide +kernel
theorem dL_1181 : decode code 1181 = .ok (.iaload, 1) := by decide +kernel
theorem dL_1182 : decode code 1182 = .ok (.i2l, 1) := by decide +kernel
theorem dL_1183 : decode code 1183 = .ok (.ldc2_w 160, 3) := by decide +kernel
theorem dL_1186 : decode code 1186 = .ok (.land, 1) := by decide +kernel
theorem dL_1187 : decode code 1187 = .ok (.lor, 1) := by decide +kernel
theorem dL_1188 : decode code 1188 = .ok (.aload_n 0, 1) := by decide +kernel
theorem dL_1189 : decode code 1189 = .ok (.iload_n 3, 1) := by decide +kernel
theorem dL_1190 : decode code 1190 = .ok (.iconst 4, 1) := by decide +kernel
theorem dL_1191 : decode code 1191 = .ok (.iadd, 1) := by decide +kernel
theorem dL_1192 : decode code 1192 = .ok (.iaload, 1) := by decide +kernel
theorem dL_1193 : decode code 1193 = .ok (.aload_n 0, 1) := by decide +kernel
theorem dL_1194 : decode code 1194 = .ok (.iload_n 3, 1) := by decide +kernel
theorem dL_1195 : decode code 1195 = .ok (.iconst 5, 1) := by decide +kernel
theorem dL_1196 : decode code 1196 = .ok (.iadd, 1) := by decide +kernel
theorem dL_1197 : decode code 1197 = .ok (.iaload, 1) := by decide +kernel
theorem dL_1198 : decode code 1198 = .ok (.invokevirtual 162, 3) := by decide +kernel
theorem dL_1201 : decode code 1201 = .ok (.aload_n 2, 1) := by decide +kernel
theorem dL_1202 : decode code 1202 = .ok (.aload_n 0, 1) := by decide +kernel
theorem dL_1203 : decode code 1203 = .ok (.iload_n 3, 1) := by decide +kernel
theorem dL_1204 : decode code 1204 = .ok (.iconst 1, 1) := by decide +kernel
theorem dL_1205 : decode code 1205 = .ok (.iadd, 1) := by decide +kernel
theorem dL_1206 : decode code 1206 = .ok (.iaload, 1) := by decide +kernel
theorem dL_1207 : decode code 1207 = .ok (.aload_n 0, 1) := by decide +kernel
theorem dL_1208 : decode code 1208 = .ok (.iload_n 3, 1) := by decide +kernel
theorem dL_1209 : decode code 1209 = .ok (.iconst 2, 1) := by decide +kernel
theorem dL_1210 : decode code 1210 = .ok (.iadd, 1) := by decide +kernel
theorem dL_1211 : decode code 1211 = .ok (.iaload, 1) := by decide +kernel
theorem dL_1212 : decode code 1212 = .ok (.i2l, 1) := by decide +kernel
theorem dL_1213 : decode code 1213 = .ok (.bipush 32, 2) := by decide +kernel
theorem dL_1215 : decode code 1215 = .ok (.lshl, 1) := by decide +kernel
theorem dL_1216 : decode code 1216 = .ok (.aload_n 0, 1) := by decide +kernel
theorem dL_1217 : decode code 1217 = .ok (.iload_n 3, 1) := by decide +kernel
theorem dL_1218 : decode code 1218 = .ok (.iconst 3, 1) := by decide +kernel
theorem dL_1219 : decode code 1219 = .ok (.iadd, 1) := by decide +kernel
theorem dL_1220 : decode code 1220 = .ok (.iaload, 1) := by decide +kernel
theorem dL_1221 : decode code 1221 = .ok (.i2l, 1) := by decide +kernel
theorem dL_1222 : decode code 1222 = .ok (.ldc2_w 160, 3) := by decide +kernel
theorem dL_1225 : decode code 1225 = .ok (.land, 1) := by decide +kernel
theorem dL_1226 : decode code 1226 = .ok (.lor, 1) := by decide +kernel
theorem dL_1227 : decode code 1227 = .ok (.aload_n 0, 1) := by decide +kernel
theorem dL_1228 : decode code 1228 = .ok (.iload_n 3, 1) := by decide +kernel
theorem dL_1229 : decode code 1229 = .ok (.iconst 4, 1) := by decide +kernel
theorem dL_1230 : decode code 1230 = .ok (.iadd, 1) := by decide +kernel
theorem dL_1231 : decode code 1231 = .ok (.iaload, 1) := by decide +kernel
theorem dL_1232 : decode code 1232 = .ok (.aload_n 0, 1) := by decide +kernel
theorem dL_1233 : decode code 1233 = .ok (.iload_n 3, 1) := by decide +kernel
theorem dL_1234 : decode code 1234 = .ok (.iconst 5, 1) := by decide +kernel
theorem dL_1235 : decode code 1235 = .ok (.iadd, 1) := by decide +kernel
theorem dL_1236 : decode code 1236 = .ok (.iaload, 1) := by decide +kernel
theorem dL_1237 : decode code 1237 = .ok (.invokevirtual 166, 3) := by decide +kernel
theorem dL_1240 : decode code 1240 = .ok (.if_icmp .eq 258, 3) := by decide +kernel
theorem dL_1243 : decode code 1243 = .ok (.iconst 0, 1) := by decide +kernel
theorem dL_1244 : decode code 1244 = .ok (.ireturn, 1) := by decide +kernel
theorem dL_1245 : decode code 1245 = .ok (.aload_n 1, 1) := by decide +kernel
theorem dL_1246 : decode code 1246 = .ok (.aload_n 0, 1) := by decide +kernel
theorem dL_1247 : decode code 1247 = .ok (.iload_n 3, 1) := by decide +kernel
theorem dL_1248 : decode code 1248 = .ok (.iconst 1, 1) := by decide +kernel
theorem dL_1249 : decode code 1249 = .ok (.iadd, 1) := by decide +kernel
theorem dL_1250 : decode code 1250 = .ok (.iaload, 1) := by decide +kernel
theorem dL_1251 : decode code 1251 = .ok (.aload_n 0, 1) := by decide +kernel
theorem dL_1252 : decode code 1252 = .ok (.iload_n 3, 1) := by decide +kernel
theorem dL_1253 : decode code 1253 = .ok (.iconst 2, 1) := by decide +kernel
theorem dL_1254 : decode code 1254 = .ok (.iadd, 1) := by decide +kernel
theorem dL_1255 : decode code 1255 = .ok (.iaload, 1) := by decide +kernel
theorem dL_1256 : decode code 1256 = .ok (.aload_n 0, 1) := by decide +kernel
theorem dL_1257 : decode code 1257 = .ok (.iload_n 3, 1) := by decide +kernel
theorem dL_1258 : decode code 1258 = .ok (.iconst 3, 1) := by decide +kernel
theorem dL_1259 : decode code 1259 = .ok (.iadd, 1) := by decide +kernel
theorem dL_1260 : decode code 1260 = .ok (.iaload, 1) := by decide +kernel
theorem dL_1261 : decode code 1261 = .ok (.invokevirtual 167, 3) := by decide +kernel
theorem dL_1264 : decode code 1264 = .ok (.aload_n 2, 1) := by decide +kernel
theorem dL_1265 : decode code 1265 = .ok (.aload_n 0, 1) := by decide +kernel
theorem dL_1266 : decode code 1266 = .ok (.iload_n 3, 1) := by decide +kernel
theorem dL_1267 : decode code 1267 = .ok (.iconst 1, 1) := by decide +kernel
theorem dL_1268 : decode code 1268 = .ok (.iadd, 1) := by decide +kernel
theorem dL_1269 : decode code 1269 = .ok (.iaload, 1) := by decide +kernel
theorem dL_1270 : decode code 1270 = .ok (.aload_n 0, 1) := by decide +kernel
theorem dL_1271 : decode code 1271 = .ok (.iload_n 3, 1) := by decide +kernel
theorem dL_1272 : decode code 1272 = .ok (.iconst 2, 1) := by decide +kernel
theorem dL_1273 : decode code 1273 = .ok (.iadd, 1) := by decide +kernel
theorem dL_1274 : decode code 1274 = .ok (.iaload, 1) := by decide +kernel
theorem dL_1275 : decode code 1275 = .ok (.aload_n 0, 1) := by decide +kernel
theorem dL_1276 : decode code 1276 = .ok (.iload_n 3, 1) := by decide +kernel
theorem dL_1277 : decode code 1277 = .ok (.iconst 3, 1) := by decide +kernel
theorem dL_1278 : decode code 1278 = .ok (.iadd, 1) := by decide +kernel
theorem dL_1279 : decode code 1279 = .ok (.iaload, 1) := by decide +kernel
theorem dL_1280 : decode code 1280 = .ok (.invokevirtual 171, 3) := by decide +kernel
theorem dL_1283 : decode code 1283 = .ok (.lcmp, 1) := by decide +kernel
theorem dL_1284 : decode code 1284 = .ok (.ifCond .eq 214, 3) := by decide +kernel
theorem dL_1287 : decode code 1287 = .ok (.iconst 0, 1) := by decide +kernel
theorem dL_1288 : decode code 1288 = .ok (.ireturn, 1) := by decide +kernel
theorem dL_1289 : decode code 1289 = .ok (.aload_n 1, 1) := by decide +kernel
theorem dL_1290 : decode code 1290 = .ok (.aload_n 0, 1) := by decide +kernel
theorem dL_1291 : decode code 1291 = .ok (.iload_n 3, 1) := by decide +kernel
theorem dL_1292 : decode code 1292 = .ok (.iconst 1, 1) := by decide +kernel
theorem dL_1293 : decode code 1293 = .ok (.iadd, 1) := by decide +kernel
theorem dL_1294 : decode code 1294 = .ok (.iaload, 1) := by decide +kernel
theorem dL_1295 : decode code 1295 = .ok (.aload_n 0, 1) := by decide +kernel
theorem dL_1296 : decode code 1296 = .ok (.iload_n 3, 1) := by decide +kernel
theorem dL_1297 : decode code 1297 = .ok (.iconst 2, 1) := by decide +kernel
theorem dL_1298 : decode code 1298 = .ok (.iadd, 1) := by decide +kernel
theorem dL_1299 : decode code 1299 = .ok (.iaload, 1) := by decide +kernel
theorem dL_1300 : decode code 1300 = .ok (.aload_n 0, 1) := by decide +kernel
theorem dL_1301 : decode code 1301 = .ok (.iload_n 3, 1) := by decide +kernel
theorem dL_1302 : decode code 1302 = .ok (.iconst 3, 1) := by decide +kernel
theorem dL_1303 : decode code 1303 = .ok (.iadd, 1) := by decide +kernel
theorem dL_1304 : decode code 1304 = .ok (.iaload, 1) := by decide +kernel
theorem dL_1305 : decode code 1305 = .ok (.invokevirtual 172, 3) := by decide +kernel
theorem dL_1308 : decode code 1308 = .ok (.aload_n 2, 1) := by decide +kernel
theorem dL_1309 : decode code 1309 = .ok (.aload_n 0, 1) := by decide +kernel
theorem dL_1310 : decode code 1310 = .ok (.iload_n 3, 1) := by decide +kernel
theorem dL_1311 : decode code 1311 = .ok (.iconst 1, 1) := by decide +kernel
theorem dL_1312 : decode code 1312 = .ok (.iadd, 1) := by decide +kernel
theorem dL_1313 : decode code 1313 = .ok (.iaload, 1) := by decide +kernel
theorem dL_1314 : decode code 1314 = .ok (.aload_n 0, 1) := by decide +kernel
theorem dL_1315 : decode code 1315 = .ok (.iload_n 3, 1) := by decide +kernel
theorem dL_1316 : decode code 1316 = .ok (.iconst 2, 1) := by decide +kernel
theorem dL_1317 : decode code 1317 = .ok (.iadd, 1) := by decide +kernel
theorem dL_1318 : decode code 1318 = .ok (.iaload, 1) := by decide +kernel
theorem dL_1319 : decode code 1319 = .ok (.aload_n 0, 1) := by decide +kernel
theorem dL_1320 : decode code 1320 = .ok (.iload_n 3, 1) := by decide +kernel
theorem dL_1321 : decode code 1321 = .ok (.iconst 3, 1) := by decide +kernel
theorem dL_1322 : decode code 1322 = .ok (.iadd, 1) := by decide +kernel
theorem dL_1323 : decode code 1323 = .ok (.iaload, 1) := by decide +kernel
theorem dL_1324 : decode code 1324 = .ok (.invokevirtual 176, 3) := by decide +kernel
theorem dL_1327 : decode code 1327 = .ok (.if_icmp .eq 171, 3) := by decide +kernel
theorem dL_1330 : decode code 1330 = .ok (.iconst 0, 1) := by decide +kernel
theorem dL_1331 : decode code 1331 = .ok (.ireturn, 1) := by decide +kernel
theorem dL_1332 : decode code 1332 = .ok (.aload_n 1, 1) := by decide +kernel
theorem dL_1333 : decode code 1333 = .ok (.aload_n 0, 1) := by decide +kernel
theorem dL_1334 : decode code 1334 = .ok (.iload_n 3, 1) := by decide +kernel
theorem dL_1335 : decode code 1335 = .ok (.iconst 1, 1) := by decide +kernel
theorem dL_1336 : decode code 1336 = .ok (.iadd, 1) := by decide +kernel
theorem dL_1337 : decode code 1337 = .ok (.iaload, 1) := by decide +kernel
theorem dL_1338 : decode code 1338 = .ok (.aload_n 0, 1) := by decide +kernel
theorem dL_1339 : decode code 1339 = .ok (.iload_n 3, 1) := by decide +kernel
theorem dL_1340 : decode code 1340 = .ok (.iconst 2, 1) := by decide +kernel
theorem dL_1341 : decode code 1341 = .ok (.iadd, 1) := by decide +kernel
theorem dL_1342 : decode code 1342 = .ok (.iaload, 1) := by decide +kernel
theorem dL_1343 : decode code 1343 = .ok (.aload_n 0, 1) := by decide +kernel
theorem dL_1344 : decode code 1344 = .ok (.iload_n 3, 1) := by decide +kernel
theorem dL_1345 : decode code 1345 = .ok (.iconst 3, 1) := by decide +kernel
theorem dL_1346 : decode code 1346 = .ok (.iadd, 1) := by decide +kernel
theorem dL_1347 : decode code 1347 = .ok (.iaload, 1) := by decide +kernel
theorem dL_1348 : decode code 1348 = .ok (.i2l, 1) := by decide +kernel
theorem dL_1349 : decode code 1349 = .ok (.bipush 32, 2) := by decide +kernel
theorem dL_1351 : decode code 1351 = .ok (.lshl, 1) := by decide +kernel
theorem dL_1352 : decode code 1352 = .ok (.aload_n 0, 1) := by decide +kernel
theorem dL_1353 : decode code 1353 = .ok (.iload_n 3, 1) := by decide +kernel
theorem dL_1354 : decode code 1354 = .ok (.iconst 4, 1) := by decide +kernel
theorem dL_1355 : decode code 1355 = .ok (.iadd, 1) := by decide +kernel
theorem dL_1356 : decode code 1356 = .ok (.iaload, 1) := by decide +kernel
theorem dL_1357 : decode code 1357 = .ok (.i2l, 1) := by decide +kernel
theorem dL_1358 : decode code 1358 = .ok (.ldc2_w 160, 3) := by decide +kernel
theorem dL_1361 : decode code 1361 = .ok (.land, 1) := by decide +kernel
theorem dL_1362 : decode code 1362 = .ok (.lor, 1) := by decide +kernel
theorem dL_1363 : decode code 1363 = .ok (.invokevirtual 177, 3) := by decide +kernel
theorem dL_1366 : decode code 1366 = .ok (.aload_n 2, 1) := by decide +kernel
theorem dL_1367 : decode code 1367 = .ok (.aload_n 0, 1) := by decide +kernel
theorem dL_1368 : decode code 1368 = .ok (.iload_n 3, 1) := by decide +kernel
theorem dL_1369 : decode code 1369 = .ok (.iconst 1, 1) := by decide +kernel
theorem dL_1370 : decode code 1370 = .ok (.iadd, 1) := by decide +kernel
theorem dL_1371 : decode code 1371 = .ok (.iaload, 1) := by decide +kernel
theorem dL_1372 : decode code 1372 = .ok (.aload_n 0, 1) := by decide +kernel
theorem dL_1373 : decode code 1373 = .ok (.iload_n 3, 1) := by decide +kernel
theorem dL_1374 : decode code 1374 = .ok (.iconst 2, 1) := by decide +kernel
theorem dL_1375 : decode code 1375 = .ok (.iadd, 1) := by decide +kernel
theorem dL_1376 : decode code 1376 = .ok (.iaload, 1) := by decide +kernel
theorem dL_1377 : decode code 1377 = .ok (.aload_n 0, 1) := by decide +kernel
theorem dL_1378 : decode code 1378 = .ok (.iload_n 3, 1) := by decide +kernel
theorem dL_1379 : decode code 1379 = .ok (.iconst 3, 1) := by decide +kernel
theorem dL_1380 : decode code 1380 = .ok (.iadd, 1) := by decide +kernel
theorem dL_1381 : decode code 1381 = .ok (.iaload, 1) := by decide +kernel
theorem dL_1382 : decode code 1382 = .ok (.i2l, 1) := by decide +kernel
theorem dL_1383 : decode code 1383 = .ok (.bipush 32, 2) := by decide +kernel
theorem dL_1385 : decode code 1385 = .ok (.lshl, 1) := by decide +kernel
theorem dL_1386 : decode code 1386 = .ok (.aload_n 0, 1) := by decide +kernel
theorem dL_1387 : decode code 1387 = .ok (.iload_n 3, 1) := by decide +kernel
theorem dL_1388 : decode code 1388 = .ok (.iconst 4, 1) := by decide +kernel
theorem dL_1389 : decode code 1389 = .ok (.iadd, 1) := by decide +kernel
theorem dL_1390 : decode code 1390 = .ok (.iaload, 1) := by decide +kernel
theorem dL_1391 : decode code 1391 = .ok (.i2l, 1) := by decide +kernel
theorem dL_1392 : decode code 1392 = .ok (.ldc2_w 160, 3) := by decide +kernel
theorem dL_1395 : decode code 1395 = .ok (.land, 1) := by decide +kernel
theorem dL_1396 : decode code 1396 = .ok (.lor, 1) := by decide +kernel
theorem dL_1397 : decode code 1397 = .ok (.invokevirtual 181, 3) := by decide +kernel
theorem dL_1400 : decode code 1400 = .ok (.lcmp, 1) := by decide +kernel
theorem dL_1401 : decode code 1401 = .ok (.ifCond .eq 97, 3) := by decide +kernel
theorem dL_1404 : decode code 1404 = .ok (.iconst 0, 1) := by decide +kernel
theorem dL_1405 : decode code 1405 = .ok (.ireturn, 1) := by decide +kernel
theorem dL_1406 : decode code 1406 = .ok (.aload_n 1, 1) := by decide +kernel
theorem dL_1407 : decode code 1407 = .ok (.aload_n 0, 1) := by decide +kernel
theorem dL_1408 : decode code 1408 = .ok (.iload_n 3, 1) := by decide +kernel
theorem dL_1409 : decode code 1409 = .ok (.iconst 1, 1) := by decide +kernel
theorem dL_1410 : decode code 1410 = .ok (.iadd, 1) := by decide +kernel
theorem dL_1411 : decode code 1411 = .ok (.iaload, 1) := by decide +kernel
theorem dL_1412 : decode code 1412 = .ok (.invokevirtual 182, 3) := by decide +kernel
theorem dL_1415 : decode code 1415 = .ok (.aload_n 2, 1) := by decide +kernel
theorem dL_1416 : decode code 1416 = .ok (.aload_n 0, 1) := by decide +kernel
theorem dL_1417 : decode code 1417 = .ok (.iload_n 3, 1) := by decide +kernel
theorem dL_1418 : decode code 1418 = .ok (.iconst 1, 1) := by decide +kernel
theorem dL_1419 : decode code 1419 = .ok (.iadd, 1) := by decide +kernel
theorem dL_1420 : decode code 1420 = .ok (.iaload, 1) := by decide +kernel
theorem dL_1421 : decode code 1421 = .ok (.invokevirtual 185, 3) := by decide +kernel
theorem dL_1424 : decode code 1424 = .ok (.if_icmp .eq 74, 3) := by decide +kernel
theorem dL_1427 : decode code 1427 = .ok (.iconst 0, 1) := by decide +kernel
theorem dL_1428 : decode code 1428 = .ok (.ireturn, 1) := by decide +kernel
theorem dL_1429 : decode code 1429 = .ok (.aload_n 1, 1) := by decide +kernel
theorem dL_1430 : decode code 1430 = .ok (.aload_n 0, 1) := by decide +kernel
theorem dL_1431 : decode code 1431 = .ok (.iload_n 3, 1) := by decide +kernel
theorem dL_1432 : decode code 1432 = .ok (.iconst 1, 1) := by decide +kernel
theorem dL_1433 : decode code 1433 = .ok (.iadd, 1) := by decide +kernel
theorem dL_1434 : decode code 1434 = .ok (.iaload, 1) := by decide +kernel
theorem dL_1435 : decode code 1435 = .ok (.invokevirtual 186, 3) := by decide +kernel
theorem dL_1438 : decode code 1438 = .ok (.aload_n 2, 1) := by decide +kernel
theorem dL_1439 : decode code 1439 = .ok (.aload_n 0, 1) := by decide +kernel
theorem dL_1440 : decode code 1440 = .ok (.iload_n 3, 1) := by decide +kernel
theorem dL_1441 : decode code 1441 = .ok (.iconst 1, 1) := by decide +kernel
theorem dL_1442 : decode code 1442 = .ok (.iadd, 1) := by decide +kernel
theorem dL_1443 : decode code 1443 = .ok (.iaload, 1) := by decide +kernel
theorem dL_1444 : decode code 1444 = .ok (.invokevirtual 189, 3) := by decide +kernel
theorem dL_1447 : decode code 1447 = .ok (.if_icmp .eq 51, 3) := by decide +kernel
theorem dL_1450 : decode code 1450 = .ok (.iconst 0, 1) := by decide +kernel
theorem dL_1451 : decode code 1451 = .ok (.ireturn, 1) := by decide +kernel
theorem dL_1452 : decode code 1452 = .ok (.aload_n 1, 1) := by decide +kernel
theorem dL_1453 : decode code 1453 = .ok (.aload_n 0, 1) := by decide +kernel
theorem dL_1454 : decode code 1454 = .ok (.iload_n 3, 1) := by decide +kernel
theorem dL_1455 : decode code 1455 = .ok (.iconst 1, 1) := by decide +kernel
theorem dL_1456 : decode code 1456 = .ok (.iadd, 1) := by decide +kernel
theorem dL_1457 : decode code 1457 = .ok (.iaload, 1) := by decide +kernel
theorem dL_1458 : decode code 1458 = .ok (.invokevirtual 190, 3) := by decide +kernel
theorem dL_1461 : decode code 1461 = .ok (.aload_n 2, 1) := by decide +kernel
theorem dL_1462 : decode code 1462 = .ok (.aload_n 0, 1) := by decide +kernel
theorem dL_1463 : decode code 1463 = .ok (.iload_n 3, 1) := by decide +kernel
theorem dL_1464 : decode code 1464 = .ok (.iconst 1, 1) := by decide +kernel
theorem dL_1465 : decode code 1465 = .ok (.iadd, 1) := by decide +kernel
theorem dL_1466 : decode code 1466 = .ok (.iaload, 1) := by decide +kernel
theorem dL_1467 : decode code 1467 = .ok (.invokevirtual 193, 3) := by decide +kernel
theorem dL_1470 : decode code 1470 = .ok (.if_icmp .eq 28, 3) := by decide +kernel
theorem dL_1473 : decode code 1473 = .ok (.iconst 0, 1) := by decide +kernel
theorem dL_1474 : decode code 1474 = .ok (.ireturn, 1) := by decide +kernel
theorem dL_1475 : decode code 1475 = .ok (.aload_n 1, 1) := by decide +kernel
theorem dL_1476 : decode code 1476 = .ok (.aload_n 0, 1) := by decide +kernel
theorem dL_1477 : decode code 1477 = .ok (.iload_n 3, 1) := by decide +kernel
theorem dL_1478 : decode code 1478 = .ok (.iconst 1, 1) := by decide +kernel
theorem dL_1479 : decode code 1479 = .ok (.iadd, 1) := by decide +kernel
theorem dL_1480 : decode code 1480 = .ok (.iaload, 1) := by decide +kernel
theorem dL_1481 : decode code 1481 = .ok (.invokevirtual 194, 3) := by decide +kernel
theorem dL_1484 : decode code 1484 = .ok (.aload_n 2, 1) := by decide +kernel
theorem dL_1485 : decode code 1485 = .ok (.aload_n 0, 1) := by decide +kernel
theorem dL_1486 : decode code 1486 = .ok (.iload_n 3, 1) := by decide +kernel
theorem dL_1487 : decode code 1487 = .ok (.iconst 1, 1) := by decide +kernel
theorem dL_1488 : decode code 1488 = .ok (.iadd, 1) := by decide +kernel
theorem dL_1489 : decode code 1489 = .ok (.iaload, 1) := by decide +kernel
theorem dL_1490 : decode code 1490 = .ok (.invokevirtual 197, 3) := by decide +kernel
theorem dL_1493 : decode code 1493 = .ok (.if_icmp .eq 5, 3) := by decide +kernel
theorem dL_1496 : decode code 1496 = .ok (.iconst 0, 1) := by decide +kernel
theorem dL_1497 : decode code 1497 = .ok (.ireturn, 1) := by decide +kernel
theorem dL_1498 : decode code 1498 = .ok (.iinc 3 6, 3) := by decide +kernel
theorem dL_1501 : decode code 1501 = .ok (.goto (-1483), 3) := by decide +kernel
theorem dL_1504 : decode code 1504 = .ok (.iconst 1, 1) := by decide +kernel
theorem dL_1505 : decode code 1505 = .ok (.ireturn, 1) := by decide +kernel
theorem lvL_13 : zz_LV R_law 13 mX11_feed := ⟨(zz_mem 698 (by decide +kernel) rfl), (zz_mem 699 (by decide +kernel) rfl), (zz_mem 700 (by decide +kernel) rfl)⟩
theorem okL_X11_feed : zz_ok mX11_feed 5 := ⟨(zz_mem 701 (by decide +kernel) rfl), (zz_mem 129 (by decide +kernel) rfl), ⟨by decide +kernel, by decide +kernel, by decide +kernel⟩, (Nat.le_of_ble_eq_true rfl)⟩
theorem lvL_17 : zz_LV R_law 17 mX12_feed := ⟨(zz_mem 1639 (by decide +kernel) rfl), (zz_mem 1640 (by decide +kernel) rfl), (zz_mem 1641 (by decide +kernel) rfl)⟩
theorem okL_X12_feed : zz_ok mX12_feed 5 := ⟨(zz_mem 1642 (by decide +kernel) rfl), (zz_mem 143 (by decide +kernel) rfl), ⟨by decide +kernel, by decide +kernel, by decide +kernel⟩, (Nat.le_of_ble_eq_true rfl)⟩
theorem lvL_18 : zz_LV R_law 18 mX11_desk := ⟨(zz_mem 706 (by decide +kernel) rfl), (zz_mem 707 (by decide +kernel) rfl), (zz_mem 708 (by decide +kernel) rfl)⟩
theorem okL_X11_desk : zz_ok mX11_desk 1 := ⟨(zz_mem 709 (by decide +kernel) rfl), (zz_mem 129 (by decide +kernel) rfl), ⟨by decide +kernel, by decide +kernel, by decide +kernel⟩, (Nat.le_of_ble_eq_true rfl)⟩
theorem lvL_22 : zz_LV R_law 22 mX12_desk := ⟨(zz_mem 1643 (by decide +kernel) rfl), (zz_mem 1644 (by decide +kernel) rfl), (zz_mem 1645 (by decide +kernel) rfl)⟩
theorem okL_X12_desk : zz_ok mX12_desk 1 := ⟨(zz_mem 1646 (by decide +kernel) rfl), (zz_mem 143 (by decide +kernel) rfl), ⟨by decide +kernel, by decide +kernel, by decide +kernel⟩, (Nat.le_of_ble_eq_true rfl)⟩
theorem lvL_23 : zz_LV R_law 23 mX11_fault := ⟨(zz_mem 1001 (by decide +kernel) rfl), (zz_mem 1002 (by decide +kernel) rfl), (zz_mem 1003 (by decide +kernel) rfl)⟩
theorem okL_X11_fault : zz_ok mX11_fault 1 := ⟨(zz_mem 1004 (by decide +kernel) rfl), (zz_mem 129 (by decide +kernel) rfl), ⟨by decide +kernel, by decide +kernel, by decide +kernel⟩, (Nat.le_of_ble_eq_true rfl)⟩
theorem lvL_26 : zz_LV R_law 26 mX12_fault := ⟨(zz_mem 1756 (by decide +kernel) rfl), (zz_mem 1757 (by decide +kernel) rfl), (zz_mem 1758 (by decide +kernel) rfl)⟩
theorem okL_X12_fault : zz_ok mX12_fault 1 := ⟨(zz_mem 1759 (by decide +kernel) rfl), (zz_mem 143 (by decide +kernel) rfl), ⟨by decide +kernel, by decide +kernel, by decide +kernel⟩, (Nat.le_of_ble_eq_true rfl)⟩
theorem lvL_27 : zz_LV R_law 27 mX11_input := ⟨(zz_mem 1005 (by decide +kernel) rfl), (zz_mem 1006 (by decide +kernel) rfl), (zz_mem 1007 (by decide +kernel) rfl)⟩
theorem okL_X11_input : zz_ok mX11_input 2 := ⟨(zz_mem 1008 (by decide +kernel) rfl), (zz_mem 129 (by decide +kernel) rfl), ⟨by decide +kernel, by decide +kernel, by decide +kernel⟩, (Nat.le_of_ble_eq_true rfl)⟩
theorem lvL_31 : zz_LV R_law 31 mX12_input := ⟨(zz_mem 1793 (by decide +kernel) rfl), (zz_mem 1794 (by decide +kernel) rfl), (zz_mem 1795 (by decide +kernel) rfl)⟩
theorem okL_X12_input : zz_ok mX12_input 2 := ⟨(zz_mem 1796 (by decide +kernel) rfl), (zz_mem 143 (by decide +kernel) rfl), ⟨by decide +kernel, by decide +kernel, by decide +kernel⟩, (Nat.le_of_ble_eq_true rfl)⟩
theorem lvL_32 : zz_LV R_law 32 mX11_flow := ⟨(zz_mem 1109 (by decide +kernel) rfl), (zz_mem 1110 (by decide +kernel) rfl), (zz_mem 1111 (by decide +kernel) rfl)⟩
theorem okL_X11_flow : zz_ok mX11_flow 2 := ⟨(zz_mem 1112 (by decide +kernel) rfl), (zz_mem 129 (by decide +kernel) rfl), ⟨by decide +kernel, by decide +kernel, by decide +kernel⟩, (Nat.le_of_ble_eq_true rfl)⟩
theorem lvL_36 : zz_LV R_law 36 mX12_flow := ⟨(zz_mem 1847 (by decide +kernel) rfl), (zz_mem 1848 (by decide +kernel) rfl), (zz_mem 1849 (by decide +kernel) rfl)⟩
theorem okL_X12_flow : zz_ok mX12_flow 2 := ⟨(zz_mem 1850 (by decide +kernel) rfl), (zz_mem 143 (by decide +kernel) rfl), ⟨by decide +kernel, by decide +kernel, by decide +kernel⟩, (Nat.le_of_ble_eq_true rfl)⟩
theorem lvL_37 : zz_LV R_law 37 mX11_open := ⟨(zz_mem 1118 (by decide +kernel) rfl), (zz_mem 1119 (by decide +kernel) rfl), (zz_mem 1120 (by decide +kernel) rfl)⟩
theorem okL_X11_open : zz_ok mX11_open 1 := ⟨(zz_mem 1121 (by decide +kernel) rfl), (zz_mem 129 (by decide +kernel) rfl), ⟨by decide +kernel, by decide +kernel, by decide +kernel⟩, (Nat.le_of_ble_eq_true rfl)⟩
theorem lvL_40 : zz_LV R_law 40 mX12_open := ⟨(zz_mem 1760 (by decide +kernel) rfl), (zz_mem 1761 (by decide +kernel) rfl), (zz_mem 1762 (by decide +kernel) rfl)⟩
theorem okL_X12_open : zz_ok mX12_open 1 := ⟨(zz_mem 1763 (by decide +kernel) rfl), (zz_mem 143 (by decide +kernel) rfl), ⟨by decide +kernel, by decide +kernel, by decide +kernel⟩, (Nat.le_of_ble_eq_true rfl)⟩
theorem lvL_41 : zz_LV R_law 41 mX11_off := ⟨(zz_mem 1123 (by decide +kernel) rfl), (zz_mem 1124 (by decide +kernel) rfl), (zz_mem 1125 (by decide +kernel) rfl)⟩
theorem okL_X11_off : zz_ok mX11_off 1 := ⟨(zz_mem 1126 (by decide +kernel) rfl), (zz_mem 129 (by decide +kernel) rfl), ⟨by decide +kernel, by decide +kernel, by decide +kernel⟩, (Nat.le_of_ble_eq_true rfl)⟩
theorem lvL_44 : zz_LV R_law 44 mX12_off := ⟨(zz_mem 1767 (by decide +kernel) rfl), (zz_mem 1768 (by decide +kernel) rfl), (zz_mem 1769 (by decide +kernel) rfl)⟩
theorem okL_X12_off : zz_ok mX12_off 1 := ⟨(zz_mem 1770 (by decide +kernel) rfl), (zz_mem 143 (by decide +kernel) rfl), ⟨by decide +kernel, by decide +kernel, by decide +kernel⟩, (Nat.le_of_ble_eq_true rfl)⟩
theorem lvL_45 : zz_LV R_law 45 mX11_opens := ⟨(zz_mem 1128 (by decide +kernel) rfl), (zz_mem 1129 (by decide +kernel) rfl), (zz_mem 1130 (by decide +kernel) rfl)⟩
theorem okL_X11_opens : zz_ok mX11_opens 2 := ⟨(zz_mem 1131 (by decide +kernel) rfl), (zz_mem 129 (by decide +kernel) rfl), ⟨by decide +kernel, by decide +kernel, by decide +kernel⟩, (Nat.le_of_ble_eq_true rfl)⟩
theorem lvL_48 : zz_LV R_law 48 mX12_opens := ⟨(zz_mem 1771 (by decide +kernel) rfl), (zz_mem 1772 (by decide +kernel) rfl), (zz_mem 1773 (by decide +kernel) rfl)⟩
theorem okL_X12_opens : zz_ok mX12_opens 2 := ⟨(zz_mem 1774 (by decide +kernel) rfl), (zz_mem 143 (by decide +kernel) rfl), ⟨by decide +kernel, by decide +kernel, by decide +kernel⟩, (Nat.le_of_ble_eq_true rfl)⟩
theorem lvL_49 : zz_LV R_law 49 mX11_business := ⟨(zz_mem 1132 (by decide +kernel) rfl), (zz_mem 1133 (by decide +kernel) rfl), (zz_mem 1134 (by decide +kernel) rfl)⟩
theorem okL_X11_business : zz_ok mX11_business 2 := ⟨(zz_mem 1135 (by decide +kernel) rfl), (zz_mem 129 (by decide +kernel) rfl), ⟨by decide +kernel, by decide +kernel, by decide +kernel⟩, (Nat.le_of_ble_eq_true rfl)⟩
theorem lvL_52 : zz_LV R_law 52 mX12_business := ⟨(zz_mem 1776 (by decide +kernel) rfl), (zz_mem 1777 (by decide +kernel) rfl), (zz_mem 1778 (by decide +kernel) rfl)⟩
theorem okL_X12_business : zz_ok mX12_business 2 := ⟨(zz_mem 1779 (by decide +kernel) rfl), (zz_mem 143 (by decide +kernel) rfl), ⟨by decide +kernel, by decide +kernel, by decide +kernel⟩, (Nat.le_of_ble_eq_true rfl)⟩
theorem lvL_53 : zz_LV R_law 53 mX11_period := ⟨(zz_mem 1136 (by decide +kernel) rfl), (zz_mem 1137 (by decide +kernel) rfl), (zz_mem 1138 (by decide +kernel) rfl)⟩
theorem okL_X11_period : zz_ok mX11_period 2 := ⟨(zz_mem 1139 (by decide +kernel) rfl), (zz_mem 129 (by decide +kernel) rfl), ⟨by decide +kernel, by decide +kernel, by decide +kernel⟩, (Nat.le_of_ble_eq_true rfl)⟩
theorem lvL_56 : zz_LV R_law 56 mX12_period := ⟨(zz_mem 1781 (by decide +kernel) rfl), (zz_mem 1782 (by decide +kernel) rfl), (zz_mem 1783 (by decide +kernel) rfl)⟩
theorem okL_X12_period : zz_ok mX12_period 2 := ⟨(zz_mem 1784 (by decide +kernel) rfl), (zz_mem 143 (by decide +kernel) rfl), ⟨by decide +kernel, by decide +kernel, by decide +kernel⟩, (Nat.le_of_ble_eq_true rfl)⟩
theorem lvL_57 : zz_LV R_law 57 mX11_bump := ⟨(zz_mem 1141 (by decide +kernel) rfl), (zz_mem 1142 (by decide +kernel) rfl), (zz_mem 1143 (by decide +kernel) rfl)⟩
theorem okL_X11_bump : zz_ok mX11_bump 2 := ⟨(zz_mem 1144 (by decide +kernel) rfl), (zz_mem 129 (by decide +kernel) rfl), ⟨by decide +kernel, by decide +kernel, by decide +kernel⟩, (Nat.le_of_ble_eq_true rfl)⟩
theorem lvL_60 : zz_LV R_law 60 mX12_bump := ⟨(zz_mem 1856 (by decide +kernel) rfl), (zz_mem 1857 (by decide +kernel) rfl), (zz_mem 1858 (by decide +kernel) rfl)⟩
theorem okL_X12_bump : zz_ok mX12_bump 2 := ⟨(zz_mem 1859 (by decide +kernel) rfl), (zz_mem 143 (by decide +kernel) rfl), ⟨by decide +kernel, by decide +kernel, by decide +kernel⟩, (Nat.le_of_ble_eq_true rfl)⟩
theorem lvL_61 : zz_LV R_law 61 mX11_shift := ⟨(zz_mem 1161 (by decide +kernel) rfl), (zz_mem 1162 (by decide +kernel) rfl), (zz_mem 1163 (by decide +kernel) rfl)⟩
theorem okL_X11_shift : zz_ok mX11_shift 1 := ⟨(zz_mem 1164 (by decide +kernel) rfl), (zz_mem 129 (by decide +kernel) rfl), ⟨by decide +kernel, by decide +kernel, by decide +kernel⟩, (Nat.le_of_ble_eq_true rfl)⟩
theorem lvL_64 : zz_LV R_law 64 mX12_shift := ⟨(zz_mem 1873 (by decide +kernel) rfl), (zz_mem 1874 (by decide +kernel) rfl), (zz_mem 1875 (by decide +kernel) rfl)⟩
theorem okL_X12_shift : zz_ok mX12_shift 1 := ⟨(zz_mem 1876 (by decide +kernel) rfl), (zz_mem 143 (by decide +kernel) rfl), ⟨by decide +kernel, by decide +kernel, by decide +kernel⟩, (Nat.le_of_ble_eq_true rfl)⟩
theorem lvL_65 : zz_LV R_law 65 mX11_amount := ⟨(zz_mem 1169 (by decide +kernel) rfl), (zz_mem 1170 (by decide +kernel) rfl), (zz_mem 1171 (by decide +kernel) rfl)⟩
theorem okL_X11_amount : zz_ok mX11_amount 2 := ⟨(zz_mem 1172 (by decide +kernel) rfl), (zz_mem 129 (by decide +kernel) rfl), ⟨by decide +kernel, by decide +kernel, by decide +kernel⟩, (Nat.le_of_ble_eq_true rfl)⟩
theorem lvL_68 : zz_LV R_law 68 mX12_amount := ⟨(zz_mem 1878 (by decide +kernel) rfl), (zz_mem 1879 (by decide +kernel) rfl), (zz_mem 1880 (by decide +kernel) rfl)⟩
theorem okL_X12_amount : zz_ok mX12_amount 2 := ⟨(zz_mem 1881 (by decide +kernel) rfl), (zz_mem 143 (by decide +kernel) rfl), ⟨by decide +kernel, by decide +kernel, by decide +kernel⟩, (Nat.le_of_ble_eq_true rfl)⟩
theorem lvL_69 : zz_LV R_law 69 mX11_undo := ⟨(zz_mem 1178 (by decide +kernel) rfl), (zz_mem 1179 (by decide +kernel) rfl), (zz_mem 1180 (by decide +kernel) rfl)⟩
theorem okL_X11_undo : zz_ok mX11_undo 1 := ⟨(zz_mem 1181 (by decide +kernel) rfl), (zz_mem 129 (by decide +kernel) rfl), ⟨by decide +kernel, by decide +kernel, by decide +kernel⟩, (Nat.le_of_ble_eq_true rfl)⟩
theorem lvL_72 : zz_LV R_law 72 mX12_undo := ⟨(zz_mem 1887 (by decide +kernel) rfl), (zz_mem 1888 (by decide +kernel) rfl), (zz_mem 1889 (by decide +kernel) rfl)⟩
theorem okL_X12_undo : zz_ok mX12_undo 1 := ⟨(zz_mem 1890 (by decide +kernel) rfl), (zz_mem 143 (by decide +kernel) rfl), ⟨by decide +kernel, by decide +kernel, by decide +kernel⟩, (Nat.le_of_ble_eq_true rfl)⟩
theorem lvL_73 : zz_LV R_law 73 mX11_judge := ⟨(zz_mem 1188 (by decide +kernel) rfl), (zz_mem 1189 (by decide +kernel) rfl), (zz_mem 1190 (by decide +kernel) rfl)⟩
theorem okL_X11_judge : zz_ok mX11_judge 2 := ⟨(zz_mem 1191 (by decide +kernel) rfl), (zz_mem 129 (by decide +kernel) rfl), ⟨by decide +kernel, by decide +kernel, by decide +kernel⟩, (Nat.le_of_ble_eq_true rfl)⟩
theorem lvL_76 : zz_LV R_law 76 mX12_judge := ⟨(zz_mem 1892 (by decide +kernel) rfl), (zz_mem 1893 (by decide +kernel) rfl), (zz_mem 1894 (by decide +kernel) rfl)⟩
theorem okL_X12_judge : zz_ok mX12_judge 2 := ⟨(zz_mem 1895 (by decide +kernel) rfl), (zz_mem 143 (by decide +kernel) rfl), ⟨by decide +kernel, by decide +kernel, by decide +kernel⟩, (Nat.le_of_ble_eq_true rfl)⟩
theorem lvL_77 : zz_LV R_law 77 mX11_perform := ⟨(zz_mem 1229 (by decide +kernel) rfl), (zz_mem 1230 (by decide +kernel) rfl), (zz_mem 1231 (by decide +kernel) rfl)⟩
theorem okL_X11_perform : zz_ok mX11_perform 1 := ⟨(zz_mem 1232 (by decide +kernel) rfl), (zz_mem 129 (by decide +kernel) rfl), ⟨by decide +kernel, by decide +kernel, by decide +kernel⟩, (Nat.le_of_ble_eq_true rfl)⟩
theorem lvL_80 : zz_LV R_law 80 mX12_perform := ⟨(zz_mem 1927 (by decide +kernel) rfl), (zz_mem 1928 (by decide +kernel) rfl), (zz_mem 1929 (by decide +kernel) rfl)⟩
theorem okL_X12_perform : zz_ok mX12_perform 1 := ⟨(zz_mem 1930 (by decide +kernel) rfl), (zz_mem 143 (by decide +kernel) rfl), ⟨by decide +kernel, by decide +kernel, by decide +kernel⟩, (Nat.le_of_ble_eq_true rfl)⟩
theorem lvL_81 : zz_LV R_law 81 mX11_week := ⟨(zz_mem 1233 (by decide +kernel) rfl), (zz_mem 1234 (by decide +kernel) rfl), (zz_mem 1235 (by decide +kernel) rfl)⟩
theorem okL_X11_week : zz_ok mX11_week 2 := ⟨(zz_mem 1236 (by decide +kernel) rfl), (zz_mem 129 (by decide +kernel) rfl), ⟨by decide +kernel, by decide +kernel, by decide +kernel⟩, (Nat.le_of_ble_eq_true rfl)⟩
theorem lvL_84 : zz_LV R_law 84 mX12_week := ⟨(zz_mem 1931 (by decide +kernel) rfl), (zz_mem 1932 (by decide +kernel) rfl), (zz_mem 1933 (by decide +kernel) rfl)⟩
theorem okL_X12_week : zz_ok mX12_week 2 := ⟨(zz_mem 1934 (by decide +kernel) rfl), (zz_mem 143 (by decide +kernel) rfl), ⟨by decide +kernel, by decide +kernel, by decide +kernel⟩, (Nat.le_of_ble_eq_true rfl)⟩
theorem lvL_85 : zz_LV R_law 85 mX11_pillars := ⟨(zz_mem 1246 (by decide +kernel) rfl), (zz_mem 1247 (by decide +kernel) rfl), (zz_mem 1248 (by decide +kernel) rfl)⟩
theorem okL_X11_pillars : zz_ok mX11_pillars 0 := ⟨(zz_mem 1249 (by decide +kernel) rfl), (zz_mem 129 (by decide +kernel) rfl), ⟨by decide +kernel, by decide +kernel, by decide +kernel⟩, (Nat.le_of_ble_eq_true rfl)⟩
theorem lvL_89 : zz_LV R_law 89 mX12_pillars := ⟨(zz_mem 1945 (by decide +kernel) rfl), (zz_mem 1946 (by decide +kernel) rfl), (zz_mem 1947 (by decide +kernel) rfl)⟩
theorem okL_X12_pillars : zz_ok mX12_pillars 0 := ⟨(zz_mem 1948 (by decide +kernel) rfl), (zz_mem 143 (by decide +kernel) rfl), ⟨by decide +kernel, by decide +kernel, by decide +kernel⟩, (Nat.le_of_ble_eq_true rfl)⟩
theorem lvL_90 : zz_LV R_law 90 mX11_pillar := ⟨(zz_mem 1250 (by decide +kernel) rfl), (zz_mem 1251 (by decide +kernel) rfl), (zz_mem 1252 (by decide +kernel) rfl)⟩
theorem okL_X11_pillar : zz_ok mX11_pillar 2 := ⟨(zz_mem 1253 (by decide +kernel) rfl), (zz_mem 129 (by decide +kernel) rfl), ⟨by decide +kernel, by decide +kernel, by decide +kernel⟩, (Nat.le_of_ble_eq_true rfl)⟩
theorem lvL_93 : zz_LV R_law 93 mX12_pillar := ⟨(zz_mem 1949 (by decide +kernel) rfl), (zz_mem 1950 (by decide +kernel) rfl), (zz_mem 1951 (by decide +kernel) rfl)⟩
theorem okL_X12_pillar : zz_ok mX12_pillar 2 := ⟨(zz_mem 1952 (by decide +kernel) rfl), (zz_mem 143 (by decide +kernel) rfl), ⟨by decide +kernel, by decide +kernel, by decide +kernel⟩, (Nat.le_of_ble_eq_true rfl)⟩
theorem lvL_94 : zz_LV R_law 94 mX11_factor := ⟨(zz_mem 1258 (by decide +kernel) rfl), (zz_mem 1259 (by decide +kernel) rfl), (zz_mem 1260 (by decide +kernel) rfl)⟩
theorem okL_X11_factor : zz_ok mX11_factor 1 := ⟨(zz_mem 1261 (by decide +kernel) rfl), (zz_mem 129 (by decide +kernel) rfl), ⟨by decide +kernel, by decide +kernel, by decide +kernel⟩, (Nat.le_of_ble_eq_true rfl)⟩
theorem lvL_97 : zz_LV R_law 97 mX12_factor := ⟨(zz_mem 1957 (by decide +kernel) rfl), (zz_mem 1958 (by decide +kernel) rfl), (zz_mem 1959 (by decide +kernel) rfl)⟩
theorem okL_X12_factor : zz_ok mX12_factor 1 := ⟨(zz_mem 1960 (by decide +kernel) rfl), (zz_mem 143 (by decide +kernel) rfl), ⟨by decide +kernel, by decide +kernel, by decide +kernel⟩, (Nat.le_of_ble_eq_true rfl)⟩
theorem lvL_98 : zz_LV R_law 98 mX11_forward := ⟨(zz_mem 1263 (by decide +kernel) rfl), (zz_mem 1264 (by decide +kernel) rfl), (zz_mem 1265 (by decide +kernel) rfl)⟩
theorem okL_X11_forward : zz_ok mX11_forward 2 := ⟨(zz_mem 1266 (by decide +kernel) rfl), (zz_mem 129 (by decide +kernel) rfl), ⟨by decide +kernel, by decide +kernel, by decide +kernel⟩, (Nat.le_of_ble_eq_true rfl)⟩
theorem lvL_101 : zz_LV R_law 101 mX12_forward := ⟨(zz_mem 1961 (by decide +kernel) rfl), (zz_mem 1962 (by decide +kernel) rfl), (zz_mem 1963 (by decide +kernel) rfl)⟩
theorem okL_X12_forward : zz_ok mX12_forward 2 := ⟨(zz_mem 1964 (by decide +kernel) rfl), (zz_mem 143 (by decide +kernel) rfl), ⟨by decide +kernel, by decide +kernel, by decide +kernel⟩, (Nat.le_of_ble_eq_true rfl)⟩
theorem lvL_102 : zz_LV R_law 102 mX11_implied := ⟨(zz_mem 1271 (by decide +kernel) rfl), (zz_mem 1272 (by decide +kernel) rfl), (zz_mem 1273 (by decide +kernel) rfl)⟩
theorem okL_X11_implied : zz_ok mX11_implied 1 := ⟨(zz_mem 1274 (by decide +kernel) rfl), (zz_mem 129 (by decide +kernel) rfl), ⟨by decide +kernel, by decide +kernel, by decide +kernel⟩, (Nat.le_of_ble_eq_true rfl)⟩
theorem lvL_105 : zz_LV R_law 105 mX12_implied := ⟨(zz_mem 1970 (by decide +kernel) rfl), (zz_mem 1971 (by decide +kernel) rfl), (zz_mem 1972 (by decide +kernel) rfl)⟩
theorem okL_X12_implied : zz_ok mX12_implied 1 := ⟨(zz_mem 1973 (by decide +kernel) rfl), (zz_mem 143 (by decide +kernel) rfl), ⟨by decide +kernel, by decide +kernel, by decide +kernel⟩, (Nat.le_of_ble_eq_true rfl)⟩
theorem lvL_106 : zz_LV R_law 106 mX11_sound := ⟨(zz_mem 1279 (by decide +kernel) rfl), (zz_mem 1280 (by decide +kernel) rfl), (zz_mem 1281 (by decide +kernel) rfl)⟩
theorem okL_X11_sound : zz_ok mX11_sound 0 := ⟨(zz_mem 1282 (by decide +kernel) rfl), (zz_mem 129 (by decide +kernel) rfl), ⟨by decide +kernel, by decide +kernel, by decide +kernel⟩, (Nat.le_of_ble_eq_true rfl)⟩
theorem lvL_109 : zz_LV R_law 109 mX12_sound := ⟨(zz_mem 1974 (by decide +kernel) rfl), (zz_mem 1975 (by decide +kernel) rfl), (zz_mem 1976 (by decide +kernel) rfl)⟩
theorem okL_X12_sound : zz_ok mX12_sound 0 := ⟨(zz_mem 1977 (by decide +kernel) rfl), (zz_mem 143 (by decide +kernel) rfl), ⟨by decide +kernel, by decide +kernel, by decide +kernel⟩, (Nat.le_of_ble_eq_true rfl)⟩
theorem lvL_110 : zz_LV R_law 110 mX11_falls := ⟨(zz_mem 1283 (by decide +kernel) rfl), (zz_mem 1284 (by decide +kernel) rfl), (zz_mem 1285 (by decide +kernel) rfl)⟩
theorem okL_X11_falls : zz_ok mX11_falls 2 := ⟨(zz_mem 1286 (by decide +kernel) rfl), (zz_mem 129 (by decide +kernel) rfl), ⟨by decide +kernel, by decide +kernel, by decide +kernel⟩, (Nat.le_of_ble_eq_true rfl)⟩
theorem lvL_113 : zz_LV R_law 113 mX12_falls := ⟨(zz_mem 1978 (by decide +kernel) rfl), (zz_mem 1979 (by decide +kernel) rfl), (zz_mem 1980 (by decide +kernel) rfl)⟩
theorem okL_X12_falls : zz_ok mX12_falls 2 := ⟨(zz_mem 1981 (by decide +kernel) rfl), (zz_mem 143 (by decide +kernel) rfl), ⟨by decide +kernel, by decide +kernel, by decide +kernel⟩, (Nat.le_of_ble_eq_true rfl)⟩
theorem lvL_114 : zz_LV R_law 114 mX11_moves := ⟨(zz_mem 1297 (by decide +kernel) rfl), (zz_mem 1298 (by decide +kernel) rfl), (zz_mem 1299 (by decide +kernel) rfl)⟩
theorem okL_X11_moves : zz_ok mX11_moves 1 := ⟨(zz_mem 1300 (by decide +kernel) rfl), (zz_mem 129 (by decide +kernel) rfl), ⟨by decide +kernel, by decide +kernel, by decide +kernel⟩, (Nat.le_of_ble_eq_true rfl)⟩
theorem lvL_117 : zz_LV R_law 117 mX12_moves := ⟨(zz_mem 1986 (by decide +kernel) rfl), (zz_mem 1987 (by decide +kernel) rfl), (zz_mem 1988 (by decide +kernel) rfl)⟩
theorem okL_X12_moves : zz_ok mX12_moves 1 := ⟨(zz_mem 1989 (by decide +kernel) rfl), (zz_mem 143 (by decide +kernel) rfl), ⟨by decide +kernel, by decide +kernel, by decide +kernel⟩, (Nat.le_of_ble_eq_true rfl)⟩
theorem lvL_118 : zz_LV R_law 118 mX11_worth := ⟨(zz_mem 1301 (by decide +kernel) rfl), (zz_mem 1302 (by decide +kernel) rfl), (zz_mem 1303 (by decide +kernel) rfl)⟩
theorem okL_X11_worth : zz_ok mX11_worth 0 := ⟨(zz_mem 1304 (by decide +kernel) rfl), (zz_mem 129 (by decide +kernel) rfl), ⟨by decide +kernel, by decide +kernel, by decide +kernel⟩, (Nat.le_of_ble_eq_true rfl)⟩
theorem lvL_122 : zz_LV R_law 122 mX12_worth := ⟨(zz_mem 1990 (by decide +kernel) rfl), (zz_mem 1991 (by decide +kernel) rfl), (zz_mem 1992 (by decide +kernel) rfl)⟩
theorem okL_X12_worth : zz_ok mX12_worth 0 := ⟨(zz_mem 1993 (by decide +kernel) rfl), (zz_mem 143 (by decide +kernel) rfl), ⟨by decide +kernel, by decide +kernel, by decide +kernel⟩, (Nat.le_of_ble_eq_true rfl)⟩
theorem lvL_123 : zz_LV R_law 123 mX11_move := ⟨(zz_mem 1309 (by decide +kernel) rfl), (zz_mem 1310 (by decide +kernel) rfl), (zz_mem 1311 (by decide +kernel) rfl)⟩
theorem okL_X11_move : zz_ok mX11_move 1 := ⟨(zz_mem 1312 (by decide +kernel) rfl), (zz_mem 129 (by decide +kernel) rfl), ⟨by decide +kernel, by decide +kernel, by decide +kernel⟩, (Nat.le_of_ble_eq_true rfl)⟩
theorem lvL_127 : zz_LV R_law 127 mX12_move := ⟨(zz_mem 2002 (by decide +kernel) rfl), (zz_mem 2003 (by decide +kernel) rfl), (zz_mem 2004 (by decide +kernel) rfl)⟩
theorem okL_X12_move : zz_ok mX12_move 1 := ⟨(zz_mem 2005 (by decide +kernel) rfl), (zz_mem 143 (by decide +kernel) rfl), ⟨by decide +kernel, by decide +kernel, by decide +kernel⟩, (Nat.le_of_ble_eq_true rfl)⟩
theorem lvL_128 : zz_LV R_law 128 mX11_bumped := ⟨(zz_mem 1313 (by decide +kernel) rfl), (zz_mem 1314 (by decide +kernel) rfl), (zz_mem 1315 (by decide +kernel) rfl)⟩
theorem okL_X11_bumped : zz_ok mX11_bumped 2 := ⟨(zz_mem 1316 (by decide +kernel) rfl), (zz_mem 129 (by decide +kernel) rfl), ⟨by decide +kernel, by decide +kernel, by decide +kernel⟩, (Nat.le_of_ble_eq_true rfl)⟩
theorem lvL_131 : zz_LV R_law 131 mX12_bumped := ⟨(zz_mem 2010 (by decide +kernel) rfl), (zz_mem 2011 (by decide +kernel) rfl), (zz_mem 2012 (by decide +kernel) rfl)⟩
theorem okL_X12_bumped : zz_ok mX12_bumped 2 := ⟨(zz_mem 2013 (by decide +kernel) rfl), (zz_mem 143 (by decide +kernel) rfl), ⟨by decide +kernel, by decide +kernel, by decide +kernel⟩, (Nat.le_of_ble_eq_true rfl)⟩
theorem lvL_132 : zz_LV R_law 132 mX11_mover := ⟨(zz_mem 1318 (by decide +kernel) rfl), (zz_mem 1319 (by decide +kernel) rfl), (zz_mem 1320 (by decide +kernel) rfl)⟩
theorem okL_X11_mover : zz_ok mX11_mover 0 := ⟨(zz_mem 1321 (by decide +kernel) rfl), (zz_mem 129 (by decide +kernel) rfl), ⟨by decide +kernel, by decide +kernel, by decide +kernel⟩, (Nat.le_of_ble_eq_true rfl)⟩
theorem lvL_135 : zz_LV R_law 135 mX12_mover := ⟨(zz_mem 2015 (by decide +kernel) rfl), (zz_mem 2016 (by decide +kernel) rfl), (zz_mem 2017 (by decide +kernel) rfl)⟩
theorem okL_X12_mover : zz_ok mX12_mover 0 := ⟨(zz_mem 2018 (by decide +kernel) rfl), (zz_mem 143 (by decide +kernel) rfl), ⟨by decide +kernel, by decide +kernel, by decide +kernel⟩, (Nat.le_of_ble_eq_true rfl)⟩
theorem lvL_136 : zz_LV R_law 136 mX11_breaks := ⟨(zz_mem 1326 (by decide +kernel) rfl), (zz_mem 1327 (by decide +kernel) rfl), (zz_mem 1328 (by decide +kernel) rfl)⟩
theorem okL_X11_breaks : zz_ok mX11_breaks 1 := ⟨(zz_mem 1329 (by decide +kernel) rfl), (zz_mem 129 (by decide +kernel) rfl), ⟨by decide +kernel, by decide +kernel, by decide +kernel⟩, (Nat.le_of_ble_eq_true rfl)⟩
theorem lvL_139 : zz_LV R_law 139 mX12_breaks := ⟨(zz_mem 2020 (by decide +kernel) rfl), (zz_mem 2021 (by decide +kernel) rfl), (zz_mem 2022 (by decide +kernel) rfl)⟩
theorem okL_X12_breaks : zz_ok mX12_breaks 1 := ⟨(zz_mem 2023 (by decide +kernel) rfl), (zz_mem 143 (by decide +kernel) rfl), ⟨by decide +kernel, by decide +kernel, by decide +kernel⟩, (Nat.le_of_ble_eq_true rfl)⟩
theorem lvL_140 : zz_LV R_law 140 mX11_hang := ⟨(zz_mem 1330 (by decide +kernel) rfl), (zz_mem 1331 (by decide +kernel) rfl), (zz_mem 1332 (by decide +kernel) rfl)⟩
theorem okL_X11_hang : zz_ok mX11_hang 1 := ⟨(zz_mem 1333 (by decide +kernel) rfl), (zz_mem 129 (by decide +kernel) rfl), ⟨by decide +kernel, by decide +kernel, by decide +kernel⟩, (Nat.le_of_ble_eq_true rfl)⟩
theorem lvL_143 : zz_LV R_law 143 mX12_hang := ⟨(zz_mem 2024 (by decide +kernel) rfl), (zz_mem 2025 (by decide +kernel) rfl), (zz_mem 2026 (by decide +kernel) rfl)⟩
theorem okL_X12_hang : zz_ok mX12_hang 1 := ⟨(zz_mem 2027 (by decide +kernel) rfl), (zz_mem 143 (by decide +kernel) rfl), ⟨by decide +kernel, by decide +kernel, by decide +kernel⟩, (Nat.le_of_ble_eq_true rfl)⟩
theorem lvL_144 : zz_LV R_law 144 mX11_flat := ⟨(zz_mem 1343 (by decide +kernel) rfl), (zz_mem 1344 (by decide +kernel) rfl), (zz_mem 1345 (by decide +kernel) rfl)⟩
theorem okL_X11_flat : zz_ok mX11_flat 1 := ⟨(zz_mem 1346 (by decide +kernel) rfl), (zz_mem 129 (by decide +kernel) rfl), ⟨by decide +kernel, by decide +kernel, by decide +kernel⟩, (Nat.le_of_ble_eq_true rfl)⟩
theorem lvL_147 : zz_LV R_law 147 mX12_flat := ⟨(zz_mem 2036 (by decide +kernel) rfl), (zz_mem 2037 (by decide +kernel) rfl), (zz_mem 2038 (by decide +kernel) rfl)⟩
theorem okL_X12_flat : zz_ok mX12_flat 1 := ⟨(zz_mem 2039 (by decide +kernel) rfl), (zz_mem 143 (by decide +kernel) rfl), ⟨by decide +kernel, by decide +kernel, by decide +kernel⟩, (Nat.le_of_ble_eq_true rfl)⟩
theorem lvL_148 : zz_LV R_law 148 mX11_left := ⟨(zz_mem 1371 (by decide +kernel) rfl), (zz_mem 1372 (by decide +kernel) rfl), (zz_mem 1373 (by decide +kernel) rfl)⟩
theorem okL_X11_left : zz_ok mX11_left 1 := ⟨(zz_mem 1374 (by decide +kernel) rfl), (zz_mem 129 (by decide +kernel) rfl), ⟨by decide +kernel, by decide +kernel, by decide +kernel⟩, (Nat.le_of_ble_eq_true rfl)⟩
theorem lvL_151 : zz_LV R_law 151 mX12_left := ⟨(zz_mem 2049 (by decide +kernel) rfl), (zz_mem 2050 (by decide +kernel) rfl), (zz_mem 2051 (by decide +kernel) rfl)⟩
theorem okL_X12_left : zz_ok mX12_left 1 := ⟨(zz_mem 2052 (by decide +kernel) rfl), (zz_mem 143 (by decide +kernel) rfl), ⟨by decide +kernel, by decide +kernel, by decide +kernel⟩, (Nat.le_of_ble_eq_true rfl)⟩
theorem lvL_152 : zz_LV R_law 152 mX11_shifts := ⟨(zz_mem 1375 (by decide +kernel) rfl), (zz_mem 1376 (by decide +kernel) rfl), (zz_mem 1377 (by decide +kernel) rfl)⟩
theorem okL_X11_shifts : zz_ok mX11_shifts 1 := ⟨(zz_mem 1378 (by decide +kernel) rfl), (zz_mem 129 (by decide +kernel) rfl), ⟨by decide +kernel, by decide +kernel, by decide +kernel⟩, (Nat.le_of_ble_eq_true rfl)⟩
theorem lvL_155 : zz_LV R_law 155 mX12_shifts := ⟨(zz_mem 2053 (by decide +kernel) rfl), (zz_mem 2054 (by decide +kernel) rfl), (zz_mem 2055 (by decide +kernel) rfl)⟩
theorem okL_X12_shifts : zz_ok mX12_shifts 1 := ⟨(zz_mem 2056 (by decide +kernel) rfl), (zz_mem 143 (by decide +kernel) rfl), ⟨by decide +kernel, by decide +kernel, by decide +kernel⟩, (Nat.le_of_ble_eq_true rfl)⟩
theorem lvL_156 : zz_LV R_law 156 mX11_ask := ⟨(zz_mem 1393 (by decide +kernel) rfl), (zz_mem 1394 (by decide +kernel) rfl), (zz_mem 1395 (by decide +kernel) rfl)⟩
theorem okL_X11_ask : zz_ok mX11_ask 1 := ⟨(zz_mem 1396 (by decide +kernel) rfl), (zz_mem 129 (by decide +kernel) rfl), ⟨by decide +kernel, by decide +kernel, by decide +kernel⟩, (Nat.le_of_ble_eq_true rfl)⟩
theorem lvL_159 : zz_LV R_law 159 mX12_ask := ⟨(zz_mem 2068 (by decide +kernel) rfl), (zz_mem 2069 (by decide +kernel) rfl), (zz_mem 2070 (by decide +kernel) rfl)⟩
theorem okL_X12_ask : zz_ok mX12_ask 1 := ⟨(zz_mem 2071 (by decide +kernel) rfl), (zz_mem 143 (by decide +kernel) rfl), ⟨by decide +kernel, by decide +kernel, by decide +kernel⟩, (Nat.le_of_ble_eq_true rfl)⟩
theorem lvL_162 : zz_LV R_law 162 mX11_chance := ⟨(zz_mem 1401 (by decide +kernel) rfl), (zz_mem 1402 (by decide +kernel) rfl), (zz_mem 1403 (by decide +kernel) rfl)⟩
theorem okL_X11_chance : zz_ok mX11_chance 4 := ⟨(zz_mem 1404 (by decide +kernel) rfl), (zz_mem 129 (by decide +kernel) rfl), ⟨by decide +kernel, by decide +kernel, by decide +kernel⟩, (Nat.le_of_ble_eq_true rfl)⟩
theorem lvL_166 : zz_LV R_law 166 mX12_chance := ⟨(zz_mem 2080 (by decide +kernel) rfl), (zz_mem 2081 (by decide +kernel) rfl), (zz_mem 2082 (by decide +kernel) rfl)⟩
theorem okL_X12_chance : zz_ok mX12_chance 4 := ⟨(zz_mem 2083 (by decide +kernel) rfl), (zz_mem 143 (by decide +kernel) rfl), ⟨by decide +kernel, by decide +kernel, by decide +kernel⟩, (Nat.le_of_ble_eq_true rfl)⟩
theorem lvL_167 : zz_LV R_law 167 mX11_mean := ⟨(zz_mem 1435 (by decide +kernel) rfl), (zz_mem 1436 (by decide +kernel) rfl), (zz_mem 1437 (by decide +kernel) rfl)⟩
theorem okL_X11_mean : zz_ok mX11_mean 3 := ⟨(zz_mem 1438 (by decide +kernel) rfl), (zz_mem 129 (by decide +kernel) rfl), ⟨by decide +kernel, by decide +kernel, by decide +kernel⟩, (Nat.le_of_ble_eq_true rfl)⟩
theorem lvL_171 : zz_LV R_law 171 mX12_mean := ⟨(zz_mem 2101 (by decide +kernel) rfl), (zz_mem 2102 (by decide +kernel) rfl), (zz_mem 2103 (by decide +kernel) rfl)⟩
theorem okL_X12_mean : zz_ok mX12_mean 3 := ⟨(zz_mem 2104 (by decide +kernel) rfl), (zz_mem 143 (by decide +kernel) rfl), ⟨by decide +kernel, by decide +kernel, by decide +kernel⟩, (Nat.le_of_ble_eq_true rfl)⟩
theorem lvL_172 : zz_LV R_law 172 mX11_numbers := ⟨(zz_mem 1439 (by decide +kernel) rfl), (zz_mem 1440 (by decide +kernel) rfl), (zz_mem 1441 (by decide +kernel) rfl)⟩
theorem okL_X11_numbers : zz_ok mX11_numbers 3 := ⟨(zz_mem 1442 (by decide +kernel) rfl), (zz_mem 129 (by decide +kernel) rfl), ⟨by decide +kernel, by decide +kernel, by decide +kernel⟩, (Nat.le_of_ble_eq_true rfl)⟩
theorem lvL_176 : zz_LV R_law 176 mX12_numbers := ⟨(zz_mem 2105 (by decide +kernel) rfl), (zz_mem 2106 (by decide +kernel) rfl), (zz_mem 2107 (by decide +kernel) rfl)⟩
theorem okL_X12_numbers : zz_ok mX12_numbers 3 := ⟨(zz_mem 2108 (by decide +kernel) rfl), (zz_mem 143 (by decide +kernel) rfl), ⟨by decide +kernel, by decide +kernel, by decide +kernel⟩, (Nat.le_of_ble_eq_true rfl)⟩
theorem lvL_177 : zz_LV R_law 177 mX11_write := ⟨(zz_mem 1450 (by decide +kernel) rfl), (zz_mem 1451 (by decide +kernel) rfl), (zz_mem 1452 (by decide +kernel) rfl)⟩
theorem okL_X11_write : zz_ok mX11_write 3 := ⟨(zz_mem 1453 (by decide +kernel) rfl), (zz_mem 129 (by decide +kernel) rfl), ⟨by decide +kernel, by decide +kernel, by decide +kernel⟩, (Nat.le_of_ble_eq_true rfl)⟩
theorem lvL_181 : zz_LV R_law 181 mX12_write := ⟨(zz_mem 2109 (by decide +kernel) rfl), (zz_mem 2110 (by decide +kernel) rfl), (zz_mem 2111 (by decide +kernel) rfl)⟩
theorem okL_X12_write : zz_ok mX12_write 3 := ⟨(zz_mem 2112 (by decide +kernel) rfl), (zz_mem 143 (by decide +kernel) rfl), ⟨by decide +kernel, by decide +kernel, by decide +kernel⟩, (Nat.le_of_ble_eq_true rfl)⟩
theorem lvL_182 : zz_LV R_law 182 mX11_lists := ⟨(zz_mem 1461 (by decide +kernel) rfl), (zz_mem 1462 (by decide +kernel) rfl), (zz_mem 1463 (by decide +kernel) rfl)⟩
theorem okL_X11_lists : zz_ok mX11_lists 1 := ⟨(zz_mem 1464 (by decide +kernel) rfl), (zz_mem 129 (by decide +kernel) rfl), ⟨by decide +kernel, by decide +kernel, by decide +kernel⟩, (Nat.le_of_ble_eq_true rfl)⟩
theorem lvL_185 : zz_LV R_law 185 mX12_lists := ⟨(zz_mem 2117 (by decide +kernel) rfl), (zz_mem 2118 (by decide +kernel) rfl), (zz_mem 2119 (by decide +kernel) rfl)⟩
theorem okL_X12_lists : zz_ok mX12_lists 1 := ⟨(zz_mem 2120 (by decide +kernel) rfl), (zz_mem 143 (by decide +kernel) rfl), ⟨by decide +kernel, by decide +kernel, by decide +kernel⟩, (Nat.le_of_ble_eq_true rfl)⟩
theorem lvL_186 : zz_LV R_law 186 mX11_image := ⟨(zz_mem 1465 (by decide +kernel) rfl), (zz_mem 1466 (by decide +kernel) rfl), (zz_mem 1467 (by decide +kernel) rfl)⟩
theorem okL_X11_image : zz_ok mX11_image 1 := ⟨(zz_mem 1468 (by decide +kernel) rfl), (zz_mem 129 (by decide +kernel) rfl), ⟨by decide +kernel, by decide +kernel, by decide +kernel⟩, (Nat.le_of_ble_eq_true rfl)⟩
theorem lvL_189 : zz_LV R_law 189 mX12_image := ⟨(zz_mem 2121 (by decide +kernel) rfl), (zz_mem 2122 (by decide +kernel) rfl), (zz_mem 2123 (by decide +kernel) rfl)⟩
theorem okL_X12_image : zz_ok mX12_image 1 := ⟨(zz_mem 2124 (by decide +kernel) rfl), (zz_mem 143 (by decide +kernel) rfl), ⟨by decide +kernel, by decide +kernel, by decide +kernel⟩, (Nat.le_of_ble_eq_true rfl)⟩
theorem lvL_190 : zz_LV R_law 190 mX11_restore := ⟨(zz_mem 1469 (by decide +kernel) rfl), (zz_mem 1470 (by decide +kernel) rfl), (zz_mem 1471 (by decide +kernel) rfl)⟩
theorem okL_X11_restore : zz_ok mX11_restore 1 := ⟨(zz_mem 1472 (by decide +kernel) rfl), (zz_mem 129 (by decide +kernel) rfl), ⟨by decide +kernel, by decide +kernel, by decide +kernel⟩, (Nat.le_of_ble_eq_true rfl)⟩
theorem lvL_193 : zz_LV R_law 193 mX12_restore := ⟨(zz_mem 2125 (by decide +kernel) rfl), (zz_mem 2126 (by decide +kernel) rfl), (zz_mem 2127 (by decide +kernel) rfl)⟩
theorem okL_X12_restore : zz_ok mX12_restore 1 := ⟨(zz_mem 2128 (by decide +kernel) rfl), (zz_mem 143 (by decide +kernel) rfl), ⟨by decide +kernel, by decide +kernel, by decide +kernel⟩, (Nat.le_of_ble_eq_true rfl)⟩
theorem lvL_194 : zz_LV R_law 194 mX11_count := ⟨(zz_mem 1473 (by decide +kernel) rfl), (zz_mem 1474 (by decide +kernel) rfl), (zz_mem 1475 (by decide +kernel) rfl)⟩
theorem okL_X11_count : zz_ok mX11_count 1 := ⟨(zz_mem 1476 (by decide +kernel) rfl), (zz_mem 129 (by decide +kernel) rfl), ⟨by decide +kernel, by decide +kernel, by decide +kernel⟩, (Nat.le_of_ble_eq_true rfl)⟩
theorem lvL_197 : zz_LV R_law 197 mX12_count := ⟨(zz_mem 2129 (by decide +kernel) rfl), (zz_mem 2130 (by decide +kernel) rfl), (zz_mem 2131 (by decide +kernel) rfl)⟩
theorem okL_X12_count : zz_ok mX12_count 1 := ⟨(zz_mem 2132 (by decide +kernel) rfl), (zz_mem 143 (by decide +kernel) rfl), ⟨by decide +kernel, by decide +kernel, by decide +kernel⟩, (Nat.le_of_ble_eq_true rfl)⟩
theorem kcL_160 : Cond.constantLong R_law 160 4294967295 ∈ lw_tbl := zL_in (zz_mem 2133 (by decide +kernel) rfl)
abbrev zL_P : Type := Nat → zz_Mem → zz_Mem → Prop
section ZLW
variable {l : Launch} {E : zz_G} {b L : Nat} {xs : Nat → Int32} {A1 A2 : Nat → Prop} {a2 : Nat → Nat} {h1 cs sl pc n idx : Nat} {lv : List (Nat × Value)} {st rest As : List Value} {μ ν : zz_Mem} {M' : zz_M} {d' nn : Nat}
theorem zL_cls_iW {f' : Option (Int32 × zz_Mem)} {r : Int32} {m1 : zz_Mem} (hcon : ∀ a A, 107 ≤ zz_N (zA_G E a n A) → zz_Con zz_sh l (zA_G E a n A) M' d' (.ref (a 0) :: As) zz_vI zz_m2 f' μ) (hn7 : 107 ≤ n) (hf : f' = some (r, m1)) (hd : decode code pc = .ok (.invokevirtual idx, 3)) (Lk : zz_LV R_law idx M') (ho : zz_ok M' nn) (hr : M'.1.cls = RX11) (hdd : d' + 1 ≤ 2048) (hn : As.length = nn) (hst : As.reverse ++ .ref h1 :: rest = st) (hW0 : (rest.map fun v => v.category).sum ≤ 8) (hc : cs ≤ 600000) (hs : sl ≤ 7302250) (k : zL l E b L xs A1 A2 a2 h1 cs sl (pc + 3) lv (.int r :: rest) n m1 ν) : zL l E b L xs A1 A2 a2 h1 cs sl pc lv st n μ ν :=
  zL_cls hcon hn7 hf hd Lk ho hr hdd hn hst hW0 hc hs k
theorem zL_cls_jW {f' : Option (Int64 × zz_Mem)} {r : Int64} {m1 : zz_Mem} (hcon : ∀ a A, 107 ≤ zz_N (zA_G E a n A) → zz_Con zz_sh l (zA_G E a n A) M' d' (.ref (a 0) :: As) zz_vJ zz_m2 f' μ) (hn7 : 107 ≤ n) (hf : f' = some (r, m1)) (hd : decode code pc = .ok (.invokevirtual idx, 3)) (Lk : zz_LV R_law idx M') (ho : zz_ok M' nn) (hr : M'.1.cls = RX11) (hdd : d' + 1 ≤ 2048) (hn : As.length = nn) (hst : As.reverse ++ .ref h1 :: rest = st) (hW0 : (rest.map fun v => v.category).sum ≤ 8) (hc : cs ≤ 600000) (hs : sl ≤ 7302250) (k : zL l E b L xs A1 A2 a2 h1 cs sl (pc + 3) lv (.long r :: rest) n m1 ν) : zL l E b L xs A1 A2 a2 h1 cs sl pc lv st n μ ν :=
  zL_cls hcon hn7 hf hd Lk ho hr hdd hn hst hW0 hc hs k
theorem zL_cls_iR {f' : Option (Int32)} {r : Int32} (hcon : ∀ a A, 107 ≤ zz_N (zA_G E a n A) → zz_Con zz_sh l (zA_G E a n A) M' d' (.ref (a 0) :: As) zz_vIr (zz_mC μ) f' μ) (hn7 : 107 ≤ n) (hf : f' = some r) (hd : decode code pc = .ok (.invokevirtual idx, 3)) (Lk : zz_LV R_law idx M') (ho : zz_ok M' nn) (hr : M'.1.cls = RX11) (hdd : d' + 1 ≤ 2048) (hn : As.length = nn) (hst : As.reverse ++ .ref h1 :: rest = st) (hW0 : (rest.map fun v => v.category).sum ≤ 8) (hc : cs ≤ 600000) (hs : sl ≤ 7302250) (k : zL l E b L xs A1 A2 a2 h1 cs sl (pc + 3) lv (.int r :: rest) n μ ν) : zL l E b L xs A1 A2 a2 h1 cs sl pc lv st n μ ν :=
  zL_cls hcon hn7 hf hd Lk ho hr hdd hn hst hW0 hc hs k
theorem zL_cls_jR {f' : Option (Int64)} {r : Int64} (hcon : ∀ a A, 107 ≤ zz_N (zA_G E a n A) → zz_Con zz_sh l (zA_G E a n A) M' d' (.ref (a 0) :: As) zz_vJr (zz_mC μ) f' μ) (hn7 : 107 ≤ n) (hf : f' = some r) (hd : decode code pc = .ok (.invokevirtual idx, 3)) (Lk : zz_LV R_law idx M') (ho : zz_ok M' nn) (hr : M'.1.cls = RX11) (hdd : d' + 1 ≤ 2048) (hn : As.length = nn) (hst : As.reverse ++ .ref h1 :: rest = st) (hW0 : (rest.map fun v => v.category).sum ≤ 8) (hc : cs ≤ 600000) (hs : sl ≤ 7302250) (k : zL l E b L xs A1 A2 a2 h1 cs sl (pc + 3) lv (.long r :: rest) n μ ν) : zL l E b L xs A1 A2 a2 h1 cs sl pc lv st n μ ν :=
  zL_cls hcon hn7 hf hd Lk ho hr hdd hn hst hW0 hc hs k
theorem zL_mod_iW {f' : Option (Int32 × zz_Mem)} {r : Int32} {m1 : zz_Mem} (hcon : ∀ A, 26 ≤ zz_N (zA_G E a2 26 A) → zz_Con zz_shM l (zA_G E a2 26 A) M' d' (.ref (a2 0) :: As) zz_vI zz_m2 f' ν) (hf : f' = some (r, m1)) (hd : decode code pc = .ok (.invokevirtual idx, 3)) (Lk : zz_LV R_law idx M') (ho : zz_ok M' nn) (hr : M'.1.cls = RX12) (hdd : d' + 1 ≤ 2048) (hn : As.length = nn) (hst : As.reverse ++ .ref (a2 0) :: rest = st) (hW0 : (rest.map fun v => v.category).sum ≤ 8) (hc : cs ≤ 600000) (hs : sl ≤ 7302250) (k : zL l E b L xs A1 A2 a2 h1 cs sl (pc + 3) lv (.int r :: rest) n μ m1) : zL l E b L xs A1 A2 a2 h1 cs sl pc lv st n μ ν :=
  zL_mod hcon hf hd Lk ho hr hdd hn hst hW0 hc hs k
theorem zL_mod_jW {f' : Option (Int64 × zz_Mem)} {r : Int64} {m1 : zz_Mem} (hcon : ∀ A, 26 ≤ zz_N (zA_G E a2 26 A) → zz_Con zz_shM l (zA_G E a2 26 A) M' d' (.ref (a2 0) :: As) zz_vJ zz_m2 f' ν) (hf : f' = some (r, m1)) (hd : decode code pc = .ok (.invokevirtual idx, 3)) (Lk : zz_LV R_law idx M') (ho : zz_ok M' nn) (hr : M'.1.cls = RX12) (hdd : d' + 1 ≤ 2048) (hn : As.length = nn) (hst : As.reverse ++ .ref (a2 0) :: rest = st) (hW0 : (rest.map fun v => v.category).sum ≤ 8) (hc : cs ≤ 600000) (hs : sl ≤ 7302250) (k : zL l E b L xs A1 A2 a2 h1 cs sl (pc + 3) lv (.long r :: rest) n μ m1) : zL l E b L xs A1 A2 a2 h1 cs sl pc lv st n μ ν :=
  zL_mod hcon hf hd Lk ho hr hdd hn hst hW0 hc hs k
theorem zL_mod_iR {f' : Option (Int32)} {r : Int32} (hcon : ∀ A, 26 ≤ zz_N (zA_G E a2 26 A) → zz_Con zz_shM l (zA_G E a2 26 A) M' d' (.ref (a2 0) :: As) zz_vIr (zz_mC ν) f' ν) (hf : f' = some r) (hd : decode code pc = .ok (.invokevirtual idx, 3)) (Lk : zz_LV R_law idx M') (ho : zz_ok M' nn) (hr : M'.1.cls = RX12) (hdd : d' + 1 ≤ 2048) (hn : As.length = nn) (hst : As.reverse ++ .ref (a2 0) :: rest = st) (hW0 : (rest.map fun v => v.category).sum ≤ 8) (hc : cs ≤ 600000) (hs : sl ≤ 7302250) (k : zL l E b L xs A1 A2 a2 h1 cs sl (pc + 3) lv (.int r :: rest) n μ ν) : zL l E b L xs A1 A2 a2 h1 cs sl pc lv st n μ ν :=
  zL_mod hcon hf hd Lk ho hr hdd hn hst hW0 hc hs k
theorem zL_mod_jR {f' : Option (Int64)} {r : Int64} (hcon : ∀ A, 26 ≤ zz_N (zA_G E a2 26 A) → zz_Con zz_shM l (zA_G E a2 26 A) M' d' (.ref (a2 0) :: As) zz_vJr (zz_mC ν) f' ν) (hf : f' = some r) (hd : decode code pc = .ok (.invokevirtual idx, 3)) (Lk : zz_LV R_law idx M') (ho : zz_ok M' nn) (hr : M'.1.cls = RX12) (hdd : d' + 1 ≤ 2048) (hn : As.length = nn) (hst : As.reverse ++ .ref (a2 0) :: rest = st) (hW0 : (rest.map fun v => v.category).sum ≤ 8) (hc : cs ≤ 600000) (hs : sl ≤ 7302250) (k : zL l E b L xs A1 A2 a2 h1 cs sl (pc + 3) lv (.long r :: rest) n μ ν) : zL l E b L xs A1 A2 a2 h1 cs sl pc lv st n μ ν :=
  zL_mod hcon hf hd Lk ho hr hdd hn hst hW0 hc hs k
end ZLW
theorem zL_warmA {E : zz_G} {s U : State} {locs : List Loc} (hE : zA_Env E s) (hW : s.WarmedH U.vm) (hS : va_S (zz_A E) s.heap U.heap locs) : zA_Env E U :=
  ⟨va_K.moved hW.alike hE.1, (hE.2.1.moved hW.alike).kept hS.2.1, hE.2.2.1.warm hW, hE.2.2.2.1.warm hW, fun z hz => va_AO.moved hW.alike (hE.2.2.2.2.1 z hz), fun q h => hE.2.2.2.2.2 q (Nat.le_trans hS.1 h)⟩
theorem zL_img107 {l : Launch} {E : zz_G} {b L : Nat} {xs : Nat → Int32} {A1 A2 : Nat → Prop} {a2 : Nat → Nat} {h1 cs sl pc i : Nat} {lv : List (Nat × Value)} {rest : List Value} {m m' ν : zz_Mem} {iv : Int32} (h0 : ¬ iv < 0) (h2 : iv < 2) (hi : iv.toNatClampNeg = i) (hi2 : i < 2) (him : m.2.2 32 i = none) (hI : ∀ j o, m.2.2 32 j = some o → o < 107) (ht : ∀ o, m.2.2 30 1 = some o → o < 107) (hcp : f_X6_copyFrom 107 2 (zI_mem m 107 i) = some m')
    (hd : decode code pc = .ok (.invokevirtual 186, 3)) (hW0 : (rest.map fun v => v.category).sum ≤ 8) (hc : cs + 14 ≤ 600000) (hs : sl + 1066 ≤ 7302250) (k : zL l E b L xs A1 A2 a2 h1 (cs + 14) (sl + 1066) (pc + 3) lv (.int 0 :: rest) 121 m' ν) : zL l E b L xs A1 A2 a2 h1 cs sl pc lv (.int iv :: .ref h1 :: rest) 107 m ν := by
  intro p e s m0 below meth c F H locs ls hW hS hl
  obtain ⟨a, rfl, hP1, hD1, hP2, hd2, hAf⟩ := hW
  have hts := F.2.2.2.2.2.1
  have hE := F.2.2.2.2.2.2.2.2.2.1
  have hP1' : va_P (zz_D E) zz_cl (zz_wd zz_sh (zA_G E a 107 zA_T) m) H := hP1
  have hDA : va_D A1 (zz_wd zz_sh (zA_G E a 107 zA_T) m) := zz_wd_D (G := zA_G E a 107 A1) hD1 m
  have hDE : va_D (zz_A E) (zz_wd zz_sh (zA_G E a 107 zA_T) m) := hDA.weaken (fun _ _ _ h => F.2.2.2.2.2.2.2.2.2.2.1 _ h)
  have inA : ∀ q, va_A (zz_wd zz_sh (zA_G E a 107 zA_T) m) H.size q → A1 q := by
    intro q hq
    rcases hq with ⟨k2, e2, g2⟩ | g2
    · exact hDA.2 k2 _ g2
    · exact (hAf q g2).1
  have outA : ∀ q, va_A (zz_wd zz_sh (zA_G E a 107 zA_T) m) H.size q → ¬ A2 q := by
    intro q hq
    rcases hq with ⟨k2, e2, g2⟩ | g2
    · obtain ⟨g3, g4⟩ := zz_wd_inv g2
      have g5 : q = a k2 := congrArg Prod.fst g4
      rw [g5]
      exact hd2 k2 g3
    · exact (hAf q g2).2
  have hM := c_X11_imageB107 (l := l) (E := E) (a := a) h0 h2 hi hi2 him hI ht hcp H.size
  intro T hT X
  have hrun := va_runV (R := room_1) (p := p) (e := e) (below := below) (meth := meth) (H := H) (locs := locs) (cells := cs) (slots := sl) (Ts := lw_tbl) (C := mX11_image.1.cls) (As := [.int iv]) (rest := rest) (g := F0 m0 pc ls (.int iv :: .ref (a 0) :: rest)) ⟨F.1, F.2.1, F.2.2.2.1, F.2.2.2.2.1, hts⟩ hM ⟨callB_of 1 hts (zL_goodIn okL_X11_image.1) rfl rfl rfl (hts _ (zL_in okL_X11_image.2.1)) (hts _ (zL_in lvL_186.1)) okL_X11_image.2.2.1 ⟨(Nat.le_of_ble_eq_true rfl), (Nat.le_of_ble_eq_true rfl)⟩, hts _ (zL_in lvL_186.2.1), hts _ (zL_in lvL_186.2.2)⟩
    ⟨zA_blind _, va_recv hE.1 hP1' (ci := 11) (q := (RX11, TX11, 20)) rfl (fs := _) (q0 := 0) (by rw [zz_wd_at (G := zA_G E a 107 zA_T) (show 0 < 107 by decide)]; rfl), fun U hU hWm => ⟨rfl, by rw [hU], zL_warmA hE hWm (locs := locs) (by rw [hU]; exact hS), by rw [hU]; exact hP1', hDE⟩⟩ rfl rfl hl.1 rfl (lv_room hW0) hd ⟨hc, hs⟩ T hT X
  obtain ⟨v1, st₀, t, T', L', g0, X', hL, e1, e2, ⟨hv, ⟨ws', ⟨a', hlow, rfl⟩, hPn, hDn⟩, hz, hk⟩, stp⟩ := hrun
  cases hv
  rw [g0] at hz hk
  have hDn2 := zA_wdD hDn
  obtain ⟨t2, a1, b1⟩ := k p e s m0 below meth c F T'.heap (locs ++ L') ls ⟨a', hlow 0 (by decide), by rw [e1]; exact hPn, ⟨hDn2.1, fun k2 hk2 => inA _ (hDn2.2 k2 hk2)⟩, by
      rw [e1]
      refine hP2.kept (fun k2 q2 hq2 => ?_)
      obtain ⟨g1, rfl⟩ := zz_wd_inv hq2
      exact hk _ (hP2 k2 _ hq2).lt (fun z => outA _ z (F.2.2.2.2.2.2.2.2.2.2.2.2.1.2 k2 g1)), fun k2 hk2 => outA _ (hDn2.2 k2 hk2), fun q2 hq2 => hAf q2 (Nat.le_trans hz (by rw [← e1]; exact hq2))⟩
    ⟨Nat.le_trans hS.1 (by rw [e1]; exact hz), fun q1 g1 g2 => by rw [e1, hk q1 (Nat.lt_of_lt_of_le g1 hS.1) (fun z => g2 (F.2.2.2.2.2.2.2.2.2.2.1 _ (inA _ z)))]; exact hS.2.1 q1 g1 g2, fun q1 hq1 => by
      rcases List.mem_append.mp hq1 with h | h
      · exact hS.2.2 q1 h
      · exact F.2.2.2.2.2.2.2.2.2.2.1 _ (inA _ (hL q1 h))⟩ hl T' rfl X'
  exact ⟨t2, stp t2 a1, b1⟩
theorem zL_img121 {l : Launch} {E : zz_G} {b L : Nat} {xs : Nat → Int32} {A1 A2 : Nat → Prop} {a2 : Nat → Nat} {h1 cs sl pc i : Nat} {lv : List (Nat × Value)} {rest : List Value} {m m' ν : zz_Mem} {iv : Int32} (h0 : ¬ iv < 0) (h2 : iv < 2) (hi : iv.toNatClampNeg = i) (hi2 : i < 2) (him : m.2.2 32 i = none) (hI : ∀ j o, m.2.2 32 j = some o → o < 121) (ht : ∀ o, m.2.2 30 1 = some o → o < 121) (hcp : f_X6_copyFrom 121 2 (zI_mem m 121 i) = some m')
    (hd : decode code pc = .ok (.invokevirtual 186, 3)) (hW0 : (rest.map fun v => v.category).sum ≤ 8) (hc : cs + 14 ≤ 600000) (hs : sl + 1066 ≤ 7302250) (k : zL l E b L xs A1 A2 a2 h1 (cs + 14) (sl + 1066) (pc + 3) lv (.int 0 :: rest) 135 m' ν) : zL l E b L xs A1 A2 a2 h1 cs sl pc lv (.int iv :: .ref h1 :: rest) 121 m ν := by
  intro p e s m0 below meth c F H locs ls hW hS hl
  obtain ⟨a, rfl, hP1, hD1, hP2, hd2, hAf⟩ := hW
  have hts := F.2.2.2.2.2.1
  have hE := F.2.2.2.2.2.2.2.2.2.1
  have hP1' : va_P (zz_D E) zz_cl (zz_wd zz_sh (zA_G E a 121 zA_T) m) H := hP1
  have hDA : va_D A1 (zz_wd zz_sh (zA_G E a 121 zA_T) m) := zz_wd_D (G := zA_G E a 121 A1) hD1 m
  have hDE : va_D (zz_A E) (zz_wd zz_sh (zA_G E a 121 zA_T) m) := hDA.weaken (fun _ _ _ h => F.2.2.2.2.2.2.2.2.2.2.1 _ h)
  have inA : ∀ q, va_A (zz_wd zz_sh (zA_G E a 121 zA_T) m) H.size q → A1 q := by
    intro q hq
    rcases hq with ⟨k2, e2, g2⟩ | g2
    · exact hDA.2 k2 _ g2
    · exact (hAf q g2).1
  have outA : ∀ q, va_A (zz_wd zz_sh (zA_G E a 121 zA_T) m) H.size q → ¬ A2 q := by
    intro q hq
    rcases hq with ⟨k2, e2, g2⟩ | g2
    · obtain ⟨g3, g4⟩ := zz_wd_inv g2
      have g5 : q = a k2 := congrArg Prod.fst g4
      rw [g5]
      exact hd2 k2 g3
    · exact (hAf q g2).2
  have hM := c_X11_imageB121 (l := l) (E := E) (a := a) h0 h2 hi hi2 him hI ht hcp H.size
  intro T hT X
  have hrun := va_runV (R := room_1) (p := p) (e := e) (below := below) (meth := meth) (H := H) (locs := locs) (cells := cs) (slots := sl) (Ts := lw_tbl) (C := mX11_image.1.cls) (As := [.int iv]) (rest := rest) (g := F0 m0 pc ls (.int iv :: .ref (a 0) :: rest)) ⟨F.1, F.2.1, F.2.2.2.1, F.2.2.2.2.1, hts⟩ hM ⟨callB_of 1 hts (zL_goodIn okL_X11_image.1) rfl rfl rfl (hts _ (zL_in okL_X11_image.2.1)) (hts _ (zL_in lvL_186.1)) okL_X11_image.2.2.1 ⟨(Nat.le_of_ble_eq_true rfl), (Nat.le_of_ble_eq_true rfl)⟩, hts _ (zL_in lvL_186.2.1), hts _ (zL_in lvL_186.2.2)⟩
    ⟨zA_blind _, va_recv hE.1 hP1' (ci := 11) (q := (RX11, TX11, 20)) rfl (fs := _) (q0 := 0) (by rw [zz_wd_at (G := zA_G E a 121 zA_T) (show 0 < 121 by decide)]; rfl), fun U hU hWm => ⟨rfl, by rw [hU], zL_warmA hE hWm (locs := locs) (by rw [hU]; exact hS), by rw [hU]; exact hP1', hDE⟩⟩ rfl rfl hl.1 rfl (lv_room hW0) hd ⟨hc, hs⟩ T hT X
  obtain ⟨v1, st₀, t, T', L', g0, X', hL, e1, e2, ⟨hv, ⟨ws', ⟨a', hlow, rfl⟩, hPn, hDn⟩, hz, hk⟩, stp⟩ := hrun
  cases hv
  rw [g0] at hz hk
  have hDn2 := zA_wdD hDn
  obtain ⟨t2, a1, b1⟩ := k p e s m0 below meth c F T'.heap (locs ++ L') ls ⟨a', hlow 0 (by decide), by rw [e1]; exact hPn, ⟨hDn2.1, fun k2 hk2 => inA _ (hDn2.2 k2 hk2)⟩, by
      rw [e1]
      refine hP2.kept (fun k2 q2 hq2 => ?_)
      obtain ⟨g1, rfl⟩ := zz_wd_inv hq2
      exact hk _ (hP2 k2 _ hq2).lt (fun z => outA _ z (F.2.2.2.2.2.2.2.2.2.2.2.2.1.2 k2 g1)), fun k2 hk2 => outA _ (hDn2.2 k2 hk2), fun q2 hq2 => hAf q2 (Nat.le_trans hz (by rw [← e1]; exact hq2))⟩
    ⟨Nat.le_trans hS.1 (by rw [e1]; exact hz), fun q1 g1 g2 => by rw [e1, hk q1 (Nat.lt_of_lt_of_le g1 hS.1) (fun z => g2 (F.2.2.2.2.2.2.2.2.2.2.1 _ (inA _ z)))]; exact hS.2.1 q1 g1 g2, fun q1 hq1 => by
      rcases List.mem_append.mp hq1 with h | h
      · exact hS.2.2 q1 h
      · exact F.2.2.2.2.2.2.2.2.2.2.1 _ (inA _ (hL q1 h))⟩ hl T' rfl X'
  exact ⟨t2, stp t2 a1, b1⟩
def zL_refs (PI : zL_P) : Prop := ∀ n μ ν, PI n μ ν → (n = 107 ∨ n = 121 ∨ n = 135) ∧ (∀ j o, μ.2.2 32 j = some o → (o = 107 ∧ 121 ≤ n) ∨ (o = 121 ∧ 135 ≤ n)) ∧ ∀ o, μ.2.2 30 1 = some o → o < 107
def zL_op0 (PI : zL_P) : Prop := ∀ n μ ν (p1 : Int32) (p2 : Int32) (p3 : Int32) (p4 : Int32) (p5 : Int32), PI n μ ν → ∃ (r : Int32) (μ' : zz_Mem) (ν' : zz_Mem), f_X11_feed p1 p2 p3 p4 p5 μ = some (r, μ') ∧ f_X12_feed p1 p2 p3 p4 p5 ν = some (r, ν') ∧ PI n μ' ν'
def zL_op1 (PI : zL_P) : Prop := ∀ n μ ν (p1 : Int32), PI n μ ν → ∃ (r : Int32) (μ' : zz_Mem) (ν' : zz_Mem), f_X11_desk p1 μ = some (r, μ') ∧ f_X12_desk p1 ν = some (r, ν') ∧ PI n μ' ν'
def zL_op2 (PI : zL_P) : Prop := ∀ n μ ν (p1 : Int32), PI n μ ν → ∃ (r : Int32) (ν' : zz_Mem), f_X11_fault μ p1 = some r ∧ f_X12_fault p1 ν = some (r, ν') ∧ PI n μ ν'
def zL_op3 (PI : zL_P) : Prop := ∀ n μ ν (p1 : Int32) (p2 : Int32), PI n μ ν → ∃ (r : Int32) (μ' : zz_Mem) (ν' : zz_Mem), f_X11_input p1 p2 μ = some (r, μ') ∧ f_X12_input p1 p2 ν = some (r, ν') ∧ PI n μ' ν'
def zL_op4 (PI : zL_P) : Prop := ∀ n μ ν (p1 : Int32) (p2 : Int32), PI n μ ν → ∃ (r : Int64) (ν' : zz_Mem), f_X11_flow μ p1 p2 = some r ∧ f_X12_flow p1 p2 ν = some (r, ν') ∧ PI n μ ν'
def zL_op5 (PI : zL_P) : Prop := ∀ n μ ν (p1 : Int32), PI n μ ν → ∃ (r : Int32) (μ' : zz_Mem) (ν' : zz_Mem), f_X11_open p1 μ = some (r, μ') ∧ f_X12_open p1 ν = some (r, ν') ∧ PI n μ' ν'
def zL_op6 (PI : zL_P) : Prop := ∀ n μ ν (p1 : Int32), PI n μ ν → ∃ (r : Int32) (μ' : zz_Mem) (ν' : zz_Mem), f_X11_off p1 μ = some (r, μ') ∧ f_X12_off p1 ν = some (r, ν') ∧ PI n μ' ν'
def zL_op7 (PI : zL_P) : Prop := ∀ n μ ν (p1 : Int32) (p2 : Int32), PI n μ ν → ∃ (r : Int32) (μ' : zz_Mem) (ν' : zz_Mem), f_X11_opens p1 p2 μ = some (r, μ') ∧ f_X12_opens p1 p2 ν = some (r, ν') ∧ PI n μ' ν'
def zL_op8 (PI : zL_P) : Prop := ∀ n μ ν (p1 : Int32) (p2 : Int32), PI n μ ν → ∃ (r : Int32) (μ' : zz_Mem) (ν' : zz_Mem), f_X11_business p1 p2 μ = some (r, μ') ∧ f_X12_business p1 p2 ν = some (r, ν') ∧ PI n μ' ν'
def zL_op9 (PI : zL_P) : Prop := ∀ n μ ν (p1 : Int32) (p2 : Int32), PI n μ ν → ∃ (r : Int32) (ν' : zz_Mem), f_X11_period μ p1 p2 = some r ∧ f_X12_period p1 p2 ν = some (r, ν') ∧ PI n μ ν'
def zL_op10 (PI : zL_P) : Prop := ∀ n μ ν (p1 : Int32) (p2 : Int32), PI n μ ν → ∃ (r : Int32) (μ' : zz_Mem) (ν' : zz_Mem), f_X11_bump p1 p2 μ = some (r, μ') ∧ f_X12_bump p1 p2 ν = some (r, ν') ∧ PI n μ' ν'
def zL_op11 (PI : zL_P) : Prop := ∀ n μ ν (p1 : Int32), PI n μ ν → ∃ (r : Int32) (μ' : zz_Mem) (ν' : zz_Mem), f_X11_shift p1 μ = some (r, μ') ∧ f_X12_shift p1 ν = some (r, ν') ∧ PI n μ' ν'
def zL_op12 (PI : zL_P) : Prop := ∀ n μ ν (p1 : Int32) (p2 : Int32), PI n μ ν → ∃ (r : Int32) (μ' : zz_Mem) (ν' : zz_Mem), f_X11_amount p1 p2 μ = some (r, μ') ∧ f_X12_amount p1 p2 ν = some (r, ν') ∧ PI n μ' ν'
def zL_op13 (PI : zL_P) : Prop := ∀ n μ ν (p1 : Int32), PI n μ ν → ∃ (r : Int32) (μ' : zz_Mem) (ν' : zz_Mem), f_X11_undo p1 μ = some (r, μ') ∧ f_X12_undo p1 ν = some (r, ν') ∧ PI n μ' ν'
def zL_op14 (PI : zL_P) : Prop := ∀ n μ ν (p1 : Int32) (p2 : Int32), PI n μ ν → ∃ (r : Int32) (μ' : zz_Mem) (ν' : zz_Mem), f_X11_judge p1 p2 μ = some (r, μ') ∧ f_X12_judge p1 p2 ν = some (r, ν') ∧ PI n μ' ν'
def zL_op15 (PI : zL_P) : Prop := ∀ n μ ν (p1 : Int32), PI n μ ν → ∃ (r : Int32) (μ' : zz_Mem) (ν' : zz_Mem), f_X11_perform p1 μ = some (r, μ') ∧ f_X12_perform p1 ν = some (r, ν') ∧ PI n μ' ν'
def zL_op16 (PI : zL_P) : Prop := ∀ n μ ν (p1 : Int32) (p2 : Int32), PI n μ ν → ∃ (r : Int32) (μ' : zz_Mem) (ν' : zz_Mem), f_X11_week p1 p2 μ = some (r, μ') ∧ f_X12_week p1 p2 ν = some (r, ν') ∧ PI n μ' ν'
def zL_op17 (PI : zL_P) : Prop := ∀ n μ ν, PI n μ ν → ∃ (r : Int32) (ν' : zz_Mem), f_X11_pillars μ  = some r ∧ f_X12_pillars ν = some (r, ν') ∧ PI n μ ν'
def zL_op18 (PI : zL_P) : Prop := ∀ n μ ν (p1 : Int32) (p2 : Int32), PI n μ ν → ∃ (r : Int32) (μ' : zz_Mem) (ν' : zz_Mem), f_X11_pillar p1 p2 μ = some (r, μ') ∧ f_X12_pillar p1 p2 ν = some (r, ν') ∧ PI n μ' ν'
def zL_op19 (PI : zL_P) : Prop := ∀ n μ ν (p1 : Int32), PI n μ ν → ∃ (r : Int32) (μ' : zz_Mem) (ν' : zz_Mem), f_X11_factor p1 μ = some (r, μ') ∧ f_X12_factor p1 ν = some (r, ν') ∧ PI n μ' ν'
def zL_op20 (PI : zL_P) : Prop := ∀ n μ ν (p1 : Int32) (p2 : Int32), PI n μ ν → ∃ (r : Int32) (μ' : zz_Mem) (ν' : zz_Mem), f_X11_forward p1 p2 μ = some (r, μ') ∧ f_X12_forward p1 p2 ν = some (r, ν') ∧ PI n μ' ν'
def zL_op21 (PI : zL_P) : Prop := ∀ n μ ν (p1 : Int32), PI n μ ν → ∃ (r : Int32) (μ' : zz_Mem) (ν' : zz_Mem), f_X11_implied p1 μ = some (r, μ') ∧ f_X12_implied p1 ν = some (r, ν') ∧ PI n μ' ν'
def zL_op22 (PI : zL_P) : Prop := ∀ n μ ν, PI n μ ν → ∃ (r : Int32) (μ' : zz_Mem) (ν' : zz_Mem), f_X11_sound μ = some (r, μ') ∧ f_X12_sound ν = some (r, ν') ∧ PI n μ' ν'
def zL_op23 (PI : zL_P) : Prop := ∀ n μ ν (p1 : Int32) (p2 : Int32), PI n μ ν → ∃ (r : Int32) (μ' : zz_Mem) (ν' : zz_Mem), f_X11_falls p1 p2 μ = some (r, μ') ∧ f_X12_falls p1 p2 ν = some (r, ν') ∧ PI n μ' ν'
def zL_op24 (PI : zL_P) : Prop := ∀ n μ ν (p1 : Int32), PI n μ ν → ∃ (r : Int32) (μ' : zz_Mem) (ν' : zz_Mem), f_X11_moves p1 μ = some (r, μ') ∧ f_X12_moves p1 ν = some (r, ν') ∧ PI n μ' ν'
def zL_op25 (PI : zL_P) : Prop := ∀ n μ ν, PI n μ ν → ∃ (r : Int64) (μ' : zz_Mem) (ν' : zz_Mem), f_X11_worth μ = some (r, μ') ∧ f_X12_worth ν = some (r, ν') ∧ PI n μ' ν'
def zL_op26 (PI : zL_P) : Prop := ∀ n μ ν (p1 : Int32), PI n μ ν → ∃ (r : Int64) (μ' : zz_Mem) (ν' : zz_Mem), f_X11_move p1 μ = some (r, μ') ∧ f_X12_move p1 ν = some (r, ν') ∧ PI n μ' ν'
def zL_op27 (PI : zL_P) : Prop := ∀ n μ ν (p1 : Int32) (p2 : Int32), PI n μ ν → ∃ (r : Int64) (μ' : zz_Mem) (ν' : zz_Mem), f_X11_bumped p1 p2 μ = some (r, μ') ∧ f_X12_bumped p1 p2 ν = some (r, ν') ∧ PI n μ' ν'
def zL_op28 (PI : zL_P) : Prop := ∀ n μ ν, PI n μ ν → ∃ (r : Int32) (μ' : zz_Mem) (ν' : zz_Mem), f_X11_mover μ = some (r, μ') ∧ f_X12_mover ν = some (r, ν') ∧ PI n μ' ν'
def zL_op29 (PI : zL_P) : Prop := ∀ n μ ν (p1 : Int32), PI n μ ν → ∃ (r : Int32) (μ' : zz_Mem) (ν' : zz_Mem), f_X11_breaks p1 μ = some (r, μ') ∧ f_X12_breaks p1 ν = some (r, ν') ∧ PI n μ' ν'
def zL_op30 (PI : zL_P) : Prop := ∀ n μ ν (p1 : Int32), PI n μ ν → ∃ (r : Int64) (ν' : zz_Mem), f_X11_hang μ p1 = some r ∧ f_X12_hang p1 ν = some (r, ν') ∧ PI n μ ν'
def zL_op31 (PI : zL_P) : Prop := ∀ n μ ν (p1 : Int32), PI n μ ν → ∃ (r : Int64) (μ' : zz_Mem) (ν' : zz_Mem), f_X11_flat p1 μ = some (r, μ') ∧ f_X12_flat p1 ν = some (r, ν') ∧ PI n μ' ν'
def zL_op32 (PI : zL_P) : Prop := ∀ n μ ν (p1 : Int32), PI n μ ν → ∃ (r : Int64) (μ' : zz_Mem) (ν' : zz_Mem), f_X11_left p1 μ = some (r, μ') ∧ f_X12_left p1 ν = some (r, ν') ∧ PI n μ' ν'
def zL_op33 (PI : zL_P) : Prop := ∀ n μ ν (p1 : Int32), PI n μ ν → ∃ (r : Int32) (μ' : zz_Mem) (ν' : zz_Mem), f_X11_shifts p1 μ = some (r, μ') ∧ f_X12_shifts p1 ν = some (r, ν') ∧ PI n μ' ν'
def zL_op34 (PI : zL_P) : Prop := ∀ n μ ν (p1 : Int32), PI n μ ν → ∃ (r : Int32) (μ' : zz_Mem) (ν' : zz_Mem), f_X11_ask p1 μ = some (r, μ') ∧ f_X12_ask p1 ν = some (r, ν') ∧ PI n μ' ν'
def zL_op35 (PI : zL_P) : Prop := ∀ n μ ν (p1 : Int32) (p2 : Int64) (p3 : Int32) (p4 : Int32), PI n μ ν → ∃ (r : Int32) (μ' : zz_Mem) (ν' : zz_Mem), f_X11_chance p1 p2 p3 p4 μ = some (r, μ') ∧ f_X12_chance p1 p2 p3 p4 ν = some (r, ν') ∧ PI n μ' ν'
def zL_op36 (PI : zL_P) : Prop := ∀ n μ ν (p1 : Int32) (p2 : Int32) (p3 : Int32), PI n μ ν → ∃ (r : Int64) (μ' : zz_Mem) (ν' : zz_Mem), f_X11_mean p1 p2 p3 μ = some (r, μ') ∧ f_X12_mean p1 p2 p3 ν = some (r, ν') ∧ PI n μ' ν'
def zL_op37 (PI : zL_P) : Prop := ∀ n μ ν (p1 : Int32) (p2 : Int32) (p3 : Int32), PI n μ ν → ∃ (r : Int32) (μ' : zz_Mem) (ν' : zz_Mem), f_X11_numbers p1 p2 p3 μ = some (r, μ') ∧ f_X12_numbers p1 p2 p3 ν = some (r, ν') ∧ PI n μ' ν'
def zL_op38 (PI : zL_P) : Prop := ∀ n μ ν (p1 : Int32) (p2 : Int32) (p3 : Int64), PI n μ ν → ∃ (r : Int64) (μ' : zz_Mem) (ν' : zz_Mem), f_X11_write p1 p2 p3 μ = some (r, μ') ∧ f_X12_write p1 p2 p3 ν = some (r, ν') ∧ PI n μ' ν'
def zL_op39 (PI : zL_P) : Prop := ∀ n μ ν (p1 : Int32), PI n μ ν → ∃ (r : Int32) (μ' : zz_Mem) (ν' : zz_Mem), f_X11_lists p1 μ = some (r, μ') ∧ f_X12_lists p1 ν = some (r, ν') ∧ PI n μ' ν'
def zL_op40 (PI : zL_P) : Prop := ∀ n μ ν (p1 : Int32), PI n μ ν → (∃ r μ' ν', f_X11_imageA p1 μ = some (r, μ') ∧ f_X12_image p1 ν = some (r, ν') ∧ PI n μ' ν') ∨ ((n = 107 ∨ n = 121) ∧ ¬ p1 < 0 ∧ p1 < 2 ∧ μ.2.2 32 p1.toNatClampNeg = none ∧ p1.toNatClampNeg < 2 ∧ ∃ μ' ν', f_X6_copyFrom n 2 (zI_mem μ n p1.toNatClampNeg) = some μ' ∧ f_X12_image p1 ν = some (0, ν') ∧ PI (n + 14) μ' ν')
def zL_op41 (PI : zL_P) : Prop := ∀ n μ ν (p1 : Int32), PI n μ ν → ∃ (r : Int32) (μ' : zz_Mem) (ν' : zz_Mem), f_X11_restore p1 μ = some (r, μ') ∧ f_X12_restore p1 ν = some (r, ν') ∧ PI n μ' ν'
def zL_op42 (PI : zL_P) : Prop := ∀ n μ ν (p1 : Int32), PI n μ ν → ∃ (r : Int32) (ν' : zz_Mem), f_X11_count μ p1 = some r ∧ f_X12_count p1 ν = some (r, ν') ∧ PI n μ ν'
def zL_ops (PI : zL_P) : Prop := zL_refs PI ∧ zL_op0 PI ∧ zL_op1 PI ∧ zL_op2 PI ∧ zL_op3 PI ∧ zL_op4 PI ∧ zL_op5 PI ∧ zL_op6 PI ∧ zL_op7 PI ∧ zL_op8 PI ∧ zL_op9 PI ∧ zL_op10 PI ∧ zL_op11 PI ∧ zL_op12 PI ∧ zL_op13 PI ∧ zL_op14 PI ∧ zL_op15 PI ∧ zL_op16 PI ∧ zL_op17 PI ∧ zL_op18 PI ∧ zL_op19 PI ∧ zL_op20 PI ∧ zL_op21 PI ∧ zL_op22 PI ∧ zL_op23 PI ∧ zL_op24 PI ∧ zL_op25 PI ∧ zL_op26 PI ∧ zL_op27 PI ∧ zL_op28 PI ∧ zL_op29 PI ∧ zL_op30 PI ∧ zL_op31 PI ∧ zL_op32 PI ∧ zL_op33 PI ∧ zL_op34 PI ∧ zL_op35 PI ∧ zL_op36 PI ∧ zL_op37 PI ∧ zL_op38 PI ∧ zL_op39 PI ∧ zL_op40 PI ∧ zL_op41 PI ∧ zL_op42 PI
theorem zL_plan {PI : zL_P} {n : Nat} {μ ν : zz_Mem} {E : zz_G} {a : Nat → Nat} {A : Nat → Prop} (hrf : zL_refs PI) (hPI : PI n μ ν) : ∀ j o, μ.2.2 32 j = some o → zz_isPlan (zA_G E a n A) o := by
  intro j o h
  rcases (hrf n μ ν hPI).2.1 j o h with ⟨rfl, h2⟩ | ⟨rfl, h2⟩
  · exact isPlanI_107 (G := zA_G E a n A) h2
  · exact isPlanI_121 (G := zA_G E a n A) h2
section ZLC
variable {l : Launch} {E : zz_G} {b L : Nat} {xs : Nat → Int32} {A1 A2 : Nat → Prop} {a2 : Nat → Nat} {h1 cs sl n : Nat} {μ ν : zz_Mem} {iv : Int32} {PI : zL_P}
theorem zL_case0 (hop : zL_op0 PI) (hrf : zL_refs PI) (hc : cs + 14 ≤ 600000) (hs : sl + 1066 ≤ 7302250) (hv1 : vp_in (iv + 1) L) (hv2 : vp_in (iv + 2) L) (hv3 : vp_in (iv + 3) L) (hv4 : vp_in (iv + 4) L) (hv5 : vp_in (iv + 5) L) (hPI : PI n μ ν) (K : ∀ n' μ' ν', PI n' μ' ν' → zL l E b L xs A1 A2 a2 h1 (cs + 14) (sl + 1066) 1498 [(0, .ref b), (1, .ref h1), (2, .ref (a2 0)), (3, .int iv)] [] n' μ' ν') : zL l E b L xs A1 A2 a2 h1 cs sl 220 [(0, .ref b), (1, .ref h1), (2, .ref (a2 0)), (3, .int iv)] [] n μ ν := by
  have hn7 : 107 ≤ n := by have h := (hrf n μ ν hPI).1; omega
  have hc0 : cs ≤ 600000 := by omega
  have hs0 : sl ≤ 7302250 := by omega
  refine zL_aload_n dL_220 rfl 1 rfl ?_
  refine zL_aload_n dL_221 rfl 0 rfl ?_
  refine zL_iload_n dL_222 rfl 3 rfl ?_
  refine zL_iconst (v := (1 : Int32)) dL_223 (by decide) ?_
  refine zL_iadd dL_224 ?_
  refine zL_sld dL_225 hv1 ?_
  refine zL_aload_n dL_226 rfl 0 rfl ?_
  refine zL_iload_n dL_227 rfl 3 rfl ?_
  refine zL_iconst (v := (2 : Int32)) dL_228 (by decide) ?_
  refine zL_iadd dL_229 ?_
  refine zL_sld dL_230 hv2 ?_
  refine zL_aload_n dL_231 rfl 0 rfl ?_
  refine zL_iload_n dL_232 rfl 3 rfl ?_
  refine zL_iconst (v := (3 : Int32)) dL_233 (by decide) ?_
  refine zL_iadd dL_234 ?_
  refine zL_sld dL_235 hv3 ?_
  refine zL_aload_n dL_236 rfl 0 rfl ?_
  refine zL_iload_n dL_237 rfl 3 rfl ?_
  refine zL_iconst (v := (4 : Int32)) dL_238 (by decide) ?_
  refine zL_iadd dL_239 ?_
  refine zL_sld dL_240 hv4 ?_
  refine zL_aload_n dL_241 rfl 0 rfl ?_
  refine zL_iload_n dL_242 rfl 3 rfl ?_
  refine zL_iconst (v := (5 : Int32)) dL_243 (by decide) ?_
  refine zL_iadd dL_244 ?_
  refine zL_sld dL_245 hv5 ?_
  obtain ⟨r, m1, n1, hC, hM, hI⟩ := hop n μ ν ((xs (iv + (1 : Int32)).toNatClampNeg)) ((xs (iv + (2 : Int32)).toNatClampNeg)) ((xs (iv + (3 : Int32)).toNatClampNeg)) ((xs (iv + (4 : Int32)).toNatClampNeg)) ((xs (iv + (5 : Int32)).toNatClampNeg)) hPI
  refine zL_cls_iW (rest := []) (fun a A hN => k_X11_feed (l := l) hN _ _ _ _ _ _) hn7 hC dL_246 lvL_13 okL_X11_feed rfl (Nat.le_of_ble_eq_true rfl) rfl rfl (Nat.le_of_ble_eq_true rfl) hc0 hs0 ?_
  refine zL_aload_n dL_249 rfl 2 rfl ?_
  refine zL_aload_n dL_250 rfl 0 rfl ?_
  refine zL_iload_n dL_251 rfl 3 rfl ?_
  refine zL_iconst (v := (1 : Int32)) dL_252 (by decide) ?_
  refine zL_iadd dL_253 ?_
  refine zL_sld dL_254 hv1 ?_
  refine zL_aload_n dL_255 rfl 0 rfl ?_
  refine zL_iload_n dL_256 rfl 3 rfl ?_
  refine zL_iconst (v := (2 : Int32)) dL_257 (by decide) ?_
  refine zL_iadd dL_258 ?_
  refine zL_sld dL_259 hv2 ?_
  refine zL_aload_n dL_260 rfl 0 rfl ?_
  refine zL_iload_n dL_261 rfl 3 rfl ?_
  refine zL_iconst (v := (3 : Int32)) dL_262 (by decide) ?_
  refine zL_iadd dL_263 ?_
  refine zL_sld dL_264 hv3 ?_
  refine zL_aload_n dL_265 rfl 0 rfl ?_
  refine zL_iload_n dL_266 rfl 3 rfl ?_
  refine zL_iconst (v := (4 : Int32)) dL_267 (by decide) ?_
  refine zL_iadd dL_268 ?_
  refine zL_sld dL_269 hv4 ?_
  refine zL_aload_n dL_270 rfl 0 rfl ?_
  refine zL_iload_n dL_271 rfl 3 rfl ?_
  refine zL_iconst (v := (5 : Int32)) dL_272 (by decide) ?_
  refine zL_iadd dL_273 ?_
  refine zL_sld dL_274 hv5 ?_
  refine zL_mod_iW (rest := [.int r]) (fun A hN => k_X12_feed (l := l) hN _ _ _ _ _ _) hM dL_275 lvL_17 okL_X12_feed rfl (Nat.le_of_ble_eq_true rfl) rfl rfl (Nat.le_of_ble_eq_true rfl) hc0 hs0 ?_
  refine zL_eqT (tgt := 1498) dL_278 (by decide) ?_
  exact zL_widen (by omega) (by omega) (K n m1 n1 hI)
theorem zL_case1 (hop : zL_op1 PI) (hrf : zL_refs PI) (hc : cs + 14 ≤ 600000) (hs : sl + 1066 ≤ 7302250) (hv1 : vp_in (iv + 1) L) (hv2 : vp_in (iv + 2) L) (hv3 : vp_in (iv + 3) L) (hv4 : vp_in (iv + 4) L) (hv5 : vp_in (iv + 5) L) (hPI : PI n μ ν) (K : ∀ n' μ' ν', PI n' μ' ν' → zL l E b L xs A1 A2 a2 h1 (cs + 14) (sl + 1066) 1498 [(0, .ref b), (1, .ref h1), (2, .ref (a2 0)), (3, .int iv)] [] n' μ' ν') : zL l E b L xs A1 A2 a2 h1 cs sl 283 [(0, .ref b), (1, .ref h1), (2, .ref (a2 0)), (3, .int iv)] [] n μ ν := by
  have hn7 : 107 ≤ n := by have h := (hrf n μ ν hPI).1; omega
  have hc0 : cs ≤ 600000 := by omega
  have hs0 : sl ≤ 7302250 := by omega
  refine zL_aload_n dL_283 rfl 1 rfl ?_
  refine zL_aload_n dL_284 rfl 0 rfl ?_
  refine zL_iload_n dL_285 rfl 3 rfl ?_
  refine zL_iconst (v := (1 : Int32)) dL_286 (by decide) ?_
  refine zL_iadd dL_287 ?_
  refine zL_sld dL_288 hv1 ?_
  obtain ⟨r, m1, n1, hC, hM, hI⟩ := hop n μ ν ((xs (iv + (1 : Int32)).toNatClampNeg)) hPI
  refine zL_cls_iW (rest := []) (fun a A hN => k_X11_desk (l := l) hN _ _) hn7 hC dL_289 lvL_18 okL_X11_desk rfl (Nat.le_of_ble_eq_true rfl) rfl rfl (Nat.le_of_ble_eq_true rfl) hc0 hs0 ?_
  refine zL_aload_n dL_292 rfl 2 rfl ?_
  refine zL_aload_n dL_293 rfl 0 rfl ?_
  refine zL_iload_n dL_294 rfl 3 rfl ?_
  refine zL_iconst (v := (1 : Int32)) dL_295 (by decide) ?_
  refine zL_iadd dL_296 ?_
  refine zL_sld dL_297 hv1 ?_
  refine zL_mod_iW (rest := [.int r]) (fun A hN => k_X12_desk (l := l) hN _ _) hM dL_298 lvL_22 okL_X12_desk rfl (Nat.le_of_ble_eq_true rfl) rfl rfl (Nat.le_of_ble_eq_true rfl) hc0 hs0 ?_
  refine zL_eqT (tgt := 1498) dL_301 (by decide) ?_
  exact zL_widen (by omega) (by omega) (K n m1 n1 hI)
theorem zL_case2 (hop : zL_op2 PI) (hrf : zL_refs PI) (hc : cs + 14 ≤ 600000) (hs : sl + 1066 ≤ 7302250) (hv1 : vp_in (iv + 1) L) (hv2 : vp_in (iv + 2) L) (hv3 : vp_in (iv + 3) L) (hv4 : vp_in (iv + 4) L) (hv5 : vp_in (iv + 5) L) (hPI : PI n μ ν) (K : ∀ n' μ' ν', PI n' μ' ν' → zL l E b L xs A1 A2 a2 h1 (cs + 14) (sl + 1066) 1498 [(0, .ref b), (1, .ref h1), (2, .ref (a2 0)), (3, .int iv)] [] n' μ' ν') : zL l E b L xs A1 A2 a2 h1 cs sl 306 [(0, .ref b), (1, .ref h1), (2, .ref (a2 0)), (3, .int iv)] [] n μ ν := by
  have hn7 : 107 ≤ n := by have h := (hrf n μ ν hPI).1; omega
  have hc0 : cs ≤ 600000 := by omega
  have hs0 : sl ≤ 7302250 := by omega
  refine zL_aload_n dL_306 rfl 1 rfl ?_
  refine zL_aload_n dL_307 rfl 0 rfl ?_
  refine zL_iload_n dL_308 rfl 3 rfl ?_
  refine zL_iconst (v := (1 : Int32)) dL_309 (by decide) ?_
  refine zL_iadd dL_310 ?_
  refine zL_sld dL_311 hv1 ?_
  obtain ⟨r, n1, hC, hM, hI⟩ := hop n μ ν ((xs (iv + (1 : Int32)).toNatClampNeg)) hPI
  refine zL_cls_iR (rest := []) (fun a A hN => k_X11_fault (l := l) hN _ _) hn7 hC dL_312 lvL_23 okL_X11_fault rfl (Nat.le_of_ble_eq_true rfl) rfl rfl (Nat.le_of_ble_eq_true rfl) hc0 hs0 ?_
  refine zL_aload_n dL_315 rfl 2 rfl ?_
  refine zL_aload_n dL_316 rfl 0 rfl ?_
  refine zL_iload_n dL_317 rfl 3 rfl ?_
  refine zL_iconst (v := (1 : Int32)) dL_318 (by decide) ?_
  refine zL_iadd dL_319 ?_
  refine zL_sld dL_320 hv1 ?_
  refine zL_mod_iW (rest := [.int r]) (fun A hN => k_X12_fault (l := l) hN _ _) hM dL_321 lvL_26 okL_X12_fault rfl (Nat.le_of_ble_eq_true rfl) rfl rfl (Nat.le_of_ble_eq_true rfl) hc0 hs0 ?_
  refine zL_eqT (tgt := 1498) dL_324 (by decide) ?_
  exact zL_widen (by omega) (by omega) (K n μ n1 hI)
theorem zL_case3 (hop : zL_op3 PI) (hrf : zL_refs PI) (hc : cs + 14 ≤ 600000) (hs : sl + 1066 ≤ 7302250) (hv1 : vp_in (iv + 1) L) (hv2 : vp_in (iv + 2) L) (hv3 : vp_in (iv + 3) L) (hv4 : vp_in (iv + 4) L) (hv5 : vp_in (iv + 5) L) (hPI : PI n μ ν) (K : ∀ n' μ' ν', PI n' μ' ν' → zL l E b L xs A1 A2 a2 h1 (cs + 14) (sl + 1066) 1498 [(0, .ref b), (1, .ref h1), (2, .ref (a2 0)), (3, .int iv)] [] n' μ' ν') : zL l E b L xs A1 A2 a2 h1 cs sl 329 [(0, .ref b), (1, .ref h1), (2, .ref (a2 0)), (3, .int iv)] [] n μ ν := by
  have hn7 : 107 ≤ n := by have h := (hrf n μ ν hPI).1; omega
  have hc0 : cs ≤ 600000 := by omega
  have hs0 : sl ≤ 7302250 := by omega
  refine zL_aload_n dL_329 rfl 1 rfl ?_
  refine zL_aload_n dL_330 rfl 0 rfl ?_
  refine zL_iload_n dL_331 rfl 3 rfl ?_
  refine zL_iconst (v := (1 : Int32)) dL_332 (by decide) ?_
  refine zL_iadd dL_333 ?_
  refine zL_sld dL_334 hv1 ?_
  refine zL_aload_n dL_335 rfl 0 rfl ?_
  refine zL_iload_n dL_336 rfl 3 rfl ?_
  refine zL_iconst (v := (2 : Int32)) dL_337 (by decide) ?_
  refine zL_iadd dL_338 ?_
  refine zL_sld dL_339 hv2 ?_
  obtain ⟨r, m1, n1, hC, hM, hI⟩ := hop n μ ν ((xs (iv + (1 : Int32)).toNatClampNeg)) ((xs (iv + (2 : Int32)).toNatClampNeg)) hPI
  refine zL_cls_iW (rest := []) (fun a A hN => k_X11_input (l := l) hN _ _ _) hn7 hC dL_340 lvL_27 okL_X11_input rfl (Nat.le_of_ble_eq_true rfl) rfl rfl (Nat.le_of_ble_eq_true rfl) hc0 hs0 ?_
  refine zL_aload_n dL_343 rfl 2 rfl ?_
  refine zL_aload_n dL_344 rfl 0 rfl ?_
  refine zL_iload_n dL_345 rfl 3 rfl ?_
  refine zL_iconst (v := (1 : Int32)) dL_346 (by decide) ?_
  refine zL_iadd dL_347 ?_
  refine zL_sld dL_348 hv1 ?_
  refine zL_aload_n dL_349 rfl 0 rfl ?_
  refine zL_iload_n dL_350 rfl 3 rfl ?_
  refine zL_iconst (v := (2 : Int32)) dL_351 (by decide) ?_
  refine zL_iadd dL_352 ?_
  refine zL_sld dL_353 hv2 ?_
  refine zL_mod_iW (rest := [.int r]) (fun A hN => k_X12_input (l := l) hN _ _ _) hM dL_354 lvL_31 okL_X12_input rfl (Nat.le_of_ble_eq_true rfl) rfl rfl (Nat.le_of_ble_eq_true rfl) hc0 hs0 ?_
  refine zL_eqT (tgt := 1498) dL_357 (by decide) ?_
  exact zL_widen (by omega) (by omega) (K n m1 n1 hI)
theorem zL_case4 (hop : zL_op4 PI) (hrf : zL_refs PI) (hc : cs + 14 ≤ 600000) (hs : sl + 1066 ≤ 7302250) (hv1 : vp_in (iv + 1) L) (hv2 : vp_in (iv + 2) L) (hv3 : vp_in (iv + 3) L) (hv4 : vp_in (iv + 4) L) (hv5 : vp_in (iv + 5) L) (hPI : PI n μ ν) (K : ∀ n' μ' ν', PI n' μ' ν' → zL l E b L xs A1 A2 a2 h1 (cs + 14) (sl + 1066) 1498 [(0, .ref b), (1, .ref h1), (2, .ref (a2 0)), (3, .int iv)] [] n' μ' ν') : zL l E b L xs A1 A2 a2 h1 cs sl 362 [(0, .ref b), (1, .ref h1), (2, .ref (a2 0)), (3, .int iv)] [] n μ ν := by
  have hn7 : 107 ≤ n := by have h := (hrf n μ ν hPI).1; omega
  have hc0 : cs ≤ 600000 := by omega
  have hs0 : sl ≤ 7302250 := by omega
  refine zL_aload_n dL_362 rfl 1 rfl ?_
  refine zL_aload_n dL_363 rfl 0 rfl ?_
  refine zL_iload_n dL_364 rfl 3 rfl ?_
  refine zL_iconst (v := (1 : Int32)) dL_365 (by decide) ?_
  refine zL_iadd dL_366 ?_
  refine zL_sld dL_367 hv1 ?_
  refine zL_aload_n dL_368 rfl 0 rfl ?_
  refine zL_iload_n dL_369 rfl 3 rfl ?_
  refine zL_iconst (v := (2 : Int32)) dL_370 (by decide) ?_
  refine zL_iadd dL_371 ?_
  refine zL_sld dL_372 hv2 ?_
  obtain ⟨r, n1, hC, hM, hI⟩ := hop n μ ν ((xs (iv + (1 : Int32)).toNatClampNeg)) ((xs (iv + (2 : Int32)).toNatClampNeg)) hPI
  refine zL_cls_jR (rest := []) (fun a A hN => k_X11_flow (l := l) hN _ _ _) hn7 hC dL_373 lvL_32 okL_X11_flow rfl (Nat.le_of_ble_eq_true rfl) rfl rfl (Nat.le_of_ble_eq_true rfl) hc0 hs0 ?_
  refine zL_aload_n dL_376 rfl 2 rfl ?_
  refine zL_aload_n dL_377 rfl 0 rfl ?_
  refine zL_iload_n dL_378 rfl 3 rfl ?_
  refine zL_iconst (v := (1 : Int32)) dL_379 (by decide) ?_
  refine zL_iadd dL_380 ?_
  refine zL_sld dL_381 hv1 ?_
  refine zL_aload_n dL_382 rfl 0 rfl ?_
  refine zL_iload_n dL_383 rfl 3 rfl ?_
  refine zL_iconst (v := (2 : Int32)) dL_384 (by decide) ?_
  refine zL_iadd dL_385 ?_
  refine zL_sld dL_386 hv2 ?_
  refine zL_mod_jW (rest := [.long r]) (fun A hN => k_X12_flow (l := l) hN _ _ _) hM dL_387 lvL_36 okL_X12_flow rfl (Nat.le_of_ble_eq_true rfl) rfl rfl (Nat.le_of_ble_eq_true rfl) hc0 hs0 ?_
  refine zL_leqT (tgt := 1498) dL_390 dL_391 (by decide) ?_
  exact zL_widen (by omega) (by omega) (K n μ n1 hI)
theorem zL_case5 (hop : zL_op5 PI) (hrf : zL_refs PI) (hc : cs + 14 ≤ 600000) (hs : sl + 1066 ≤ 7302250) (hv1 : vp_in (iv + 1) L) (hv2 : vp_in (iv + 2) L) (hv3 : vp_in (iv + 3) L) (hv4 : vp_in (iv + 4) L) (hv5 : vp_in (iv + 5) L) (hPI : PI n μ ν) (K : ∀ n' μ' ν', PI n' μ' ν' → zL l E b L xs A1 A2 a2 h1 (cs + 14) (sl + 1066) 1498 [(0, .ref b), (1, .ref h1), (2, .ref (a2 0)), (3, .int iv)] [] n' μ' ν') : zL l E b L xs A1 A2 a2 h1 cs sl 396 [(0, .ref b), (1, .ref h1), (2, .ref (a2 0)), (3, .int iv)] [] n μ ν := by
  have hn7 : 107 ≤ n := by have h := (hrf n μ ν hPI).1; omega
  have hc0 : cs ≤ 600000 := by omega
  have hs0 : sl ≤ 7302250 := by omega
  refine zL_aload_n dL_396 rfl 1 rfl ?_
  refine zL_aload_n dL_397 rfl 0 rfl ?_
  refine zL_iload_n dL_398 rfl 3 rfl ?_
  refine zL_iconst (v := (1 : Int32)) dL_399 (by decide) ?_
  refine zL_iadd dL_400 ?_
  refine zL_sld dL_401 hv1 ?_
  obtain ⟨r, m1, n1, hC, hM, hI⟩ := hop n μ ν ((xs (iv + (1 : Int32)).toNatClampNeg)) hPI
  refine zL_cls_iW (rest := []) (fun a A hN => k_X11_open (l := l) hN _ _) hn7 hC dL_402 lvL_37 okL_X11_open rfl (Nat.le_of_ble_eq_true rfl) rfl rfl (Nat.le_of_ble_eq_true rfl) hc0 hs0 ?_
  refine zL_aload_n dL_405 rfl 2 rfl ?_
  refine zL_aload_n dL_406 rfl 0 rfl ?_
  refine zL_iload_n dL_407 rfl 3 rfl ?_
  refine zL_iconst (v := (1 : Int32)) dL_408 (by decide) ?_
  refine zL_iadd dL_409 ?_
  refine zL_sld dL_410 hv1 ?_
  refine zL_mod_iW (rest := [.int r]) (fun A hN => k_X12_open (l := l) hN _ _) hM dL_411 lvL_40 okL_X12_open rfl (Nat.le_of_ble_eq_true rfl) rfl rfl (Nat.le_of_ble_eq_true rfl) hc0 hs0 ?_
  refine zL_eqT (tgt := 1498) dL_414 (by decide) ?_
  exact zL_widen (by omega) (by omega) (K n m1 n1 hI)
theorem zL_case6 (hop : zL_op6 PI) (hrf : zL_refs PI) (hc : cs + 14 ≤ 600000) (hs : sl + 1066 ≤ 7302250) (hv1 : vp_in (iv + 1) L) (hv2 : vp_in (iv + 2) L) (hv3 : vp_in (iv + 3) L) (hv4 : vp_in (iv + 4) L) (hv5 : vp_in (iv + 5) L) (hPI : PI n μ ν) (K : ∀ n' μ' ν', PI n' μ' ν' → zL l E b L xs A1 A2 a2 h1 (cs + 14) (sl + 1066) 1498 [(0, .ref b), (1, .ref h1), (2, .ref (a2 0)), (3, .int iv)] [] n' μ' ν') : zL l E b L xs A1 A2 a2 h1 cs sl 419 [(0, .ref b), (1, .ref h1), (2, .ref (a2 0)), (3, .int iv)] [] n μ ν := by
  have hn7 : 107 ≤ n := by have h := (hrf n μ ν hPI).1; omega
  have hc0 : cs ≤ 600000 := by omega
  have hs0 : sl ≤ 7302250 := by omega
  refine zL_aload_n dL_419 rfl 1 rfl ?_
  refine zL_aload_n dL_420 rfl 0 rfl ?_
  refine zL_iload_n dL_421 rfl 3 rfl ?_
  refine zL_iconst (v := (1 : Int32)) dL_422 (by decide) ?_
  refine zL_iadd dL_423 ?_
  refine zL_sld dL_424 hv1 ?_
  obtain ⟨r, m1, n1, hC, hM, hI⟩ := hop n μ ν ((xs (iv + (1 : Int32)).toNatClampNeg)) hPI
  refine zL_cls_iW (rest := []) (fun a A hN => k_X11_off (l := l) hN _ _) hn7 hC dL_425 lvL_41 okL_X11_off rfl (Nat.le_of_ble_eq_true rfl) rfl rfl (Nat.le_of_ble_eq_true rfl) hc0 hs0 ?_
  refine zL_aload_n dL_428 rfl 2 rfl ?_
  refine zL_aload_n dL_429 rfl 0 rfl ?_
  refine zL_iload_n dL_430 rfl 3 rfl ?_
  refine zL_iconst (v := (1 : Int32)) dL_431 (by decide) ?_
  refine zL_iadd dL_432 ?_
  refine zL_sld dL_433 hv1 ?_
  refine zL_mod_iW (rest := [.int r]) (fun A hN => k_X12_off (l := l) hN _ _) hM dL_434 lvL_44 okL_X12_off rfl (Nat.le_of_ble_eq_true rfl) rfl rfl (Nat.le_of_ble_eq_true rfl) hc0 hs0 ?_
  refine zL_eqT (tgt := 1498) dL_437 (by decide) ?_
  exact zL_widen (by omega) (by omega) (K n m1 n1 hI)
theorem zL_case7 (hop : zL_op7 PI) (hrf : zL_refs PI) (hc : cs + 14 ≤ 600000) (hs : sl + 1066 ≤ 7302250) (hv1 : vp_in (iv + 1) L) (hv2 : vp_in (iv + 2) L) (hv3 : vp_in (iv + 3) L) (hv4 : vp_in (iv + 4) L) (hv5 : vp_in (iv + 5) L) (hPI : PI n μ ν) (K : ∀ n' μ' ν', PI n' μ' ν' → zL l E b L xs A1 A2 a2 h1 (cs + 14) (sl + 1066) 1498 [(0, .ref b), (1, .ref h1), (2, .ref (a2 0)), (3, .int iv)] [] n' μ' ν') : zL l E b L xs A1 A2 a2 h1 cs sl 442 [(0, .ref b), (1, .ref h1), (2, .ref (a2 0)), (3, .int iv)] [] n μ ν := by
  have hn7 : 107 ≤ n := by have h := (hrf n μ ν hPI).1; omega
  have hc0 : cs ≤ 600000 := by omega
  have hs0 : sl ≤ 7302250 := by omega
  refine zL_aload_n dL_442 rfl 1 rfl ?_
  refine zL_aload_n dL_443 rfl 0 rfl ?_
  refine zL_iload_n dL_444 rfl 3 rfl ?_
  refine zL_iconst (v := (1 : Int32)) dL_445 (by decide) ?_
  refine zL_iadd dL_446 ?_
  refine zL_sld dL_447 hv1 ?_
  refine zL_aload_n dL_448 rfl 0 rfl ?_
  refine zL_iload_n dL_449 rfl 3 rfl ?_
  refine zL_iconst (v := (2 : Int32)) dL_450 (by decide) ?_
  refine zL_iadd dL_451 ?_
  refine zL_sld dL_452 hv2 ?_
  obtain ⟨r, m1, n1, hC, hM, hI⟩ := hop n μ ν ((xs (iv + (1 : Int32)).toNatClampNeg)) ((xs (iv + (2 : Int32)).toNatClampNeg)) hPI
  refine zL_cls_iW (rest := []) (fun a A hN => k_X11_opens (l := l) hN _ _ _) hn7 hC dL_453 lvL_45 okL_X11_opens rfl (Nat.le_of_ble_eq_true rfl) rfl rfl (Nat.le_of_ble_eq_true rfl) hc0 hs0 ?_
  refine zL_aload_n dL_456 rfl 2 rfl ?_
  refine zL_aload_n dL_457 rfl 0 rfl ?_
  refine zL_iload_n dL_458 rfl 3 rfl ?_
  refine zL_iconst (v := (1 : Int32)) dL_459 (by decide) ?_
  refine zL_iadd dL_460 ?_
  refine zL_sld dL_461 hv1 ?_
  refine zL_aload_n dL_462 rfl 0 rfl ?_
  refine zL_iload_n dL_463 rfl 3 rfl ?_
  refine zL_iconst (v := (2 : Int32)) dL_464 (by decide) ?_
  refine zL_iadd dL_465 ?_
  refine zL_sld dL_466 hv2 ?_
  refine zL_mod_iW (rest := [.int r]) (fun A hN => k_X12_opens (l := l) hN _ _ _) hM dL_467 lvL_48 okL_X12_opens rfl (Nat.le_of_ble_eq_true rfl) rfl rfl (Nat.le_of_ble_eq_true rfl) hc0 hs0 ?_
  refine zL_eqT (tgt := 1498) dL_470 (by decide) ?_
  exact zL_widen (by omega) (by omega) (K n m1 n1 hI)
theorem zL_case8 (hop : zL_op8 PI) (hrf : zL_refs PI) (hc : cs + 14 ≤ 600000) (hs : sl + 1066 ≤ 7302250) (hv1 : vp_in (iv + 1) L) (hv2 : vp_in (iv + 2) L) (hv3 : vp_in (iv + 3) L) (hv4 : vp_in (iv + 4) L) (hv5 : vp_in (iv + 5) L) (hPI : PI n μ ν) (K : ∀ n' μ' ν', PI n' μ' ν' → zL l E b L xs A1 A2 a2 h1 (cs + 14) (sl + 1066) 1498 [(0, .ref b), (1, .ref h1), (2, .ref (a2 0)), (3, .int iv)] [] n' μ' ν') : zL l E b L xs A1 A2 a2 h1 cs sl 475 [(0, .ref b), (1, .ref h1), (2, .ref (a2 0)), (3, .int iv)] [] n μ ν := by
  have hn7 : 107 ≤ n := by have h := (hrf n μ ν hPI).1; omega
  have hc0 : cs ≤ 600000 := by omega
  have hs0 : sl ≤ 7302250 := by omega
  refine zL_aload_n dL_475 rfl 1 rfl ?_
  refine zL_aload_n dL_476 rfl 0 rfl ?_
  refine zL_iload_n dL_477 rfl 3 rfl ?_
  refine zL_iconst (v := (1 : Int32)) dL_478 (by decide) ?_
  refine zL_iadd dL_479 ?_
  refine zL_sld dL_480 hv1 ?_
  refine zL_aload_n dL_481 rfl 0 rfl ?_
  refine zL_iload_n dL_482 rfl 3 rfl ?_
  refine zL_iconst (v := (2 : Int32)) dL_483 (by decide) ?_
  refine zL_iadd dL_484 ?_
  refine zL_sld dL_485 hv2 ?_
  obtain ⟨r, m1, n1, hC, hM, hI⟩ := hop n μ ν ((xs (iv + (1 : Int32)).toNatClampNeg)) ((xs (iv + (2 : Int32)).toNatClampNeg)) hPI
  refine zL_cls_iW (rest := []) (fun a A hN => k_X11_business (l := l) hN _ _ _) hn7 hC dL_486 lvL_49 okL_X11_business rfl (Nat.le_of_ble_eq_true rfl) rfl rfl (Nat.le_of_ble_eq_true rfl) hc0 hs0 ?_
  refine zL_aload_n dL_489 rfl 2 rfl ?_
  refine zL_aload_n dL_490 rfl 0 rfl ?_
  refine zL_iload_n dL_491 rfl 3 rfl ?_
  refine zL_iconst (v := (1 : Int32)) dL_492 (by decide) ?_
  refine zL_iadd dL_493 ?_
  refine zL_sld dL_494 hv1 ?_
  refine zL_aload_n dL_495 rfl 0 rfl ?_
  refine zL_iload_n dL_496 rfl 3 rfl ?_
  refine zL_iconst (v := (2 : Int32)) dL_497 (by decide) ?_
  refine zL_iadd dL_498 ?_
  refine zL_sld dL_499 hv2 ?_
  refine zL_mod_iW (rest := [.int r]) (fun A hN => k_X12_business (l := l) hN _ _ _) hM dL_500 lvL_52 okL_X12_business rfl (Nat.le_of_ble_eq_true rfl) rfl rfl (Nat.le_of_ble_eq_true rfl) hc0 hs0 ?_
  refine zL_eqT (tgt := 1498) dL_503 (by decide) ?_
  exact zL_widen (by omega) (by omega) (K n m1 n1 hI)
theorem zL_case9 (hop : zL_op9 PI) (hrf : zL_refs PI) (hc : cs + 14 ≤ 600000) (hs : sl + 1066 ≤ 7302250) (hv1 : vp_in (iv + 1) L) (hv2 : vp_in (iv + 2) L) (hv3 : vp_in (iv + 3) L) (hv4 : vp_in (iv + 4) L) (hv5 : vp_in (iv + 5) L) (hPI : PI n μ ν) (K : ∀ n' μ' ν', PI n' μ' ν' → zL l E b L xs A1 A2 a2 h1 (cs + 14) (sl + 1066) 1498 [(0, .ref b), (1, .ref h1), (2, .ref (a2 0)), (3, .int iv)] [] n' μ' ν') : zL l E b L xs A1 A2 a2 h1 cs sl 508 [(0, .ref b), (1, .ref h1), (2, .ref (a2 0)), (3, .int iv)] [] n μ ν := by
  have hn7 : 107 ≤ n := by have h := (hrf n μ ν hPI).1; omega
  have hc0 : cs ≤ 600000 := by omega
  have hs0 : sl ≤ 7302250 := by omega
  refine zL_aload_n dL_508 rfl 1 rfl ?_
  refine zL_aload_n dL_509 rfl 0 rfl ?_
  refine zL_iload_n dL_510 rfl 3 rfl ?_
  refine zL_iconst (v := (1 : Int32)) dL_511 (by decide) ?_
  refine zL_iadd dL_512 ?_
  refine zL_sld dL_513 hv1 ?_
  refine zL_aload_n dL_514 rfl 0 rfl ?_
  refine zL_iload_n dL_515 rfl 3 rfl ?_
  refine zL_iconst (v := (2 : Int32)) dL_516 (by decide) ?_
  refine zL_iadd dL_517 ?_
  refine zL_sld dL_518 hv2 ?_
  obtain ⟨r, n1, hC, hM, hI⟩ := hop n μ ν ((xs (iv + (1 : Int32)).toNatClampNeg)) ((xs (iv + (2 : Int32)).toNatClampNeg)) hPI
  refine zL_cls_iR (rest := []) (fun a A hN => k_X11_period (l := l) hN _ _ _) hn7 hC dL_519 lvL_53 okL_X11_period rfl (Nat.le_of_ble_eq_true rfl) rfl rfl (Nat.le_of_ble_eq_true rfl) hc0 hs0 ?_
  refine zL_aload_n dL_522 rfl 2 rfl ?_
  refine zL_aload_n dL_523 rfl 0 rfl ?_
  refine zL_iload_n dL_524 rfl 3 rfl ?_
  refine zL_iconst (v := (1 : Int32)) dL_525 (by decide) ?_
  refine zL_iadd dL_526 ?_
  refine zL_sld dL_527 hv1 ?_
  refine zL_aload_n dL_528 rfl 0 rfl ?_
  refine zL_iload_n dL_529 rfl 3 rfl ?_
  refine zL_iconst (v := (2 : Int32)) dL_530 (by decide) ?_
  refine zL_iadd dL_531 ?_
  refine zL_sld dL_532 hv2 ?_
  refine zL_mod_iW (rest := [.int r]) (fun A hN => k_X12_period (l := l) hN _ _ _) hM dL_533 lvL_56 okL_X12_period rfl (Nat.le_of_ble_eq_true rfl) rfl rfl (Nat.le_of_ble_eq_true rfl) hc0 hs0 ?_
  refine zL_eqT (tgt := 1498) dL_536 (by decide) ?_
  exact zL_widen (by omega) (by omega) (K n μ n1 hI)
theorem zL_case10 (hop : zL_op10 PI) (hrf : zL_refs PI) (hc : cs + 14 ≤ 600000) (hs : sl + 1066 ≤ 7302250) (hv1 : vp_in (iv + 1) L) (hv2 : vp_in (iv + 2) L) (hv3 : vp_in (iv + 3) L) (hv4 : vp_in (iv + 4) L) (hv5 : vp_in (iv + 5) L) (hPI : PI n μ ν) (K : ∀ n' μ' ν', PI n' μ' ν' → zL l E b L xs A1 A2 a2 h1 (cs + 14) (sl + 1066) 1498 [(0, .ref b), (1, .ref h1), (2, .ref (a2 0)), (3, .int iv)] [] n' μ' ν') : zL l E b L xs A1 A2 a2 h1 cs sl 541 [(0, .ref b), (1, .ref h1), (2, .ref (a2 0)), (3, .int iv)] [] n μ ν := by
  have hn7 : 107 ≤ n := by have h := (hrf n μ ν hPI).1; omega
  have hc0 : cs ≤ 600000 := by omega
  have hs0 : sl ≤ 7302250 := by omega
  refine zL_aload_n dL_541 rfl 1 rfl ?_
  refine zL_aload_n dL_542 rfl 0 rfl ?_
  refine zL_iload_n dL_543 rfl 3 rfl ?_
  refine zL_iconst (v := (1 : Int32)) dL_544 (by decide) ?_
  refine zL_iadd dL_545 ?_
  refine zL_sld dL_546 hv1 ?_
  refine zL_aload_n dL_547 rfl 0 rfl ?_
  refine zL_iload_n dL_548 rfl 3 rfl ?_
  refine zL_iconst (v := (2 : Int32)) dL_549 (by decide) ?_
  refine zL_iadd dL_550 ?_
  refine zL_sld dL_551 hv2 ?_
  obtain ⟨r, m1, n1, hC, hM, hI⟩ := hop n μ ν ((xs (iv + (1 : Int32)).toNatClampNeg)) ((xs (iv + (2 : Int32)).toNatClampNeg)) hPI
  refine zL_cls_iW (rest := []) (fun a A hN => k_X11_bump (l := l) hN _ _ _) hn7 hC dL_552 lvL_57 okL_X11_bump rfl (Nat.le_of_ble_eq_true rfl) rfl rfl (Nat.le_of_ble_eq_true rfl) hc0 hs0 ?_
  refine zL_aload_n dL_555 rfl 2 rfl ?_
  refine zL_aload_n dL_556 rfl 0 rfl ?_
  refine zL_iload_n dL_557 rfl 3 rfl ?_
  refine zL_iconst (v := (1 : Int32)) dL_558 (by decide) ?_
  refine zL_iadd dL_559 ?_
  refine zL_sld dL_560 hv1 ?_
  refine zL_aload_n dL_561 rfl 0 rfl ?_
  refine zL_iload_n dL_562 rfl 3 rfl ?_
  refine zL_iconst (v := (2 : Int32)) dL_563 (by decide) ?_
  refine zL_iadd dL_564 ?_
  refine zL_sld dL_565 hv2 ?_
  refine zL_mod_iW (rest := [.int r]) (fun A hN => k_X12_bump (l := l) hN _ _ _) hM dL_566 lvL_60 okL_X12_bump rfl (Nat.le_of_ble_eq_true rfl) rfl rfl (Nat.le_of_ble_eq_true rfl) hc0 hs0 ?_
  refine zL_eqT (tgt := 1498) dL_569 (by decide) ?_
  exact zL_widen (by omega) (by omega) (K n m1 n1 hI)
theorem zL_case11 (hop : zL_op11 PI) (hrf : zL_refs PI) (hc : cs + 14 ≤ 600000) (hs : sl + 1066 ≤ 7302250) (hv1 : vp_in (iv + 1) L) (hv2 : vp_in (iv + 2) L) (hv3 : vp_in (iv + 3) L) (hv4 : vp_in (iv + 4) L) (hv5 : vp_in (iv + 5) L) (hPI : PI n μ ν) (K : ∀ n' μ' ν', PI n' μ' ν' → zL l E b L xs A1 A2 a2 h1 (cs + 14) (sl + 1066) 1498 [(0, .ref b), (1, .ref h1), (2, .ref (a2 0)), (3, .int iv)] [] n' μ' ν') : zL l E b L xs A1 A2 a2 h1 cs sl 574 [(0, .ref b), (1, .ref h1), (2, .ref (a2 0)), (3, .int iv)] [] n μ ν := by
  have hn7 : 107 ≤ n := by have h := (hrf n μ ν hPI).1; omega
  have hc0 : cs ≤ 600000 := by omega
  have hs0 : sl ≤ 7302250 := by omega
  refine zL_aload_n dL_574 rfl 1 rfl ?_
  refine zL_aload_n dL_575 rfl 0 rfl ?_
  refine zL_iload_n dL_576 rfl 3 rfl ?_
  refine zL_iconst (v := (1 : Int32)) dL_577 (by decide) ?_
  refine zL_iadd dL_578 ?_
  refine zL_sld dL_579 hv1 ?_
  obtain ⟨r, m1, n1, hC, hM, hI⟩ := hop n μ ν ((xs (iv + (1 : Int32)).toNatClampNeg)) hPI
  refine zL_cls_iW (rest := []) (fun a A hN => k_X11_shift (l := l) hN _ _) hn7 hC dL_580 lvL_61 okL_X11_shift rfl (Nat.le_of_ble_eq_true rfl) rfl rfl (Nat.le_of_ble_eq_true rfl) hc0 hs0 ?_
  refine zL_aload_n dL_583 rfl 2 rfl ?_
  refine zL_aload_n dL_584 rfl 0 rfl ?_
  refine zL_iload_n dL_585 rfl 3 rfl ?_
  refine zL_iconst (v := (1 : Int32)) dL_586 (by decide) ?_
  refine zL_iadd dL_587 ?_
  refine zL_sld dL_588 hv1 ?_
  refine zL_mod_iW (rest := [.int r]) (fun A hN => k_X12_shift (l := l) hN _ _) hM dL_589 lvL_64 okL_X12_shift rfl (Nat.le_of_ble_eq_true rfl) rfl rfl (Nat.le_of_ble_eq_true rfl) hc0 hs0 ?_
  refine zL_eqT (tgt := 1498) dL_592 (by decide) ?_
  exact zL_widen (by omega) (by omega) (K n m1 n1 hI)
theorem zL_case12 (hop : zL_op12 PI) (hrf : zL_refs PI) (hc : cs + 14 ≤ 600000) (hs : sl + 1066 ≤ 7302250) (hv1 : vp_in (iv + 1) L) (hv2 : vp_in (iv + 2) L) (hv3 : vp_in (iv + 3) L) (hv4 : vp_in (iv + 4) L) (hv5 : vp_in (iv + 5) L) (hPI : PI n μ ν) (K : ∀ n' μ' ν', PI n' μ' ν' → zL l E b L xs A1 A2 a2 h1 (cs + 14) (sl + 1066) 1498 [(0, .ref b), (1, .ref h1), (2, .ref (a2 0)), (3, .int iv)] [] n' μ' ν') : zL l E b L xs A1 A2 a2 h1 cs sl 597 [(0, .ref b), (1, .ref h1), (2, .ref (a2 0)), (3, .int iv)] [] n μ ν := by
  have hn7 : 107 ≤ n := by have h := (hrf n μ ν hPI).1; omega
  have hc0 : cs ≤ 600000 := by omega
  have hs0 : sl ≤ 7302250 := by omega
  refine zL_aload_n dL_597 rfl 1 rfl ?_
  refine zL_aload_n dL_598 rfl 0 rfl ?_
  refine zL_iload_n dL_599 rfl 3 rfl ?_
  refine zL_iconst (v := (1 : Int32)) dL_600 (by decide) ?_
  refine zL_iadd dL_601 ?_
  refine zL_sld dL_602 hv1 ?_
  refine zL_aload_n dL_603 rfl 0 rfl ?_
  refine zL_iload_n dL_604 rfl 3 rfl ?_
  refine zL_iconst (v := (2 : Int32)) dL_605 (by decide) ?_
  refine zL_iadd dL_606 ?_
  refine zL_sld dL_607 hv2 ?_
  obtain ⟨r, m1, n1, hC, hM, hI⟩ := hop n μ ν ((xs (iv + (1 : Int32)).toNatClampNeg)) ((xs (iv + (2 : Int32)).toNatClampNeg)) hPI
  refine zL_cls_iW (rest := []) (fun a A hN => k_X11_amount (l := l) hN _ _ _) hn7 hC dL_608 lvL_65 okL_X11_amount rfl (Nat.le_of_ble_eq_true rfl) rfl rfl (Nat.le_of_ble_eq_true rfl) hc0 hs0 ?_
  refine zL_aload_n dL_611 rfl 2 rfl ?_
  refine zL_aload_n dL_612 rfl 0 rfl ?_
  refine zL_iload_n dL_613 rfl 3 rfl ?_
  refine zL_iconst (v := (1 : Int32)) dL_614 (by decide) ?_
  refine zL_iadd dL_615 ?_
  refine zL_sld dL_616 hv1 ?_
  refine zL_aload_n dL_617 rfl 0 rfl ?_
  refine zL_iload_n dL_618 rfl 3 rfl ?_
  refine zL_iconst (v := (2 : Int32)) dL_619 (by decide) ?_
  refine zL_iadd dL_620 ?_
  refine zL_sld dL_621 hv2 ?_
  refine zL_mod_iW (rest := [.int r]) (fun A hN => k_X12_amount (l := l) hN _ _ _) hM dL_622 lvL_68 okL_X12_amount rfl (Nat.le_of_ble_eq_true rfl) rfl rfl (Nat.le_of_ble_eq_true rfl) hc0 hs0 ?_
  refine zL_eqT (tgt := 1498) dL_625 (by decide) ?_
  exact zL_widen (by omega) (by omega) (K n m1 n1 hI)
theorem zL_case13 (hop : zL_op13 PI) (hrf : zL_refs PI) (hc : cs + 14 ≤ 600000) (hs : sl + 1066 ≤ 7302250) (hv1 : vp_in (iv + 1) L) (hv2 : vp_in (iv + 2) L) (hv3 : vp_in (iv + 3) L) (hv4 : vp_in (iv + 4) L) (hv5 : vp_in (iv + 5) L) (hPI : PI n μ ν) (K : ∀ n' μ' ν', PI n' μ' ν' → zL l E b L xs A1 A2 a2 h1 (cs + 14) (sl + 1066) 1498 [(0, .ref b), (1, .ref h1), (2, .ref (a2 0)), (3, .int iv)] [] n' μ' ν') : zL l E b L xs A1 A2 a2 h1 cs sl 630 [(0, .ref b), (1, .ref h1), (2, .ref (a2 0)), (3, .int iv)] [] n μ ν := by
  have hn7 : 107 ≤ n := by have h := (hrf n μ ν hPI).1; omega
  have hc0 : cs ≤ 600000 := by omega
  have hs0 : sl ≤ 7302250 := by omega
  refine zL_aload_n dL_630 rfl 1 rfl ?_
  refine zL_aload_n dL_631 rfl 0 rfl ?_
  refine zL_iload_n dL_632 rfl 3 rfl ?_
  refine zL_iconst (v := (1 : Int32)) dL_633 (by decide) ?_
  refine zL_iadd dL_634 ?_
  refine zL_sld dL_635 hv1 ?_
  obtain ⟨r, m1, n1, hC, hM, hI⟩ := hop n μ ν ((xs (iv + (1 : Int32)).toNatClampNeg)) hPI
  refine zL_cls_iW (rest := []) (fun a A hN => k_X11_undo (l := l) hN _ _) hn7 hC dL_636 lvL_69 okL_X11_undo rfl (Nat.le_of_ble_eq_true rfl) rfl rfl (Nat.le_of_ble_eq_true rfl) hc0 hs0 ?_
  refine zL_aload_n dL_639 rfl 2 rfl ?_
  refine zL_aload_n dL_640 rfl 0 rfl ?_
  refine zL_iload_n dL_641 rfl 3 rfl ?_
  refine zL_iconst (v := (1 : Int32)) dL_642 (by decide) ?_
  refine zL_iadd dL_643 ?_
  refine zL_sld dL_644 hv1 ?_
  refine zL_mod_iW (rest := [.int r]) (fun A hN => k_X12_undo (l := l) hN _ _) hM dL_645 lvL_72 okL_X12_undo rfl (Nat.le_of_ble_eq_true rfl) rfl rfl (Nat.le_of_ble_eq_true rfl) hc0 hs0 ?_
  refine zL_eqT (tgt := 1498) dL_648 (by decide) ?_
  exact zL_widen (by omega) (by omega) (K n m1 n1 hI)
theorem zL_case14 (hop : zL_op14 PI) (hrf : zL_refs PI) (hc : cs + 14 ≤ 600000) (hs : sl + 1066 ≤ 7302250) (hv1 : vp_in (iv + 1) L) (hv2 : vp_in (iv + 2) L) (hv3 : vp_in (iv + 3) L) (hv4 : vp_in (iv + 4) L) (hv5 : vp_in (iv + 5) L) (hPI : PI n μ ν) (K : ∀ n' μ' ν', PI n' μ' ν' → zL l E b L xs A1 A2 a2 h1 (cs + 14) (sl + 1066) 1498 [(0, .ref b), (1, .ref h1), (2, .ref (a2 0)), (3, .int iv)] [] n' μ' ν') : zL l E b L xs A1 A2 a2 h1 cs sl 653 [(0, .ref b), (1, .ref h1), (2, .ref (a2 0)), (3, .int iv)] [] n μ ν := by
  have hn7 : 107 ≤ n := by have h := (hrf n μ ν hPI).1; omega
  have hc0 : cs ≤ 600000 := by omega
  have hs0 : sl ≤ 7302250 := by omega
  refine zL_aload_n dL_653 rfl 1 rfl ?_
  refine zL_aload_n dL_654 rfl 0 rfl ?_
  refine zL_iload_n dL_655 rfl 3 rfl ?_
  refine zL_iconst (v := (1 : Int32)) dL_656 (by decide) ?_
  refine zL_iadd dL_657 ?_
  refine zL_sld dL_658 hv1 ?_
  refine zL_aload_n dL_659 rfl 0 rfl ?_
  refine zL_iload_n dL_660 rfl 3 rfl ?_
  refine zL_iconst (v := (2 : Int32)) dL_661 (by decide) ?_
  refine zL_iadd dL_662 ?_
  refine zL_sld dL_663 hv2 ?_
  obtain ⟨r, m1, n1, hC, hM, hI⟩ := hop n μ ν ((xs (iv + (1 : Int32)).toNatClampNeg)) ((xs (iv + (2 : Int32)).toNatClampNeg)) hPI
  refine zL_cls_iW (rest := []) (fun a A hN => k_X11_judge (l := l) hN _ _ _) hn7 hC dL_664 lvL_73 okL_X11_judge rfl (Nat.le_of_ble_eq_true rfl) rfl rfl (Nat.le_of_ble_eq_true rfl) hc0 hs0 ?_
  refine zL_aload_n dL_667 rfl 2 rfl ?_
  refine zL_aload_n dL_668 rfl 0 rfl ?_
  refine zL_iload_n dL_669 rfl 3 rfl ?_
  refine zL_iconst (v := (1 : Int32)) dL_670 (by decide) ?_
  refine zL_iadd dL_671 ?_
  refine zL_sld dL_672 hv1 ?_
  refine zL_aload_n dL_673 rfl 0 rfl ?_
  refine zL_iload_n dL_674 rfl 3 rfl ?_
  refine zL_iconst (v := (2 : Int32)) dL_675 (by decide) ?_
  refine zL_iadd dL_676 ?_
  refine zL_sld dL_677 hv2 ?_
  refine zL_mod_iW (rest := [.int r]) (fun A hN => k_X12_judge (l := l) hN _ _ _) hM dL_678 lvL_76 okL_X12_judge rfl (Nat.le_of_ble_eq_true rfl) rfl rfl (Nat.le_of_ble_eq_true rfl) hc0 hs0 ?_
  refine zL_eqT (tgt := 1498) dL_681 (by decide) ?_
  exact zL_widen (by omega) (by omega) (K n m1 n1 hI)
theorem zL_case15 (hop : zL_op15 PI) (hrf : zL_refs PI) (hc : cs + 14 ≤ 600000) (hs : sl + 1066 ≤ 7302250) (hv1 : vp_in (iv + 1) L) (hv2 : vp_in (iv + 2) L) (hv3 : vp_in (iv + 3) L) (hv4 : vp_in (iv + 4) L) (hv5 : vp_in (iv + 5) L) (hPI : PI n μ ν) (K : ∀ n' μ' ν', PI n' μ' ν' → zL l E b L xs A1 A2 a2 h1 (cs + 14) (sl + 1066) 1498 [(0, .ref b), (1, .ref h1), (2, .ref (a2 0)), (3, .int iv)] [] n' μ' ν') : zL l E b L xs A1 A2 a2 h1 cs sl 686 [(0, .ref b), (1, .ref h1), (2, .ref (a2 0)), (3, .int iv)] [] n μ ν := by
  have hn7 : 107 ≤ n := by have h := (hrf n μ ν hPI).1; omega
  have hc0 : cs ≤ 600000 := by omega
  have hs0 : sl ≤ 7302250 := by omega
  refine zL_aload_n dL_686 rfl 1 rfl ?_
  refine zL_aload_n dL_687 rfl 0 rfl ?_
  refine zL_iload_n dL_688 rfl 3 rfl ?_
  refine zL_iconst (v := (1 : Int32)) dL_689 (by decide) ?_
  refine zL_iadd dL_690 ?_
  refine zL_sld dL_691 hv1 ?_
  obtain ⟨r, m1, n1, hC, hM, hI⟩ := hop n μ ν ((xs (iv + (1 : Int32)).toNatClampNeg)) hPI
  refine zL_cls_iW (rest := []) (fun a A hN => k_X11_perform (l := l) hN _ _) hn7 hC dL_692 lvL_77 okL_X11_perform rfl (Nat.le_of_ble_eq_true rfl) rfl rfl (Nat.le_of_ble_eq_true rfl) hc0 hs0 ?_
  refine zL_aload_n dL_695 rfl 2 rfl ?_
  refine zL_aload_n dL_696 rfl 0 rfl ?_
  refine zL_iload_n dL_697 rfl 3 rfl ?_
  refine zL_iconst (v := (1 : Int32)) dL_698 (by decide) ?_
  refine zL_iadd dL_699 ?_
  refine zL_sld dL_700 hv1 ?_
  refine zL_mod_iW (rest := [.int r]) (fun A hN => k_X12_perform (l := l) hN _ _) hM dL_701 lvL_80 okL_X12_perform rfl (Nat.le_of_ble_eq_true rfl) rfl rfl (Nat.le_of_ble_eq_true rfl) hc0 hs0 ?_
  refine zL_eqT (tgt := 1498) dL_704 (by decide) ?_
  exact zL_widen (by omega) (by omega) (K n m1 n1 hI)
theorem zL_case16 (hop : zL_op16 PI) (hrf : zL_refs PI) (hc : cs + 14 ≤ 600000) (hs : sl + 1066 ≤ 7302250) (hv1 : vp_in (iv + 1) L) (hv2 : vp_in (iv + 2) L) (hv3 : vp_in (iv + 3) L) (hv4 : vp_in (iv + 4) L) (hv5 : vp_in (iv + 5) L) (hPI : PI n μ ν) (K : ∀ n' μ' ν', PI n' μ' ν' → zL l E b L xs A1 A2 a2 h1 (cs + 14) (sl + 1066) 1498 [(0, .ref b), (1, .ref h1), (2, .ref (a2 0)), (3, .int iv)] [] n' μ' ν') : zL l E b L xs A1 A2 a2 h1 cs sl 709 [(0, .ref b), (1, .ref h1), (2, .ref (a2 0)), (3, .int iv)] [] n μ ν := by
  have hn7 : 107 ≤ n := by have h := (hrf n μ ν hPI).1; omega
  have hc0 : cs ≤ 600000 := by omega
  have hs0 : sl ≤ 7302250 := by omega
  refine zL_aload_n dL_709 rfl 1 rfl ?_
  refine zL_aload_n dL_710 rfl 0 rfl ?_
  refine zL_iload_n dL_711 rfl 3 rfl ?_
  refine zL_iconst (v := (1 : Int32)) dL_712 (by decide) ?_
  refine zL_iadd dL_713 ?_
  refine zL_sld dL_714 hv1 ?_
  refine zL_aload_n dL_715 rfl 0 rfl ?_
  refine zL_iload_n dL_716 rfl 3 rfl ?_
  refine zL_iconst (v := (2 : Int32)) dL_717 (by decide) ?_
  refine zL_iadd dL_718 ?_
  refine zL_sld dL_719 hv2 ?_
  obtain ⟨r, m1, n1, hC, hM, hI⟩ := hop n μ ν ((xs (iv + (1 : Int32)).toNatClampNeg)) ((xs (iv + (2 : Int32)).toNatClampNeg)) hPI
  refine zL_cls_iW (rest := []) (fun a A hN => k_X11_week (l := l) hN _ _ _) hn7 hC dL_720 lvL_81 okL_X11_week rfl (Nat.le_of_ble_eq_true rfl) rfl rfl (Nat.le_of_ble_eq_true rfl) hc0 hs0 ?_
  refine zL_aload_n dL_723 rfl 2 rfl ?_
  refine zL_aload_n dL_724 rfl 0 rfl ?_
  refine zL_iload_n dL_725 rfl 3 rfl ?_
  refine zL_iconst (v := (1 : Int32)) dL_726 (by decide) ?_
  refine zL_iadd dL_727 ?_
  refine zL_sld dL_728 hv1 ?_
  refine zL_aload_n dL_729 rfl 0 rfl ?_
  refine zL_iload_n dL_730 rfl 3 rfl ?_
  refine zL_iconst (v := (2 : Int32)) dL_731 (by decide) ?_
  refine zL_iadd dL_732 ?_
  refine zL_sld dL_733 hv2 ?_
  refine zL_mod_iW (rest := [.int r]) (fun A hN => k_X12_week (l := l) hN _ _ _) hM dL_734 lvL_84 okL_X12_week rfl (Nat.le_of_ble_eq_true rfl) rfl rfl (Nat.le_of_ble_eq_true rfl) hc0 hs0 ?_
  refine zL_eqT (tgt := 1498) dL_737 (by decide) ?_
  exact zL_widen (by omega) (by omega) (K n m1 n1 hI)
theorem zL_case17 (hop : zL_op17 PI) (hrf : zL_refs PI) (hc : cs + 14 ≤ 600000) (hs : sl + 1066 ≤ 7302250) (hv1 : vp_in (iv + 1) L) (hv2 : vp_in (iv + 2) L) (hv3 : vp_in (iv + 3) L) (hv4 : vp_in (iv + 4) L) (hv5 : vp_in (iv + 5) L) (hPI : PI n μ ν) (K : ∀ n' μ' ν', PI n' μ' ν' → zL l E b L xs A1 A2 a2 h1 (cs + 14) (sl + 1066) 1498 [(0, .ref b), (1, .ref h1), (2, .ref (a2 0)), (3, .int iv)] [] n' μ' ν') : zL l E b L xs A1 A2 a2 h1 cs sl 742 [(0, .ref b), (1, .ref h1), (2, .ref (a2 0)), (3, .int iv)] [] n μ ν := by
  have hn7 : 107 ≤ n := by have h := (hrf n μ ν hPI).1; omega
  have hc0 : cs ≤ 600000 := by omega
  have hs0 : sl ≤ 7302250 := by omega
  refine zL_aload_n dL_742 rfl 1 rfl ?_
  obtain ⟨r, n1, hC, hM, hI⟩ := hop n μ ν hPI
  refine zL_cls_iR (rest := []) (fun a A hN => k_X11_pillars (l := l) hN  _) hn7 hC dL_743 lvL_85 okL_X11_pillars rfl (Nat.le_of_ble_eq_true rfl) rfl rfl (Nat.le_of_ble_eq_true rfl) hc0 hs0 ?_
  refine zL_aload_n dL_746 rfl 2 rfl ?_
  refine zL_mod_iW (rest := [.int r]) (fun A hN => k_X12_pillars (l := l) hN  _) hM dL_747 lvL_89 okL_X12_pillars rfl (Nat.le_of_ble_eq_true rfl) rfl rfl (Nat.le_of_ble_eq_true rfl) hc0 hs0 ?_
  refine zL_eqT (tgt := 1498) dL_750 (by decide) ?_
  exact zL_widen (by omega) (by omega) (K n μ n1 hI)
theorem zL_case18 (hop : zL_op18 PI) (hrf : zL_refs PI) (hc : cs + 14 ≤ 600000) (hs : sl + 1066 ≤ 7302250) (hv1 : vp_in (iv + 1) L) (hv2 : vp_in (iv + 2) L) (hv3 : vp_in (iv + 3) L) (hv4 : vp_in (iv + 4) L) (hv5 : vp_in (iv + 5) L) (hPI : PI n μ ν) (K : ∀ n' μ' ν', PI n' μ' ν' → zL l E b L xs A1 A2 a2 h1 (cs + 14) (sl + 1066) 1498 [(0, .ref b), (1, .ref h1), (2, .ref (a2 0)), (3, .int iv)] [] n' μ' ν') : zL l E b L xs A1 A2 a2 h1 cs sl 755 [(0, .ref b), (1, .ref h1), (2, .ref (a2 0)), (3, .int iv)] [] n μ ν := by
  have hn7 : 107 ≤ n := by have h := (hrf n μ ν hPI).1; omega
  have hc0 : cs ≤ 600000 := by omega
  have hs0 : sl ≤ 7302250 := by omega
  refine zL_aload_n dL_755 rfl 1 rfl ?_
  refine zL_aload_n dL_756 rfl 0 rfl ?_
  refine zL_iload_n dL_757 rfl 3 rfl ?_
  refine zL_iconst (v := (1 : Int32)) dL_758 (by decide) ?_
  refine zL_iadd dL_759 ?_
  refine zL_sld dL_760 hv1 ?_
  refine zL_aload_n dL_761 rfl 0 rfl ?_
  refine zL_iload_n dL_762 rfl 3 rfl ?_
  refine zL_iconst (v := (2 : Int32)) dL_763 (by decide) ?_
  refine zL_iadd dL_764 ?_
  refine zL_sld dL_765 hv2 ?_
  obtain ⟨r, m1, n1, hC, hM, hI⟩ := hop n μ ν ((xs (iv + (1 : Int32)).toNatClampNeg)) ((xs (iv + (2 : Int32)).toNatClampNeg)) hPI
  refine zL_cls_iW (rest := []) (fun a A hN => k_X11_pillar (l := l) hN _ _ _) hn7 hC dL_766 lvL_90 okL_X11_pillar rfl (Nat.le_of_ble_eq_true rfl) rfl rfl (Nat.le_of_ble_eq_true rfl) hc0 hs0 ?_
  refine zL_aload_n dL_769 rfl 2 rfl ?_
  refine zL_aload_n dL_770 rfl 0 rfl ?_
  refine zL_iload_n dL_771 rfl 3 rfl ?_
  refine zL_iconst (v := (1 : Int32)) dL_772 (by decide) ?_
  refine zL_iadd dL_773 ?_
  refine zL_sld dL_774 hv1 ?_
  refine zL_aload_n dL_775 rfl 0 rfl ?_
  refine zL_iload_n dL_776 rfl 3 rfl ?_
  refine zL_iconst (v := (2 : Int32)) dL_777 (by decide) ?_
  refine zL_iadd dL_778 ?_
  refine zL_sld dL_779 hv2 ?_
  refine zL_mod_iW (rest := [.int r]) (fun A hN => k_X12_pillar (l := l) hN _ _ _) hM dL_780 lvL_93 okL_X12_pillar rfl (Nat.le_of_ble_eq_true rfl) rfl rfl (Nat.le_of_ble_eq_true rfl) hc0 hs0 ?_
  refine zL_eqT (tgt := 1498) dL_783 (by decide) ?_
  exact zL_widen (by omega) (by omega) (K n m1 n1 hI)
theorem zL_case19 (hop : zL_op19 PI) (hrf : zL_refs PI) (hc : cs + 14 ≤ 600000) (hs : sl + 1066 ≤ 7302250) (hv1 : vp_in (iv + 1) L) (hv2 : vp_in (iv + 2) L) (hv3 : vp_in (iv + 3) L) (hv4 : vp_in (iv + 4) L) (hv5 : vp_in (iv + 5) L) (hPI : PI n μ ν) (K : ∀ n' μ' ν', PI n' μ' ν' → zL l E b L xs A1 A2 a2 h1 (cs + 14) (sl + 1066) 1498 [(0, .ref b), (1, .ref h1), (2, .ref (a2 0)), (3, .int iv)] [] n' μ' ν') : zL l E b L xs A1 A2 a2 h1 cs sl 788 [(0, .ref b), (1, .ref h1), (2, .ref (a2 0)), (3, .int iv)] [] n μ ν := by
  have hn7 : 107 ≤ n := by have h := (hrf n μ ν hPI).1; omega
  have hc0 : cs ≤ 600000 := by omega
  have hs0 : sl ≤ 7302250 := by omega
  refine zL_aload_n dL_788 rfl 1 rfl ?_
  refine zL_aload_n dL_789 rfl 0 rfl ?_
  refine zL_iload_n dL_790 rfl 3 rfl ?_
  refine zL_iconst (v := (1 : Int32)) dL_791 (by decide) ?_
  refine zL_iadd dL_792 ?_
  refine zL_sld dL_793 hv1 ?_
  obtain ⟨r, m1, n1, hC, hM, hI⟩ := hop n μ ν ((xs (iv + (1 : Int32)).toNatClampNeg)) hPI
  refine zL_cls_iW (rest := []) (fun a A hN => k_X11_factor (l := l) hN _ _) hn7 hC dL_794 lvL_94 okL_X11_factor rfl (Nat.le_of_ble_eq_true rfl) rfl rfl (Nat.le_of_ble_eq_true rfl) hc0 hs0 ?_
  refine zL_aload_n dL_797 rfl 2 rfl ?_
  refine zL_aload_n dL_798 rfl 0 rfl ?_
  refine zL_iload_n dL_799 rfl 3 rfl ?_
  refine zL_iconst (v := (1 : Int32)) dL_800 (by decide) ?_
  refine zL_iadd dL_801 ?_
  refine zL_sld dL_802 hv1 ?_
  refine zL_mod_iW (rest := [.int r]) (fun A hN => k_X12_factor (l := l) hN _ _) hM dL_803 lvL_97 okL_X12_factor rfl (Nat.le_of_ble_eq_true rfl) rfl rfl (Nat.le_of_ble_eq_true rfl) hc0 hs0 ?_
  refine zL_eqT (tgt := 1498) dL_806 (by decide) ?_
  exact zL_widen (by omega) (by omega) (K n m1 n1 hI)
theorem zL_case20 (hop : zL_op20 PI) (hrf : zL_refs PI) (hc : cs + 14 ≤ 600000) (hs : sl + 1066 ≤ 7302250) (hv1 : vp_in (iv + 1) L) (hv2 : vp_in (iv + 2) L) (hv3 : vp_in (iv + 3) L) (hv4 : vp_in (iv + 4) L) (hv5 : vp_in (iv + 5) L) (hPI : PI n μ ν) (K : ∀ n' μ' ν', PI n' μ' ν' → zL l E b L xs A1 A2 a2 h1 (cs + 14) (sl + 1066) 1498 [(0, .ref b), (1, .ref h1), (2, .ref (a2 0)), (3, .int iv)] [] n' μ' ν') : zL l E b L xs A1 A2 a2 h1 cs sl 811 [(0, .ref b), (1, .ref h1), (2, .ref (a2 0)), (3, .int iv)] [] n μ ν := by
  have hn7 : 107 ≤ n := by have h := (hrf n μ ν hPI).1; omega
  have hc0 : cs ≤ 600000 := by omega
  have hs0 : sl ≤ 7302250 := by omega
  refine zL_aload_n dL_811 rfl 1 rfl ?_
  refine zL_aload_n dL_812 rfl 0 rfl ?_
  refine zL_iload_n dL_813 rfl 3 rfl ?_
  refine zL_iconst (v := (1 : Int32)) dL_814 (by decide) ?_
  refine zL_iadd dL_815 ?_
  refine zL_sld dL_816 hv1 ?_
  refine zL_aload_n dL_817 rfl 0 rfl ?_
  refine zL_iload_n dL_818 rfl 3 rfl ?_
  refine zL_iconst (v := (2 : Int32)) dL_819 (by decide) ?_
  refine zL_iadd dL_820 ?_
  refine zL_sld dL_821 hv2 ?_
  obtain ⟨r, m1, n1, hC, hM, hI⟩ := hop n μ ν ((xs (iv + (1 : Int32)).toNatClampNeg)) ((xs (iv + (2 : Int32)).toNatClampNeg)) hPI
  refine zL_cls_iW (rest := []) (fun a A hN => k_X11_forward (l := l) hN _ _ _) hn7 hC dL_822 lvL_98 okL_X11_forward rfl (Nat.le_of_ble_eq_true rfl) rfl rfl (Nat.le_of_ble_eq_true rfl) hc0 hs0 ?_
  refine zL_aload_n dL_825 rfl 2 rfl ?_
  refine zL_aload_n dL_826 rfl 0 rfl ?_
  refine zL_iload_n dL_827 rfl 3 rfl ?_
  refine zL_iconst (v := (1 : Int32)) dL_828 (by decide) ?_
  refine zL_iadd dL_829 ?_
  refine zL_sld dL_830 hv1 ?_
  refine zL_aload_n dL_831 rfl 0 rfl ?_
  refine zL_iload_n dL_832 rfl 3 rfl ?_
  refine zL_iconst (v := (2 : Int32)) dL_833 (by decide) ?_
  refine zL_iadd dL_834 ?_
  refine zL_sld dL_835 hv2 ?_
  refine zL_mod_iW (rest := [.int r]) (fun A hN => k_X12_forward (l := l) hN _ _ _) hM dL_836 lvL_101 okL_X12_forward rfl (Nat.le_of_ble_eq_true rfl) rfl rfl (Nat.le_of_ble_eq_true rfl) hc0 hs0 ?_
  refine zL_eqT (tgt := 1498) dL_839 (by decide) ?_
  exact zL_widen (by omega) (by omega) (K n m1 n1 hI)
theorem zL_case21 (hop : zL_op21 PI) (hrf : zL_refs PI) (hc : cs + 14 ≤ 600000) (hs : sl + 1066 ≤ 7302250) (hv1 : vp_in (iv + 1) L) (hv2 : vp_in (iv + 2) L) (hv3 : vp_in (iv + 3) L) (hv4 : vp_in (iv + 4) L) (hv5 : vp_in (iv + 5) L) (hPI : PI n μ ν) (K : ∀ n' μ' ν', PI n' μ' ν' → zL l E b L xs A1 A2 a2 h1 (cs + 14) (sl + 1066) 1498 [(0, .ref b), (1, .ref h1), (2, .ref (a2 0)), (3, .int iv)] [] n' μ' ν') : zL l E b L xs A1 A2 a2 h1 cs sl 844 [(0, .ref b), (1, .ref h1), (2, .ref (a2 0)), (3, .int iv)] [] n μ ν := by
  have hn7 : 107 ≤ n := by have h := (hrf n μ ν hPI).1; omega
  have hc0 : cs ≤ 600000 := by omega
  have hs0 : sl ≤ 7302250 := by omega
  refine zL_aload_n dL_844 rfl 1 rfl ?_
  refine zL_aload_n dL_845 rfl 0 rfl ?_
  refine zL_iload_n dL_846 rfl 3 rfl ?_
  refine zL_iconst (v := (1 : Int32)) dL_847 (by decide) ?_
  refine zL_iadd dL_848 ?_
  refine zL_sld dL_849 hv1 ?_
  obtain ⟨r, m1, n1, hC, hM, hI⟩ := hop n μ ν ((xs (iv + (1 : Int32)).toNatClampNeg)) hPI
  refine zL_cls_iW (rest := []) (fun a A hN => k_X11_implied (l := l) hN _ _) hn7 hC dL_850 lvL_102 okL_X11_implied rfl (Nat.le_of_ble_eq_true rfl) rfl rfl (Nat.le_of_ble_eq_true rfl) hc0 hs0 ?_
  refine zL_aload_n dL_853 rfl 2 rfl ?_
  refine zL_aload_n dL_854 rfl 0 rfl ?_
  refine zL_iload_n dL_855 rfl 3 rfl ?_
  refine zL_iconst (v := (1 : Int32)) dL_856 (by decide) ?_
  refine zL_iadd dL_857 ?_
  refine zL_sld dL_858 hv1 ?_
  refine zL_mod_iW (rest := [.int r]) (fun A hN => k_X12_implied (l := l) hN _ _) hM dL_859 lvL_105 okL_X12_implied rfl (Nat.le_of_ble_eq_true rfl) rfl rfl (Nat.le_of_ble_eq_true rfl) hc0 hs0 ?_
  refine zL_eqT (tgt := 1498) dL_862 (by decide) ?_
  exact zL_widen (by omega) (by omega) (K n m1 n1 hI)
theorem zL_case22 (hop : zL_op22 PI) (hrf : zL_refs PI) (hc : cs + 14 ≤ 600000) (hs : sl + 1066 ≤ 7302250) (hv1 : vp_in (iv + 1) L) (hv2 : vp_in (iv + 2) L) (hv3 : vp_in (iv + 3) L) (hv4 : vp_in (iv + 4) L) (hv5 : vp_in (iv + 5) L) (hPI : PI n μ ν) (K : ∀ n' μ' ν', PI n' μ' ν' → zL l E b L xs A1 A2 a2 h1 (cs + 14) (sl + 1066) 1498 [(0, .ref b), (1, .ref h1), (2, .ref (a2 0)), (3, .int iv)] [] n' μ' ν') : zL l E b L xs A1 A2 a2 h1 cs sl 867 [(0, .ref b), (1, .ref h1), (2, .ref (a2 0)), (3, .int iv)] [] n μ ν := by
  have hn7 : 107 ≤ n := by have h := (hrf n μ ν hPI).1; omega
  have hc0 : cs ≤ 600000 := by omega
  have hs0 : sl ≤ 7302250 := by omega
  refine zL_aload_n dL_867 rfl 1 rfl ?_
  obtain ⟨r, m1, n1, hC, hM, hI⟩ := hop n μ ν hPI
  refine zL_cls_iW (rest := []) (fun a A hN => k_X11_sound (l := l) hN  _) hn7 hC dL_868 lvL_106 okL_X11_sound rfl (Nat.le_of_ble_eq_true rfl) rfl rfl (Nat.le_of_ble_eq_true rfl) hc0 hs0 ?_
  refine zL_aload_n dL_871 rfl 2 rfl ?_
  refine zL_mod_iW (rest := [.int r]) (fun A hN => k_X12_sound (l := l) hN  _) hM dL_872 lvL_109 okL_X12_sound rfl (Nat.le_of_ble_eq_true rfl) rfl rfl (Nat.le_of_ble_eq_true rfl) hc0 hs0 ?_
  refine zL_eqT (tgt := 1498) dL_875 (by decide) ?_
  exact zL_widen (by omega) (by omega) (K n m1 n1 hI)
theorem zL_case23 (hop : zL_op23 PI) (hrf : zL_refs PI) (hc : cs + 14 ≤ 600000) (hs : sl + 1066 ≤ 7302250) (hv1 : vp_in (iv + 1) L) (hv2 : vp_in (iv + 2) L) (hv3 : vp_in (iv + 3) L) (hv4 : vp_in (iv + 4) L) (hv5 : vp_in (iv + 5) L) (hPI : PI n μ ν) (K : ∀ n' μ' ν', PI n' μ' ν' → zL l E b L xs A1 A2 a2 h1 (cs + 14) (sl + 1066) 1498 [(0, .ref b), (1, .ref h1), (2, .ref (a2 0)), (3, .int iv)] [] n' μ' ν') : zL l E b L xs A1 A2 a2 h1 cs sl 880 [(0, .ref b), (1, .ref h1), (2, .ref (a2 0)), (3, .int iv)] [] n μ ν := by
  have hn7 : 107 ≤ n := by have h := (hrf n μ ν hPI).1; omega
  have hc0 : cs ≤ 600000 := by omega
  have hs0 : sl ≤ 7302250 := by omega
  refine zL_aload_n dL_880 rfl 1 rfl ?_
  refine zL_aload_n dL_881 rfl 0 rfl ?_
  refine zL_iload_n dL_882 rfl 3 rfl ?_
  refine zL_iconst (v := (1 : Int32)) dL_883 (by decide) ?_
  refine zL_iadd dL_884 ?_
  refine zL_sld dL_885 hv1 ?_
  refine zL_aload_n dL_886 rfl 0 rfl ?_
  refine zL_iload_n dL_887 rfl 3 rfl ?_
  refine zL_iconst (v := (2 : Int32)) dL_888 (by decide) ?_
  refine zL_iadd dL_889 ?_
  refine zL_sld dL_890 hv2 ?_
  obtain ⟨r, m1, n1, hC, hM, hI⟩ := hop n μ ν ((xs (iv + (1 : Int32)).toNatClampNeg)) ((xs (iv + (2 : Int32)).toNatClampNeg)) hPI
  refine zL_cls_iW (rest := []) (fun a A hN => k_X11_falls (l := l) hN _ _ _) hn7 hC dL_891 lvL_110 okL_X11_falls rfl (Nat.le_of_ble_eq_true rfl) rfl rfl (Nat.le_of_ble_eq_true rfl) hc0 hs0 ?_
  refine zL_aload_n dL_894 rfl 2 rfl ?_
  refine zL_aload_n dL_895 rfl 0 rfl ?_
  refine zL_iload_n dL_896 rfl 3 rfl ?_
  refine zL_iconst (v := (1 : Int32)) dL_897 (by decide) ?_
  refine zL_iadd dL_898 ?_
  refine zL_sld dL_899 hv1 ?_
  refine zL_aload_n dL_900 rfl 0 rfl ?_
  refine zL_iload_n dL_901 rfl 3 rfl ?_
  refine zL_iconst (v := (2 : Int32)) dL_902 (by decide) ?_
  refine zL_iadd dL_903 ?_
  refine zL_sld dL_904 hv2 ?_
  refine zL_mod_iW (rest := [.int r]) (fun A hN => k_X12_falls (l := l) hN _ _ _) hM dL_905 lvL_113 okL_X12_falls rfl (Nat.le_of_ble_eq_true rfl) rfl rfl (Nat.le_of_ble_eq_true rfl) hc0 hs0 ?_
  refine zL_eqT (tgt := 1498) dL_908 (by decide) ?_
  exact zL_widen (by omega) (by omega) (K n m1 n1 hI)
theorem zL_case24 (hop : zL_op24 PI) (hrf : zL_refs PI) (hc : cs + 14 ≤ 600000) (hs : sl + 1066 ≤ 7302250) (hv1 : vp_in (iv + 1) L) (hv2 : vp_in (iv + 2) L) (hv3 : vp_in (iv + 3) L) (hv4 : vp_in (iv + 4) L) (hv5 : vp_in (iv + 5) L) (hPI : PI n μ ν) (K : ∀ n' μ' ν', PI n' μ' ν' → zL l E b L xs A1 A2 a2 h1 (cs + 14) (sl + 1066) 1498 [(0, .ref b), (1, .ref h1), (2, .ref (a2 0)), (3, .int iv)] [] n' μ' ν') : zL l E b L xs A1 A2 a2 h1 cs sl 913 [(0, .ref b), (1, .ref h1), (2, .ref (a2 0)), (3, .int iv)] [] n μ ν := by
  have hn7 : 107 ≤ n := by have h := (hrf n μ ν hPI).1; omega
  have hc0 : cs ≤ 600000 := by omega
  have hs0 : sl ≤ 7302250 := by omega
  refine zL_aload_n dL_913 rfl 1 rfl ?_
  refine zL_aload_n dL_914 rfl 0 rfl ?_
  refine zL_iload_n dL_915 rfl 3 rfl ?_
  refine zL_iconst (v := (1 : Int32)) dL_916 (by decide) ?_
  refine zL_iadd dL_917 ?_
  refine zL_sld dL_918 hv1 ?_
  obtain ⟨r, m1, n1, hC, hM, hI⟩ := hop n μ ν ((xs (iv + (1 : Int32)).toNatClampNeg)) hPI
  refine zL_cls_iW (rest := []) (fun a A hN => k_X11_moves (l := l) hN _ _) hn7 hC dL_919 lvL_114 okL_X11_moves rfl (Nat.le_of_ble_eq_true rfl) rfl rfl (Nat.le_of_ble_eq_true rfl) hc0 hs0 ?_
  refine zL_aload_n dL_922 rfl 2 rfl ?_
  refine zL_aload_n dL_923 rfl 0 rfl ?_
  refine zL_iload_n dL_924 rfl 3 rfl ?_
  refine zL_iconst (v := (1 : Int32)) dL_925 (by decide) ?_
  refine zL_iadd dL_926 ?_
  refine zL_sld dL_927 hv1 ?_
  refine zL_mod_iW (rest := [.int r]) (fun A hN => k_X12_moves (l := l) hN _ _) hM dL_928 lvL_117 okL_X12_moves rfl (Nat.le_of_ble_eq_true rfl) rfl rfl (Nat.le_of_ble_eq_true rfl) hc0 hs0 ?_
  refine zL_eqT (tgt := 1498) dL_931 (by decide) ?_
  exact zL_widen (by omega) (by omega) (K n m1 n1 hI)
theorem zL_case25 (hop : zL_op25 PI) (hrf : zL_refs PI) (hc : cs + 14 ≤ 600000) (hs : sl + 1066 ≤ 7302250) (hv1 : vp_in (iv + 1) L) (hv2 : vp_in (iv + 2) L) (hv3 : vp_in (iv + 3) L) (hv4 : vp_in (iv + 4) L) (hv5 : vp_in (iv + 5) L) (hPI : PI n μ ν) (K : ∀ n' μ' ν', PI n' μ' ν' → zL l E b L xs A1 A2 a2 h1 (cs + 14) (sl + 1066) 1498 [(0, .ref b), (1, .ref h1), (2, .ref (a2 0)), (3, .int iv)] [] n' μ' ν') : zL l E b L xs A1 A2 a2 h1 cs sl 936 [(0, .ref b), (1, .ref h1), (2, .ref (a2 0)), (3, .int iv)] [] n μ ν := by
  have hn7 : 107 ≤ n := by have h := (hrf n μ ν hPI).1; omega
  have hc0 : cs ≤ 600000 := by omega
  have hs0 : sl ≤ 7302250 := by omega
  refine zL_aload_n dL_936 rfl 1 rfl ?_
  obtain ⟨r, m1, n1, hC, hM, hI⟩ := hop n μ ν hPI
  refine zL_cls_jW (rest := []) (fun a A hN => k_X11_worth (l := l) hN  _) hn7 hC dL_937 lvL_118 okL_X11_worth rfl (Nat.le_of_ble_eq_true rfl) rfl rfl (Nat.le_of_ble_eq_true rfl) hc0 hs0 ?_
  refine zL_aload_n dL_940 rfl 2 rfl ?_
  refine zL_mod_jW (rest := [.long r]) (fun A hN => k_X12_worth (l := l) hN  _) hM dL_941 lvL_122 okL_X12_worth rfl (Nat.le_of_ble_eq_true rfl) rfl rfl (Nat.le_of_ble_eq_true rfl) hc0 hs0 ?_
  refine zL_leqT (tgt := 1498) dL_944 dL_945 (by decide) ?_
  exact zL_widen (by omega) (by omega) (K n m1 n1 hI)
theorem zL_case26 (hop : zL_op26 PI) (hrf : zL_refs PI) (hc : cs + 14 ≤ 600000) (hs : sl + 1066 ≤ 7302250) (hv1 : vp_in (iv + 1) L) (hv2 : vp_in (iv + 2) L) (hv3 : vp_in (iv + 3) L) (hv4 : vp_in (iv + 4) L) (hv5 : vp_in (iv + 5) L) (hPI : PI n μ ν) (K : ∀ n' μ' ν', PI n' μ' ν' → zL l E b L xs A1 A2 a2 h1 (cs + 14) (sl + 1066) 1498 [(0, .ref b), (1, .ref h1), (2, .ref (a2 0)), (3, .int iv)] [] n' μ' ν') : zL l E b L xs A1 A2 a2 h1 cs sl 950 [(0, .ref b), (1, .ref h1), (2, .ref (a2 0)), (3, .int iv)] [] n μ ν := by
  have hn7 : 107 ≤ n := by have h := (hrf n μ ν hPI).1; omega
  have hc0 : cs ≤ 600000 := by omega
  have hs0 : sl ≤ 7302250 := by omega
  refine zL_aload_n dL_950 rfl 1 rfl ?_
  refine zL_aload_n dL_951 rfl 0 rfl ?_
  refine zL_iload_n dL_952 rfl 3 rfl ?_
  refine zL_iconst (v := (1 : Int32)) dL_953 (by decide) ?_
  refine zL_iadd dL_954 ?_
  refine zL_sld dL_955 hv1 ?_
  obtain ⟨r, m1, n1, hC, hM, hI⟩ := hop n μ ν ((xs (iv + (1 : Int32)).toNatClampNeg)) hPI
  refine zL_cls_jW (rest := []) (fun a A hN => k_X11_move (l := l) hN _ _) hn7 hC dL_956 lvL_123 okL_X11_move rfl (Nat.le_of_ble_eq_true rfl) rfl rfl (Nat.le_of_ble_eq_true rfl) hc0 hs0 ?_
  refine zL_aload_n dL_959 rfl 2 rfl ?_
  refine zL_aload_n dL_960 rfl 0 rfl ?_
  refine zL_iload_n dL_961 rfl 3 rfl ?_
  refine zL_iconst (v := (1 : Int32)) dL_962 (by decide) ?_
  refine zL_iadd dL_963 ?_
  refine zL_sld dL_964 hv1 ?_
  refine zL_mod_jW (rest := [.long r]) (fun A hN => k_X12_move (l := l) hN _ _) hM dL_965 lvL_127 okL_X12_move rfl (Nat.le_of_ble_eq_true rfl) rfl rfl (Nat.le_of_ble_eq_true rfl) hc0 hs0 ?_
  refine zL_leqT (tgt := 1498) dL_968 dL_969 (by decide) ?_
  exact zL_widen (by omega) (by omega) (K n m1 n1 hI)
theorem zL_case27 (hop : zL_op27 PI) (hrf : zL_refs PI) (hc : cs + 14 ≤ 600000) (hs : sl + 1066 ≤ 7302250) (hv1 : vp_in (iv + 1) L) (hv2 : vp_in (iv + 2) L) (hv3 : vp_in (iv + 3) L) (hv4 : vp_in (iv + 4) L) (hv5 : vp_in (iv + 5) L) (hPI : PI n μ ν) (K : ∀ n' μ' ν', PI n' μ' ν' → zL l E b L xs A1 A2 a2 h1 (cs + 14) (sl + 1066) 1498 [(0, .ref b), (1, .ref h1), (2, .ref (a2 0)), (3, .int iv)] [] n' μ' ν') : zL l E b L xs A1 A2 a2 h1 cs sl 974 [(0, .ref b), (1, .ref h1), (2, .ref (a2 0)), (3, .int iv)] [] n μ ν := by
  have hn7 : 107 ≤ n := by have h := (hrf n μ ν hPI).1; omega
  have hc0 : cs ≤ 600000 := by omega
  have hs0 : sl ≤ 7302250 := by omega
  refine zL_aload_n dL_974 rfl 1 rfl ?_
  refine zL_aload_n dL_975 rfl 0 rfl ?_
  refine zL_iload_n dL_976 rfl 3 rfl ?_
  refine zL_iconst (v := (1 : Int32)) dL_977 (by decide) ?_
  refine zL_iadd dL_978 ?_
  refine zL_sld dL_979 hv1 ?_
  refine zL_aload_n dL_980 rfl 0 rfl ?_
  refine zL_iload_n dL_981 rfl 3 rfl ?_
  refine zL_iconst (v := (2 : Int32)) dL_982 (by decide) ?_
  refine zL_iadd dL_983 ?_
  refine zL_sld dL_984 hv2 ?_
  obtain ⟨r, m1, n1, hC, hM, hI⟩ := hop n μ ν ((xs (iv + (1 : Int32)).toNatClampNeg)) ((xs (iv + (2 : Int32)).toNatClampNeg)) hPI
  refine zL_cls_jW (rest := []) (fun a A hN => k_X11_bumped (l := l) hN _ _ _) hn7 hC dL_985 lvL_128 okL_X11_bumped rfl (Nat.le_of_ble_eq_true rfl) rfl rfl (Nat.le_of_ble_eq_true rfl) hc0 hs0 ?_
  refine zL_aload_n dL_988 rfl 2 rfl ?_
  refine zL_aload_n dL_989 rfl 0 rfl ?_
  refine zL_iload_n dL_990 rfl 3 rfl ?_
  refine zL_iconst (v := (1 : Int32)) dL_991 (by decide) ?_
  refine zL_iadd dL_992 ?_
  refine zL_sld dL_993 hv1 ?_
  refine zL_aload_n dL_994 rfl 0 rfl ?_
  refine zL_iload_n dL_995 rfl 3 rfl ?_
  refine zL_iconst (v := (2 : Int32)) dL_996 (by decide) ?_
  refine zL_iadd dL_997 ?_
  refine zL_sld dL_998 hv2 ?_
  refine zL_mod_jW (rest := [.long r]) (fun A hN => k_X12_bumped (l := l) hN _ _ _) hM dL_999 lvL_131 okL_X12_bumped rfl (Nat.le_of_ble_eq_true rfl) rfl rfl (Nat.le_of_ble_eq_true rfl) hc0 hs0 ?_
  refine zL_leqT (tgt := 1498) dL_1002 dL_1003 (by decide) ?_
  exact zL_widen (by omega) (by omega) (K n m1 n1 hI)
theorem zL_case28 (hop : zL_op28 PI) (hrf : zL_refs PI) (hc : cs + 14 ≤ 600000) (hs : sl + 1066 ≤ 7302250) (hv1 : vp_in (iv + 1) L) (hv2 : vp_in (iv + 2) L) (hv3 : vp_in (iv + 3) L) (hv4 : vp_in (iv + 4) L) (hv5 : vp_in (iv + 5) L) (hPI : PI n μ ν) (K : ∀ n' μ' ν', PI n' μ' ν' → zL l E b L xs A1 A2 a2 h1 (cs + 14) (sl + 1066) 1498 [(0, .ref b), (1, .ref h1), (2, .ref (a2 0)), (3, .int iv)] [] n' μ' ν') : zL l E b L xs A1 A2 a2 h1 cs sl 1008 [(0, .ref b), (1, .ref h1), (2, .ref (a2 0)), (3, .int iv)] [] n μ ν := by
  have hn7 : 107 ≤ n := by have h := (hrf n μ ν hPI).1; omega
  have hc0 : cs ≤ 600000 := by omega
  have hs0 : sl ≤ 7302250 := by omega
  refine zL_aload_n dL_1008 rfl 1 rfl ?_
  obtain ⟨r, m1, n1, hC, hM, hI⟩ := hop n μ ν hPI
  refine zL_cls_iW (rest := []) (fun a A hN => k_X11_mover (l := l) hN  _) hn7 hC dL_1009 lvL_132 okL_X11_mover rfl (Nat.le_of_ble_eq_true rfl) rfl rfl (Nat.le_of_ble_eq_true rfl) hc0 hs0 ?_
  refine zL_aload_n dL_1012 rfl 2 rfl ?_
  refine zL_mod_iW (rest := [.int r]) (fun A hN => k_X12_mover (l := l) hN  _) hM dL_1013 lvL_135 okL_X12_mover rfl (Nat.le_of_ble_eq_true rfl) rfl rfl (Nat.le_of_ble_eq_true rfl) hc0 hs0 ?_
  refine zL_eqT (tgt := 1498) dL_1016 (by decide) ?_
  exact zL_widen (by omega) (by omega) (K n m1 n1 hI)
theorem zL_case29 (hop : zL_op29 PI) (hrf : zL_refs PI) (hc : cs + 14 ≤ 600000) (hs : sl + 1066 ≤ 7302250) (hv1 : vp_in (iv + 1) L) (hv2 : vp_in (iv + 2) L) (hv3 : vp_in (iv + 3) L) (hv4 : vp_in (iv + 4) L) (hv5 : vp_in (iv + 5) L) (hPI : PI n μ ν) (K : ∀ n' μ' ν', PI n' μ' ν' → zL l E b L xs A1 A2 a2 h1 (cs + 14) (sl + 1066) 1498 [(0, .ref b), (1, .ref h1), (2, .ref (a2 0)), (3, .int iv)] [] n' μ' ν') : zL l E b L xs A1 A2 a2 h1 cs sl 1021 [(0, .ref b), (1, .ref h1), (2, .ref (a2 0)), (3, .int iv)] [] n μ ν := by
  have hn7 : 107 ≤ n := by have h := (hrf n μ ν hPI).1; omega
  have hc0 : cs ≤ 600000 := by omega
  have hs0 : sl ≤ 7302250 := by omega
  refine zL_aload_n dL_1021 rfl 1 rfl ?_
  refine zL_aload_n dL_1022 rfl 0 rfl ?_
  refine zL_iload_n dL_1023 rfl 3 rfl ?_
  refine zL_iconst (v := (1 : Int32)) dL_1024 (by decide) ?_
  refine zL_iadd dL_1025 ?_
  refine zL_sld dL_1026 hv1 ?_
  obtain ⟨r, m1, n1, hC, hM, hI⟩ := hop n μ ν ((xs (iv + (1 : Int32)).toNatClampNeg)) hPI
  refine zL_cls_iW (rest := []) (fun a A hN => k_X11_breaks (l := l) hN _ _) hn7 hC dL_1027 lvL_136 okL_X11_breaks rfl (Nat.le_of_ble_eq_true rfl) rfl rfl (Nat.le_of_ble_eq_true rfl) hc0 hs0 ?_
  refine zL_aload_n dL_1030 rfl 2 rfl ?_
  refine zL_aload_n dL_1031 rfl 0 rfl ?_
  refine zL_iload_n dL_1032 rfl 3 rfl ?_
  refine zL_iconst (v := (1 : Int32)) dL_1033 (by decide) ?_
  refine zL_iadd dL_1034 ?_
  refine zL_sld dL_1035 hv1 ?_
  refine zL_mod_iW (rest := [.int r]) (fun A hN => k_X12_breaks (l := l) hN _ _) hM dL_1036 lvL_139 okL_X12_breaks rfl (Nat.le_of_ble_eq_true rfl) rfl rfl (Nat.le_of_ble_eq_true rfl) hc0 hs0 ?_
  refine zL_eqT (tgt := 1498) dL_1039 (by decide) ?_
  exact zL_widen (by omega) (by omega) (K n m1 n1 hI)
theorem zL_case30 (hop : zL_op30 PI) (hrf : zL_refs PI) (hc : cs + 14 ≤ 600000) (hs : sl + 1066 ≤ 7302250) (hv1 : vp_in (iv + 1) L) (hv2 : vp_in (iv + 2) L) (hv3 : vp_in (iv + 3) L) (hv4 : vp_in (iv + 4) L) (hv5 : vp_in (iv + 5) L) (hPI : PI n μ ν) (K : ∀ n' μ' ν', PI n' μ' ν' → zL l E b L xs A1 A2 a2 h1 (cs + 14) (sl + 1066) 1498 [(0, .ref b), (1, .ref h1), (2, .ref (a2 0)), (3, .int iv)] [] n' μ' ν') : zL l E b L xs A1 A2 a2 h1 cs sl 1044 [(0, .ref b), (1, .ref h1), (2, .ref (a2 0)), (3, .int iv)] [] n μ ν := by
  have hn7 : 107 ≤ n := by have h := (hrf n μ ν hPI).1; omega
  have hc0 : cs ≤ 600000 := by omega
  have hs0 : sl ≤ 7302250 := by omega
  refine zL_aload_n dL_1044 rfl 1 rfl ?_
  refine zL_aload_n dL_1045 rfl 0 rfl ?_
  refine zL_iload_n dL_1046 rfl 3 rfl ?_
  refine zL_iconst (v := (1 : Int32)) dL_1047 (by decide) ?_
  refine zL_iadd dL_1048 ?_
  refine zL_sld dL_1049 hv1 ?_
  obtain ⟨r, n1, hC, hM, hI⟩ := hop n μ ν ((xs (iv + (1 : Int32)).toNatClampNeg)) hPI
  refine zL_cls_jR (rest := []) (fun a A hN => k_X11_hang (l := l) hN _ _) hn7 hC dL_1050 lvL_140 okL_X11_hang rfl (Nat.le_of_ble_eq_true rfl) rfl rfl (Nat.le_of_ble_eq_true rfl) hc0 hs0 ?_
  refine zL_aload_n dL_1053 rfl 2 rfl ?_
  refine zL_aload_n dL_1054 rfl 0 rfl ?_
  refine zL_iload_n dL_1055 rfl 3 rfl ?_
  refine zL_iconst (v := (1 : Int32)) dL_1056 (by decide) ?_
  refine zL_iadd dL_1057 ?_
  refine zL_sld dL_1058 hv1 ?_
  refine zL_mod_jW (rest := [.long r]) (fun A hN => k_X12_hang (l := l) hN _ _) hM dL_1059 lvL_143 okL_X12_hang rfl (Nat.le_of_ble_eq_true rfl) rfl rfl (Nat.le_of_ble_eq_true rfl) hc0 hs0 ?_
  refine zL_leqT (tgt := 1498) dL_1062 dL_1063 (by decide) ?_
  exact zL_widen (by omega) (by omega) (K n μ n1 hI)
theorem zL_case31 (hop : zL_op31 PI) (hrf : zL_refs PI) (hc : cs + 14 ≤ 600000) (hs : sl + 1066 ≤ 7302250) (hv1 : vp_in (iv + 1) L) (hv2 : vp_in (iv + 2) L) (hv3 : vp_in (iv + 3) L) (hv4 : vp_in (iv + 4) L) (hv5 : vp_in (iv + 5) L) (hPI : PI n μ ν) (K : ∀ n' μ' ν', PI n' μ' ν' → zL l E b L xs A1 A2 a2 h1 (cs + 14) (sl + 1066) 1498 [(0, .ref b), (1, .ref h1), (2, .ref (a2 0)), (3, .int iv)] [] n' μ' ν') : zL l E b L xs A1 A2 a2 h1 cs sl 1068 [(0, .ref b), (1, .ref h1), (2, .ref (a2 0)), (3, .int iv)] [] n μ ν := by
  have hn7 : 107 ≤ n := by have h := (hrf n μ ν hPI).1; omega
  have hc0 : cs ≤ 600000 := by omega
  have hs0 : sl ≤ 7302250 := by omega
  refine zL_aload_n dL_1068 rfl 1 rfl ?_
  refine zL_aload_n dL_1069 rfl 0 rfl ?_
  refine zL_iload_n dL_1070 rfl 3 rfl ?_
  refine zL_iconst (v := (1 : Int32)) dL_1071 (by decide) ?_
  refine zL_iadd dL_1072 ?_
  refine zL_sld dL_1073 hv1 ?_
  obtain ⟨r, m1, n1, hC, hM, hI⟩ := hop n μ ν ((xs (iv + (1 : Int32)).toNatClampNeg)) hPI
  refine zL_cls_jW (rest := []) (fun a A hN => k_X11_flat (l := l) hN _ _) hn7 hC dL_1074 lvL_144 okL_X11_flat rfl (Nat.le_of_ble_eq_true rfl) rfl rfl (Nat.le_of_ble_eq_true rfl) hc0 hs0 ?_
  refine zL_aload_n dL_1077 rfl 2 rfl ?_
  refine zL_aload_n dL_1078 rfl 0 rfl ?_
  refine zL_iload_n dL_1079 rfl 3 rfl ?_
  refine zL_iconst (v := (1 : Int32)) dL_1080 (by decide) ?_
  refine zL_iadd dL_1081 ?_
  refine zL_sld dL_1082 hv1 ?_
  refine zL_mod_jW (rest := [.long r]) (fun A hN => k_X12_flat (l := l) hN _ _) hM dL_1083 lvL_147 okL_X12_flat rfl (Nat.le_of_ble_eq_true rfl) rfl rfl (Nat.le_of_ble_eq_true rfl) hc0 hs0 ?_
  refine zL_leqT (tgt := 1498) dL_1086 dL_1087 (by decide) ?_
  exact zL_widen (by omega) (by omega) (K n m1 n1 hI)
theorem zL_case32 (hop : zL_op32 PI) (hrf : zL_refs PI) (hc : cs + 14 ≤ 600000) (hs : sl + 1066 ≤ 7302250) (hv1 : vp_in (iv + 1) L) (hv2 : vp_in (iv + 2) L) (hv3 : vp_in (iv + 3) L) (hv4 : vp_in (iv + 4) L) (hv5 : vp_in (iv + 5) L) (hPI : PI n μ ν) (K : ∀ n' μ' ν', PI n' μ' ν' → zL l E b L xs A1 A2 a2 h1 (cs + 14) (sl + 1066) 1498 [(0, .ref b), (1, .ref h1), (2, .ref (a2 0)), (3, .int iv)] [] n' μ' ν') : zL l E b L xs A1 A2 a2 h1 cs sl 1092 [(0, .ref b), (1, .ref h1), (2, .ref (a2 0)), (3, .int iv)] [] n μ ν := by
  have hn7 : 107 ≤ n := by have h := (hrf n μ ν hPI).1; omega
  have hc0 : cs ≤ 600000 := by omega
  have hs0 : sl ≤ 7302250 := by omega
  refine zL_aload_n dL_1092 rfl 1 rfl ?_
  refine zL_aload_n dL_1093 rfl 0 rfl ?_
  refine zL_iload_n dL_1094 rfl 3 rfl ?_
  refine zL_iconst (v := (1 : Int32)) dL_1095 (by decide) ?_
  refine zL_iadd dL_1096 ?_
  refine zL_sld dL_1097 hv1 ?_
  obtain ⟨r, m1, n1, hC, hM, hI⟩ := hop n μ ν ((xs (iv + (1 : Int32)).toNatClampNeg)) hPI
  refine zL_cls_jW (rest := []) (fun a A hN => k_X11_left (l := l) hN _ _) hn7 hC dL_1098 lvL_148 okL_X11_left rfl (Nat.le_of_ble_eq_true rfl) rfl rfl (Nat.le_of_ble_eq_true rfl) hc0 hs0 ?_
  refine zL_aload_n dL_1101 rfl 2 rfl ?_
  refine zL_aload_n dL_1102 rfl 0 rfl ?_
  refine zL_iload_n dL_1103 rfl 3 rfl ?_
  refine zL_iconst (v := (1 : Int32)) dL_1104 (by decide) ?_
  refine zL_iadd dL_1105 ?_
  refine zL_sld dL_1106 hv1 ?_
  refine zL_mod_jW (rest := [.long r]) (fun A hN => k_X12_left (l := l) hN _ _) hM dL_1107 lvL_151 okL_X12_left rfl (Nat.le_of_ble_eq_true rfl) rfl rfl (Nat.le_of_ble_eq_true rfl) hc0 hs0 ?_
  refine zL_leqT (tgt := 1498) dL_1110 dL_1111 (by decide) ?_
  exact zL_widen (by omega) (by omega) (K n m1 n1 hI)
theorem zL_case33 (hop : zL_op33 PI) (hrf : zL_refs PI) (hc : cs + 14 ≤ 600000) (hs : sl + 1066 ≤ 7302250) (hv1 : vp_in (iv + 1) L) (hv2 : vp_in (iv + 2) L) (hv3 : vp_in (iv + 3) L) (hv4 : vp_in (iv + 4) L) (hv5 : vp_in (iv + 5) L) (hPI : PI n μ ν) (K : ∀ n' μ' ν', PI n' μ' ν' → zL l E b L xs A1 A2 a2 h1 (cs + 14) (sl + 1066) 1498 [(0, .ref b), (1, .ref h1), (2, .ref (a2 0)), (3, .int iv)] [] n' μ' ν') : zL l E b L xs A1 A2 a2 h1 cs sl 1116 [(0, .ref b), (1, .ref h1), (2, .ref (a2 0)), (3, .int iv)] [] n μ ν := by
  have hn7 : 107 ≤ n := by have h := (hrf n μ ν hPI).1; omega
  have hc0 : cs ≤ 600000 := by omega
  have hs0 : sl ≤ 7302250 := by omega
  refine zL_aload_n dL_1116 rfl 1 rfl ?_
  refine zL_aload_n dL_1117 rfl 0 rfl ?_
  refine zL_iload_n dL_1118 rfl 3 rfl ?_
  refine zL_iconst (v := (1 : Int32)) dL_1119 (by decide) ?_
  refine zL_iadd dL_1120 ?_
  refine zL_sld dL_1121 hv1 ?_
  obtain ⟨r, m1, n1, hC, hM, hI⟩ := hop n μ ν ((xs (iv + (1 : Int32)).toNatClampNeg)) hPI
  refine zL_cls_iW (rest := []) (fun a A hN => k_X11_shifts (l := l) hN _ _) hn7 hC dL_1122 lvL_152 okL_X11_shifts rfl (Nat.le_of_ble_eq_true rfl) rfl rfl (Nat.le_of_ble_eq_true rfl) hc0 hs0 ?_
  refine zL_aload_n dL_1125 rfl 2 rfl ?_
  refine zL_aload_n dL_1126 rfl 0 rfl ?_
  refine zL_iload_n dL_1127 rfl 3 rfl ?_
  refine zL_iconst (v := (1 : Int32)) dL_1128 (by decide) ?_
  refine zL_iadd dL_1129 ?_
  refine zL_sld dL_1130 hv1 ?_
  refine zL_mod_iW (rest := [.int r]) (fun A hN => k_X12_shifts (l := l) hN _ _) hM dL_1131 lvL_155 okL_X12_shifts rfl (Nat.le_of_ble_eq_true rfl) rfl rfl (Nat.le_of_ble_eq_true rfl) hc0 hs0 ?_
  refine zL_eqT (tgt := 1498) dL_1134 (by decide) ?_
  exact zL_widen (by omega) (by omega) (K n m1 n1 hI)
theorem zL_case34 (hop : zL_op34 PI) (hrf : zL_refs PI) (hc : cs + 14 ≤ 600000) (hs : sl + 1066 ≤ 7302250) (hv1 : vp_in (iv + 1) L) (hv2 : vp_in (iv + 2) L) (hv3 : vp_in (iv + 3) L) (hv4 : vp_in (iv + 4) L) (hv5 : vp_in (iv + 5) L) (hPI : PI n μ ν) (K : ∀ n' μ' ν', PI n' μ' ν' → zL l E b L xs A1 A2 a2 h1 (cs + 14) (sl + 1066) 1498 [(0, .ref b), (1, .ref h1), (2, .ref (a2 0)), (3, .int iv)] [] n' μ' ν') : zL l E b L xs A1 A2 a2 h1 cs sl 1139 [(0, .ref b), (1, .ref h1), (2, .ref (a2 0)), (3, .int iv)] [] n μ ν := by
  have hn7 : 107 ≤ n := by have h := (hrf n μ ν hPI).1; omega
  have hc0 : cs ≤ 600000 := by omega
  have hs0 : sl ≤ 7302250 := by omega
  refine zL_aload_n dL_1139 rfl 1 rfl ?_
  refine zL_aload_n dL_1140 rfl 0 rfl ?_
  refine zL_iload_n dL_1141 rfl 3 rfl ?_
  refine zL_iconst (v := (1 : Int32)) dL_1142 (by decide) ?_
  refine zL_iadd dL_1143 ?_
  refine zL_sld dL_1144 hv1 ?_
  obtain ⟨r, m1, n1, hC, hM, hI⟩ := hop n μ ν ((xs (iv + (1 : Int32)).toNatClampNeg)) hPI
  refine zL_cls_iW (rest := []) (fun a A hN => k_X11_ask (l := l) hN _ _) hn7 hC dL_1145 lvL_156 okL_X11_ask rfl (Nat.le_of_ble_eq_true rfl) rfl rfl (Nat.le_of_ble_eq_true rfl) hc0 hs0 ?_
  refine zL_aload_n dL_1148 rfl 2 rfl ?_
  refine zL_aload_n dL_1149 rfl 0 rfl ?_
  refine zL_iload_n dL_1150 rfl 3 rfl ?_
  refine zL_iconst (v := (1 : Int32)) dL_1151 (by decide) ?_
  refine zL_iadd dL_1152 ?_
  refine zL_sld dL_1153 hv1 ?_
  refine zL_mod_iW (rest := [.int r]) (fun A hN => k_X12_ask (l := l) hN _ _) hM dL_1154 lvL_159 okL_X12_ask rfl (Nat.le_of_ble_eq_true rfl) rfl rfl (Nat.le_of_ble_eq_true rfl) hc0 hs0 ?_
  refine zL_eqT (tgt := 1498) dL_1157 (by decide) ?_
  exact zL_widen (by omega) (by omega) (K n m1 n1 hI)
theorem zL_case35 (hop : zL_op35 PI) (hrf : zL_refs PI) (hc : cs + 14 ≤ 600000) (hs : sl + 1066 ≤ 7302250) (hv1 : vp_in (iv + 1) L) (hv2 : vp_in (iv + 2) L) (hv3 : vp_in (iv + 3) L) (hv4 : vp_in (iv + 4) L) (hv5 : vp_in (iv + 5) L) (hPI : PI n μ ν) (K : ∀ n' μ' ν', PI n' μ' ν' → zL l E b L xs A1 A2 a2 h1 (cs + 14) (sl + 1066) 1498 [(0, .ref b), (1, .ref h1), (2, .ref (a2 0)), (3, .int iv)] [] n' μ' ν') : zL l E b L xs A1 A2 a2 h1 cs sl 1162 [(0, .ref b), (1, .ref h1), (2, .ref (a2 0)), (3, .int iv)] [] n μ ν := by
  have hn7 : 107 ≤ n := by have h := (hrf n μ ν hPI).1; omega
  have hc0 : cs ≤ 600000 := by omega
  have hs0 : sl ≤ 7302250 := by omega
  refine zL_aload_n dL_1162 rfl 1 rfl ?_
  refine zL_aload_n dL_1163 rfl 0 rfl ?_
  refine zL_iload_n dL_1164 rfl 3 rfl ?_
  refine zL_iconst (v := (1 : Int32)) dL_1165 (by decide) ?_
  refine zL_iadd dL_1166 ?_
  refine zL_sld dL_1167 hv1 ?_
  refine zL_aload_n dL_1168 rfl 0 rfl ?_
  refine zL_iload_n dL_1169 rfl 3 rfl ?_
  refine zL_iconst (v := (2 : Int32)) dL_1170 (by decide) ?_
  refine zL_iadd dL_1171 ?_
  refine zL_sld dL_1172 hv2 ?_
  refine zL_i2l dL_1173 ?_
  refine zL_bipush (v := (32 : Int32)) dL_1174 (by decide) ?_
  refine zL_lshl dL_1176 ?_
  refine zL_aload_n dL_1177 rfl 0 rfl ?_
  refine zL_iload_n dL_1178 rfl 3 rfl ?_
  refine zL_iconst (v := (3 : Int32)) dL_1179 (by decide) ?_
  refine zL_iadd dL_1180 ?_
  refine zL_sld dL_1181 hv3 ?_
  refine zL_i2l dL_1182 ?_
  refine zL_ldc2 (v := (4294967295 : Int64)) dL_1183 kcL_160 ?_
  refine zL_land dL_1186 ?_
  refine zL_lor dL_1187 ?_
  refine zL_aload_n dL_1188 rfl 0 rfl ?_
  refine zL_iload_n dL_1189 rfl 3 rfl ?_
  refine zL_iconst (v := (4 : Int32)) dL_1190 (by decide) ?_
  refine zL_iadd dL_1191 ?_
  refine zL_sld dL_1192 hv4 ?_
  refine zL_aload_n dL_1193 rfl 0 rfl ?_
  refine zL_iload_n dL_1194 rfl 3 rfl ?_
  refine zL_iconst (v := (5 : Int32)) dL_1195 (by decide) ?_
  refine zL_iadd dL_1196 ?_
  refine zL_sld dL_1197 hv5 ?_
  obtain ⟨r, m1, n1, hC, hM, hI⟩ := hop n μ ν ((xs (iv + (1 : Int32)).toNatClampNeg)) (((((xs (iv + (2 : Int32)).toNatClampNeg)).toInt64 <<< ((32 : Int32).toInt64 &&& 63)) ||| (((xs (iv + (3 : Int32)).toNatClampNeg)).toInt64 &&& (4294967295 : Int64)))) ((xs (iv + (4 : Int32)).toNatClampNeg)) ((xs (iv + (5 : Int32)).toNatClampNeg)) hPI
  refine zL_cls_iW (rest := []) (fun a A hN => k_X11_chance (l := l) hN _ _ _ _ _) hn7 hC dL_1198 lvL_162 okL_X11_chance rfl (Nat.le_of_ble_eq_true rfl) rfl rfl (Nat.le_of_ble_eq_true rfl) hc0 hs0 ?_
  refine zL_aload_n dL_1201 rfl 2 rfl ?_
  refine zL_aload_n dL_1202 rfl 0 rfl ?_
  refine zL_iload_n dL_1203 rfl 3 rfl ?_
  refine zL_iconst (v := (1 : Int32)) dL_1204 (by decide) ?_
  refine zL_iadd dL_1205 ?_
  refine zL_sld dL_1206 hv1 ?_
  refine zL_aload_n dL_1207 rfl 0 rfl ?_
  refine zL_iload_n dL_1208 rfl 3 rfl ?_
  refine zL_iconst (v := (2 : Int32)) dL_1209 (by decide) ?_
  refine zL_iadd dL_1210 ?_
  refine zL_sld dL_1211 hv2 ?_
  refine zL_i2l dL_1212 ?_
  refine zL_bipush (v := (32 : Int32)) dL_1213 (by decide) ?_
  refine zL_lshl dL_1215 ?_
  refine zL_aload_n dL_1216 rfl 0 rfl ?_
  refine zL_iload_n dL_1217 rfl 3 rfl ?_
  refine zL_iconst (v := (3 : Int32)) dL_1218 (by decide) ?_
  refine zL_iadd dL_1219 ?_
  refine zL_sld dL_1220 hv3 ?_
  refine zL_i2l dL_1221 ?_
  refine zL_ldc2 (v := (4294967295 : Int64)) dL_1222 kcL_160 ?_
  refine zL_land dL_1225 ?_
  refine zL_lor dL_1226 ?_
  refine zL_aload_n dL_1227 rfl 0 rfl ?_
  refine zL_iload_n dL_1228 rfl 3 rfl ?_
  refine zL_iconst (v := (4 : Int32)) dL_1229 (by decide) ?_
  refine zL_iadd dL_1230 ?_
  refine zL_sld dL_1231 hv4 ?_
  refine zL_aload_n dL_1232 rfl 0 rfl ?_
  refine zL_iload_n dL_1233 rfl 3 rfl ?_
  refine zL_iconst (v := (5 : Int32)) dL_1234 (by decide) ?_
  refine zL_iadd dL_1235 ?_
  refine zL_sld dL_1236 hv5 ?_
  refine zL_mod_iW (rest := [.int r]) (fun A hN => k_X12_chance (l := l) hN _ _ _ _ _) hM dL_1237 lvL_166 okL_X12_chance rfl (Nat.le_of_ble_eq_true rfl) rfl rfl (Nat.le_of_ble_eq_true rfl) hc0 hs0 ?_
  refine zL_eqT (tgt := 1498) dL_1240 (by decide) ?_
  exact zL_widen (by omega) (by omega) (K n m1 n1 hI)
theorem zL_case36 (hop : zL_op36 PI) (hrf : zL_refs PI) (hc : cs + 14 ≤ 600000) (hs : sl + 1066 ≤ 7302250) (hv1 : vp_in (iv + 1) L) (hv2 : vp_in (iv + 2) L) (hv3 : vp_in (iv + 3) L) (hv4 : vp_in (iv + 4) L) (hv5 : vp_in (iv + 5) L) (hPI : PI n μ ν) (K : ∀ n' μ' ν', PI n' μ' ν' → zL l E b L xs A1 A2 a2 h1 (cs + 14) (sl + 1066) 1498 [(0, .ref b), (1, .ref h1), (2, .ref (a2 0)), (3, .int iv)] [] n' μ' ν') : zL l E b L xs A1 A2 a2 h1 cs sl 1245 [(0, .ref b), (1, .ref h1), (2, .ref (a2 0)), (3, .int iv)] [] n μ ν := by
  have hn7 : 107 ≤ n := by have h := (hrf n μ ν hPI).1; omega
  have hc0 : cs ≤ 600000 := by omega
  have hs0 : sl ≤ 7302250 := by omega
  refine zL_aload_n dL_1245 rfl 1 rfl ?_
  refine zL_aload_n dL_1246 rfl 0 rfl ?_
  refine zL_iload_n dL_1247 rfl 3 rfl ?_
  refine zL_iconst (v := (1 : Int32)) dL_1248 (by decide) ?_
  refine zL_iadd dL_1249 ?_
  refine zL_sld dL_1250 hv1 ?_
  refine zL_aload_n dL_1251 rfl 0 rfl ?_
  refine zL_iload_n dL_1252 rfl 3 rfl ?_
  refine zL_iconst (v := (2 : Int32)) dL_1253 (by decide) ?_
  refine zL_iadd dL_1254 ?_
  refine zL_sld dL_1255 hv2 ?_
  refine zL_aload_n dL_1256 rfl 0 rfl ?_
  refine zL_iload_n dL_1257 rfl 3 rfl ?_
  refine zL_iconst (v := (3 : Int32)) dL_1258 (by decide) ?_
  refine zL_iadd dL_1259 ?_
  refine zL_sld dL_1260 hv3 ?_
  obtain ⟨r, m1, n1, hC, hM, hI⟩ := hop n μ ν ((xs (iv + (1 : Int32)).toNatClampNeg)) ((xs (iv + (2 : Int32)).toNatClampNeg)) ((xs (iv + (3 : Int32)).toNatClampNeg)) hPI
  refine zL_cls_jW (rest := []) (fun a A hN => k_X11_mean (l := l) hN _ _ _ _) hn7 hC dL_1261 lvL_167 okL_X11_mean rfl (Nat.le_of_ble_eq_true rfl) rfl rfl (Nat.le_of_ble_eq_true rfl) hc0 hs0 ?_
  refine zL_aload_n dL_1264 rfl 2 rfl ?_
  refine zL_aload_n dL_1265 rfl 0 rfl ?_
  refine zL_iload_n dL_1266 rfl 3 rfl ?_
  refine zL_iconst (v := (1 : Int32)) dL_1267 (by decide) ?_
  refine zL_iadd dL_1268 ?_
  refine zL_sld dL_1269 hv1 ?_
  refine zL_aload_n dL_1270 rfl 0 rfl ?_
  refine zL_iload_n dL_1271 rfl 3 rfl ?_
  refine zL_iconst (v := (2 : Int32)) dL_1272 (by decide) ?_
  refine zL_iadd dL_1273 ?_
  refine zL_sld dL_1274 hv2 ?_
  refine zL_aload_n dL_1275 rfl 0 rfl ?_
  refine zL_iload_n dL_1276 rfl 3 rfl ?_
  refine zL_iconst (v := (3 : Int32)) dL_1277 (by decide) ?_
  refine zL_iadd dL_1278 ?_
  refine zL_sld dL_1279 hv3 ?_
  refine zL_mod_jW (rest := [.long r]) (fun A hN => k_X12_mean (l := l) hN _ _ _ _) hM dL_1280 lvL_171 okL_X12_mean rfl (Nat.le_of_ble_eq_true rfl) rfl rfl (Nat.le_of_ble_eq_true rfl) hc0 hs0 ?_
  refine zL_leqT (tgt := 1498) dL_1283 dL_1284 (by decide) ?_
  exact zL_widen (by omega) (by omega) (K n m1 n1 hI)
theorem zL_case37 (hop : zL_op37 PI) (hrf : zL_refs PI) (hc : cs + 14 ≤ 600000) (hs : sl + 1066 ≤ 7302250) (hv1 : vp_in (iv + 1) L) (hv2 : vp_in (iv + 2) L) (hv3 : vp_in (iv + 3) L) (hv4 : vp_in (iv + 4) L) (hv5 : vp_in (iv + 5) L) (hPI : PI n μ ν) (K : ∀ n' μ' ν', PI n' μ' ν' → zL l E b L xs A1 A2 a2 h1 (cs + 14) (sl + 1066) 1498 [(0, .ref b), (1, .ref h1), (2, .ref (a2 0)), (3, .int iv)] [] n' μ' ν') : zL l E b L xs A1 A2 a2 h1 cs sl 1289 [(0, .ref b), (1, .ref h1), (2, .ref (a2 0)), (3, .int iv)] [] n μ ν := by
  have hn7 : 107 ≤ n := by have h := (hrf n μ ν hPI).1; omega
  have hc0 : cs ≤ 600000 := by omega
  have hs0 : sl ≤ 7302250 := by omega
  refine zL_aload_n dL_1289 rfl 1 rfl ?_
  refine zL_aload_n dL_1290 rfl 0 rfl ?_
  refine zL_iload_n dL_1291 rfl 3 rfl ?_
  refine zL_iconst (v := (1 : Int32)) dL_1292 (by decide) ?_
  refine zL_iadd dL_1293 ?_
  refine zL_sld dL_1294 hv1 ?_
  refine zL_aload_n dL_1295 rfl 0 rfl ?_
  refine zL_iload_n dL_1296 rfl 3 rfl ?_
  refine zL_iconst (v := (2 : Int32)) dL_1297 (by decide) ?_
  refine zL_iadd dL_1298 ?_
  refine zL_sld dL_1299 hv2 ?_
  refine zL_aload_n dL_1300 rfl 0 rfl ?_
  refine zL_iload_n dL_1301 rfl 3 rfl ?_
  refine zL_iconst (v := (3 : Int32)) dL_1302 (by decide) ?_
  refine zL_iadd dL_1303 ?_
  refine zL_sld dL_1304 hv3 ?_
  obtain ⟨r, m1, n1, hC, hM, hI⟩ := hop n μ ν ((xs (iv + (1 : Int32)).toNatClampNeg)) ((xs (iv + (2 : Int32)).toNatClampNeg)) ((xs (iv + (3 : Int32)).toNatClampNeg)) hPI
  refine zL_cls_iW (rest := []) (fun a A hN => k_X11_numbers (l := l) hN _ _ _ _) hn7 hC dL_1305 lvL_172 okL_X11_numbers rfl (Nat.le_of_ble_eq_true rfl) rfl rfl (Nat.le_of_ble_eq_true rfl) hc0 hs0 ?_
  refine zL_aload_n dL_1308 rfl 2 rfl ?_
  refine zL_aload_n dL_1309 rfl 0 rfl ?_
  refine zL_iload_n dL_1310 rfl 3 rfl ?_
  refine zL_iconst (v := (1 : Int32)) dL_1311 (by decide) ?_
  refine zL_iadd dL_1312 ?_
  refine zL_sld dL_1313 hv1 ?_
  refine zL_aload_n dL_1314 rfl 0 rfl ?_
  refine zL_iload_n dL_1315 rfl 3 rfl ?_
  refine zL_iconst (v := (2 : Int32)) dL_1316 (by decide) ?_
  refine zL_iadd dL_1317 ?_
  refine zL_sld dL_1318 hv2 ?_
  refine zL_aload_n dL_1319 rfl 0 rfl ?_
  refine zL_iload_n dL_1320 rfl 3 rfl ?_
  refine zL_iconst (v := (3 : Int32)) dL_1321 (by decide) ?_
  refine zL_iadd dL_1322 ?_
  refine zL_sld dL_1323 hv3 ?_
  refine zL_mod_iW (rest := [.int r]) (fun A hN => k_X12_numbers (l := l) hN _ _ _ _) hM dL_1324 lvL_176 okL_X12_numbers rfl (Nat.le_of_ble_eq_true rfl) rfl rfl (Nat.le_of_ble_eq_true rfl) hc0 hs0 ?_
  refine zL_eqT (tgt := 1498) dL_1327 (by decide) ?_
  exact zL_widen (by omega) (by omega) (K n m1 n1 hI)
theorem zL_case38 (hop : zL_op38 PI) (hrf : zL_refs PI) (hc : cs + 14 ≤ 600000) (hs : sl + 1066 ≤ 7302250) (hv1 : vp_in (iv + 1) L) (hv2 : vp_in (iv + 2) L) (hv3 : vp_in (iv + 3) L) (hv4 : vp_in (iv + 4) L) (hv5 : vp_in (iv + 5) L) (hPI : PI n μ ν) (K : ∀ n' μ' ν', PI n' μ' ν' → zL l E b L xs A1 A2 a2 h1 (cs + 14) (sl + 1066) 1498 [(0, .ref b), (1, .ref h1), (2, .ref (a2 0)), (3, .int iv)] [] n' μ' ν') : zL l E b L xs A1 A2 a2 h1 cs sl 1332 [(0, .ref b), (1, .ref h1), (2, .ref (a2 0)), (3, .int iv)] [] n μ ν := by
  have hn7 : 107 ≤ n := by have h := (hrf n μ ν hPI).1; omega
  have hc0 : cs ≤ 600000 := by omega
  have hs0 : sl ≤ 7302250 := by omega
  refine zL_aload_n dL_1332 rfl 1 rfl ?_
  refine zL_aload_n dL_1333 rfl 0 rfl ?_
  refine zL_iload_n dL_1334 rfl 3 rfl ?_
  refine zL_iconst (v := (1 : Int32)) dL_1335 (by decide) ?_
  refine zL_iadd dL_1336 ?_
  refine zL_sld dL_1337 hv1 ?_
  refine zL_aload_n dL_1338 rfl 0 rfl ?_
  refine zL_iload_n dL_1339 rfl 3 rfl ?_
  refine zL_iconst (v := (2 : Int32)) dL_1340 (by decide) ?_
  refine zL_iadd dL_1341 ?_
  refine zL_sld dL_1342 hv2 ?_
  refine zL_aload_n dL_1343 rfl 0 rfl ?_
  refine zL_iload_n dL_1344 rfl 3 rfl ?_
  refine zL_iconst (v := (3 : Int32)) dL_1345 (by decide) ?_
  refine zL_iadd dL_1346 ?_
  refine zL_sld dL_1347 hv3 ?_
  refine zL_i2l dL_1348 ?_
  refine zL_bipush (v := (32 : Int32)) dL_1349 (by decide) ?_
  refine zL_lshl dL_1351 ?_
  refine zL_aload_n dL_1352 rfl 0 rfl ?_
  refine zL_iload_n dL_1353 rfl 3 rfl ?_
  refine zL_iconst (v := (4 : Int32)) dL_1354 (by decide) ?_
  refine zL_iadd dL_1355 ?_
  refine zL_sld dL_1356 hv4 ?_
  refine zL_i2l dL_1357 ?_
  refine zL_ldc2 (v := (4294967295 : Int64)) dL_1358 kcL_160 ?_
  refine zL_land dL_1361 ?_
  refine zL_lor dL_1362 ?_
  obtain ⟨r, m1, n1, hC, hM, hI⟩ := hop n μ ν ((xs (iv + (1 : Int32)).toNatClampNeg)) ((xs (iv + (2 : Int32)).toNatClampNeg)) (((((xs (iv + (3 : Int32)).toNatClampNeg)).toInt64 <<< ((32 : Int32).toInt64 &&& 63)) ||| (((xs (iv + (4 : Int32)).toNatClampNeg)).toInt64 &&& (4294967295 : Int64)))) hPI
  refine zL_cls_jW (rest := []) (fun a A hN => k_X11_write (l := l) hN _ _ _ _) hn7 hC dL_1363 lvL_177 okL_X11_write rfl (Nat.le_of_ble_eq_true rfl) rfl rfl (Nat.le_of_ble_eq_true rfl) hc0 hs0 ?_
  refine zL_aload_n dL_1366 rfl 2 rfl ?_
  refine zL_aload_n dL_1367 rfl 0 rfl ?_
  refine zL_iload_n dL_1368 rfl 3 rfl ?_
  refine zL_iconst (v := (1 : Int32)) dL_1369 (by decide) ?_
  refine zL_iadd dL_1370 ?_
  refine zL_sld dL_1371 hv1 ?_
  refine zL_aload_n dL_1372 rfl 0 rfl ?_
  refine zL_iload_n dL_1373 rfl 3 rfl ?_
  refine zL_iconst (v := (2 : Int32)) dL_1374 (by decide) ?_
  refine zL_iadd dL_1375 ?_
  refine zL_sld dL_1376 hv2 ?_
  refine zL_aload_n dL_1377 rfl 0 rfl ?_
  refine zL_iload_n dL_1378 rfl 3 rfl ?_
  refine zL_iconst (v := (3 : Int32)) dL_1379 (by decide) ?_
  refine zL_iadd dL_1380 ?_
  refine zL_sld dL_1381 hv3 ?_
  refine zL_i2l dL_1382 ?_
  refine zL_bipush (v := (32 : Int32)) dL_1383 (by decide) ?_
  refine zL_lshl dL_1385 ?_
  refine zL_aload_n dL_1386 rfl 0 rfl ?_
  refine zL_iload_n dL_1387 rfl 3 rfl ?_
  refine zL_iconst (v := (4 : Int32)) dL_1388 (by decide) ?_
  refine zL_iadd dL_1389 ?_
  refine zL_sld dL_1390 hv4 ?_
  refine zL_i2l dL_1391 ?_
  refine zL_ldc2 (v := (4294967295 : Int64)) dL_1392 kcL_160 ?_
  refine zL_land dL_1395 ?_
  refine zL_lor dL_1396 ?_
  refine zL_mod_jW (rest := [.long r]) (fun A hN => k_X12_write (l := l) hN _ _ _ _) hM dL_1397 lvL_181 okL_X12_write rfl (Nat.le_of_ble_eq_true rfl) rfl rfl (Nat.le_of_ble_eq_true rfl) hc0 hs0 ?_
  refine zL_leqT (tgt := 1498) dL_1400 dL_1401 (by decide) ?_
  exact zL_widen (by omega) (by omega) (K n m1 n1 hI)
theorem zL_case39 (hop : zL_op39 PI) (hrf : zL_refs PI) (hc : cs + 14 ≤ 600000) (hs : sl + 1066 ≤ 7302250) (hv1 : vp_in (iv + 1) L) (hv2 : vp_in (iv + 2) L) (hv3 : vp_in (iv + 3) L) (hv4 : vp_in (iv + 4) L) (hv5 : vp_in (iv + 5) L) (hPI : PI n μ ν) (K : ∀ n' μ' ν', PI n' μ' ν' → zL l E b L xs A1 A2 a2 h1 (cs + 14) (sl + 1066) 1498 [(0, .ref b), (1, .ref h1), (2, .ref (a2 0)), (3, .int iv)] [] n' μ' ν') : zL l E b L xs A1 A2 a2 h1 cs sl 1406 [(0, .ref b), (1, .ref h1), (2, .ref (a2 0)), (3, .int iv)] [] n μ ν := by
  have hn7 : 107 ≤ n := by have h := (hrf n μ ν hPI).1; omega
  have hc0 : cs ≤ 600000 := by omega
  have hs0 : sl ≤ 7302250 := by omega
  refine zL_aload_n dL_1406 rfl 1 rfl ?_
  refine zL_aload_n dL_1407 rfl 0 rfl ?_
  refine zL_iload_n dL_1408 rfl 3 rfl ?_
  refine zL_iconst (v := (1 : Int32)) dL_1409 (by decide) ?_
  refine zL_iadd dL_1410 ?_
  refine zL_sld dL_1411 hv1 ?_
  obtain ⟨r, m1, n1, hC, hM, hI⟩ := hop n μ ν ((xs (iv + (1 : Int32)).toNatClampNeg)) hPI
  refine zL_cls_iW (rest := []) (fun a A hN => k_X11_lists (l := l) hN _ _) hn7 hC dL_1412 lvL_182 okL_X11_lists rfl (Nat.le_of_ble_eq_true rfl) rfl rfl (Nat.le_of_ble_eq_true rfl) hc0 hs0 ?_
  refine zL_aload_n dL_1415 rfl 2 rfl ?_
  refine zL_aload_n dL_1416 rfl 0 rfl ?_
  refine zL_iload_n dL_1417 rfl 3 rfl ?_
  refine zL_iconst (v := (1 : Int32)) dL_1418 (by decide) ?_
  refine zL_iadd dL_1419 ?_
  refine zL_sld dL_1420 hv1 ?_
  refine zL_mod_iW (rest := [.int r]) (fun A hN => k_X12_lists (l := l) hN _ _) hM dL_1421 lvL_185 okL_X12_lists rfl (Nat.le_of_ble_eq_true rfl) rfl rfl (Nat.le_of_ble_eq_true rfl) hc0 hs0 ?_
  refine zL_eqT (tgt := 1498) dL_1424 (by decide) ?_
  exact zL_widen (by omega) (by omega) (K n m1 n1 hI)
theorem zL_case40 (hop : zL_op40 PI) (hrf : zL_refs PI) (hc : cs + 14 ≤ 600000) (hs : sl + 1066 ≤ 7302250) (hv1 : vp_in (iv + 1) L) (hv2 : vp_in (iv + 2) L) (hv3 : vp_in (iv + 3) L) (hv4 : vp_in (iv + 4) L) (hv5 : vp_in (iv + 5) L) (hPI : PI n μ ν) (K : ∀ n' μ' ν', PI n' μ' ν' → zL l E b L xs A1 A2 a2 h1 (cs + 14) (sl + 1066) 1498 [(0, .ref b), (1, .ref h1), (2, .ref (a2 0)), (3, .int iv)] [] n' μ' ν') : zL l E b L xs A1 A2 a2 h1 cs sl 1429 [(0, .ref b), (1, .ref h1), (2, .ref (a2 0)), (3, .int iv)] [] n μ ν := by
  have hn7 : 107 ≤ n := by have h := (hrf n μ ν hPI).1; omega
  have hc0 : cs ≤ 600000 := by omega
  have hs0 : sl ≤ 7302250 := by omega
  refine zL_aload_n dL_1429 rfl 1 rfl ?_
  refine zL_aload_n dL_1430 rfl 0 rfl ?_
  refine zL_iload_n dL_1431 rfl 3 rfl ?_
  refine zL_iconst (v := (1 : Int32)) dL_1432 (by decide) ?_
  refine zL_iadd dL_1433 ?_
  refine zL_sld dL_1434 hv1 ?_
  rcases hop n μ ν ((xs (iv + (1 : Int32)).toNatClampNeg)) hPI with ⟨r, m1, n1, hC, hM, hI⟩ | ⟨hnn, g0, g2, gn, gi, m1, n1, hC, hM, hI⟩
  · refine zL_cls_iW (rest := []) (fun a A hN => k_X11_imageA (l := l) hN _ _ (zL_plan hrf hPI)) hn7 hC dL_1435 lvL_186 okL_X11_image rfl (Nat.le_of_ble_eq_true rfl) rfl rfl (Nat.le_of_ble_eq_true rfl) hc0 hs0 ?_
    refine zL_aload_n dL_1438 rfl 2 rfl ?_
    refine zL_aload_n dL_1439 rfl 0 rfl ?_
    refine zL_iload_n dL_1440 rfl 3 rfl ?_
    refine zL_iconst (v := (1 : Int32)) dL_1441 (by decide) ?_
    refine zL_iadd dL_1442 ?_
    refine zL_sld dL_1443 hv1 ?_
    refine zL_mod_iW (rest := [.int r]) (fun A hN => k_X12_image (l := l) hN _ _) hM dL_1444 lvL_189 okL_X12_image rfl (Nat.le_of_ble_eq_true rfl) rfl rfl (Nat.le_of_ble_eq_true rfl) hc0 hs0 ?_
    refine zL_eqT (tgt := 1498) dL_1447 (by decide) ?_
    exact zL_widen (by omega) (by omega) (K n m1 n1 hI)
  · rcases hnn with rfl | rfl
    · refine zL_img107 g0 g2 rfl gi gn (fun j o h => by have := (hrf _ μ ν hPI).2.1 j o h; omega) (fun o h => by have := (hrf _ μ ν hPI).2.2 o h; omega) hC dL_1435 (Nat.le_of_ble_eq_true rfl) hc hs ?_
      refine zL_aload_n dL_1438 rfl 2 rfl ?_
      refine zL_aload_n dL_1439 rfl 0 rfl ?_
      refine zL_iload_n dL_1440 rfl 3 rfl ?_
      refine zL_iconst (v := (1 : Int32)) dL_1441 (by decide) ?_
      refine zL_iadd dL_1442 ?_
      refine zL_sld dL_1443 hv1 ?_
      refine zL_mod_iW (rest := [.int 0]) (fun A hN => k_X12_image (l := l) hN _ _) hM dL_1444 lvL_189 okL_X12_image rfl (Nat.le_of_ble_eq_true rfl) rfl rfl (Nat.le_of_ble_eq_true rfl) hc hs ?_
      refine zL_eqT (tgt := 1498) dL_1447 (by decide) ?_
      exact K 121 m1 n1 hI
    · refine zL_img121 g0 g2 rfl gi gn (fun j o h => by have := (hrf _ μ ν hPI).2.1 j o h; omega) (fun o h => by have := (hrf _ μ ν hPI).2.2 o h; omega) hC dL_1435 (Nat.le_of_ble_eq_true rfl) hc hs ?_
      refine zL_aload_n dL_1438 rfl 2 rfl ?_
      refine zL_aload_n dL_1439 rfl 0 rfl ?_
      refine zL_iload_n dL_1440 rfl 3 rfl ?_
      refine zL_iconst (v := (1 : Int32)) dL_1441 (by decide) ?_
      refine zL_iadd dL_1442 ?_
      refine zL_sld dL_1443 hv1 ?_
      refine zL_mod_iW (rest := [.int 0]) (fun A hN => k_X12_image (l := l) hN _ _) hM dL_1444 lvL_189 okL_X12_image rfl (Nat.le_of_ble_eq_true rfl) rfl rfl (Nat.le_of_ble_eq_true rfl) hc hs ?_
      refine zL_eqT (tgt := 1498) dL_1447 (by decide) ?_
      exact K 135 m1 n1 hI
theorem zL_case41 (hop : zL_op41 PI) (hrf : zL_refs PI) (hc : cs + 14 ≤ 600000) (hs : sl + 1066 ≤ 7302250) (hv1 : vp_in (iv + 1) L) (hv2 : vp_in (iv + 2) L) (hv3 : vp_in (iv + 3) L) (hv4 : vp_in (iv + 4) L) (hv5 : vp_in (iv + 5) L) (hPI : PI n μ ν) (K : ∀ n' μ' ν', PI n' μ' ν' → zL l E b L xs A1 A2 a2 h1 (cs + 14) (sl + 1066) 1498 [(0, .ref b), (1, .ref h1), (2, .ref (a2 0)), (3, .int iv)] [] n' μ' ν') : zL l E b L xs A1 A2 a2 h1 cs sl 1452 [(0, .ref b), (1, .ref h1), (2, .ref (a2 0)), (3, .int iv)] [] n μ ν := by
  have hn7 : 107 ≤ n := by have h := (hrf n μ ν hPI).1; omega
  have hc0 : cs ≤ 600000 := by omega
  have hs0 : sl ≤ 7302250 := by omega
  refine zL_aload_n dL_1452 rfl 1 rfl ?_
  refine zL_aload_n dL_1453 rfl 0 rfl ?_
  refine zL_iload_n dL_1454 rfl 3 rfl ?_
  refine zL_iconst (v := (1 : Int32)) dL_1455 (by decide) ?_
  refine zL_iadd dL_1456 ?_
  refine zL_sld dL_1457 hv1 ?_
  obtain ⟨r, m1, n1, hC, hM, hI⟩ := hop n μ ν ((xs (iv + (1 : Int32)).toNatClampNeg)) hPI
  refine zL_cls_iW (rest := []) (fun a A hN => k_X11_restore (l := l) hN _ _ (zL_plan hrf hPI)) hn7 hC dL_1458 lvL_190 okL_X11_restore rfl (Nat.le_of_ble_eq_true rfl) rfl rfl (Nat.le_of_ble_eq_true rfl) hc0 hs0 ?_
  refine zL_aload_n dL_1461 rfl 2 rfl ?_
  refine zL_aload_n dL_1462 rfl 0 rfl ?_
  refine zL_iload_n dL_1463 rfl 3 rfl ?_
  refine zL_iconst (v := (1 : Int32)) dL_1464 (by decide) ?_
  refine zL_iadd dL_1465 ?_
  refine zL_sld dL_1466 hv1 ?_
  refine zL_mod_iW (rest := [.int r]) (fun A hN => k_X12_restore (l := l) hN _ _) hM dL_1467 lvL_193 okL_X12_restore rfl (Nat.le_of_ble_eq_true rfl) rfl rfl (Nat.le_of_ble_eq_true rfl) hc0 hs0 ?_
  refine zL_eqT (tgt := 1498) dL_1470 (by decide) ?_
  exact zL_widen (by omega) (by omega) (K n m1 n1 hI)
theorem zL_case42 (hop : zL_op42 PI) (hrf : zL_refs PI) (hc : cs + 14 ≤ 600000) (hs : sl + 1066 ≤ 7302250) (hv1 : vp_in (iv + 1) L) (hv2 : vp_in (iv + 2) L) (hv3 : vp_in (iv + 3) L) (hv4 : vp_in (iv + 4) L) (hv5 : vp_in (iv + 5) L) (hPI : PI n μ ν) (K : ∀ n' μ' ν', PI n' μ' ν' → zL l E b L xs A1 A2 a2 h1 (cs + 14) (sl + 1066) 1498 [(0, .ref b), (1, .ref h1), (2, .ref (a2 0)), (3, .int iv)] [] n' μ' ν') : zL l E b L xs A1 A2 a2 h1 cs sl 1475 [(0, .ref b), (1, .ref h1), (2, .ref (a2 0)), (3, .int iv)] [] n μ ν := by
  have hn7 : 107 ≤ n := by have h := (hrf n μ ν hPI).1; omega
  have hc0 : cs ≤ 600000 := by omega
  have hs0 : sl ≤ 7302250 := by omega
  refine zL_aload_n dL_1475 rfl 1 rfl ?_
  refine zL_aload_n dL_1476 rfl 0 rfl ?_
  refine zL_iload_n dL_1477 rfl 3 rfl ?_
  refine zL_iconst (v := (1 : Int32)) dL_1478 (by decide) ?_
  refine zL_iadd dL_1479 ?_
  refine zL_sld dL_1480 hv1 ?_
  obtain ⟨r, n1, hC, hM, hI⟩ := hop n μ ν ((xs (iv + (1 : Int32)).toNatClampNeg)) hPI
  refine zL_cls_iR (rest := []) (fun a A hN => k_X11_count (l := l) hN _ _) hn7 hC dL_1481 lvL_194 okL_X11_count rfl (Nat.le_of_ble_eq_true rfl) rfl rfl (Nat.le_of_ble_eq_true rfl) hc0 hs0 ?_
  refine zL_aload_n dL_1484 rfl 2 rfl ?_
  refine zL_aload_n dL_1485 rfl 0 rfl ?_
  refine zL_iload_n dL_1486 rfl 3 rfl ?_
  refine zL_iconst (v := (1 : Int32)) dL_1487 (by decide) ?_
  refine zL_iadd dL_1488 ?_
  refine zL_sld dL_1489 hv1 ?_
  refine zL_mod_iW (rest := [.int r]) (fun A hN => k_X12_count (l := l) hN _ _) hM dL_1490 lvL_197 okL_X12_count rfl (Nat.le_of_ble_eq_true rfl) rfl rfl (Nat.le_of_ble_eq_true rfl) hc0 hs0 ?_
  refine zL_eqT (tgt := 1498) dL_1493 (by decide) ?_
  exact zL_widen (by omega) (by omega) (K n μ n1 hI)
end ZLC
