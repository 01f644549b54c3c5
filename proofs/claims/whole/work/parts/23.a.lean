/-! The law's body: its instructions. -/
set_option maxRecDepth 100000
theorem dLaw_law_0 : decode cLaw_law 0 = .ok (.new 8, 3) := by decide +kernel
theorem dLaw_law_3 : decode cLaw_law 3 = .ok (.dup, 1) := by decide +kernel
theorem dLaw_law_4 : decode cLaw_law 4 = .ok (.invokespecial 186, 3) := by decide +kernel
theorem dLaw_law_7 : decode cLaw_law 7 = .ok (.astore_n 1, 1) := by decide +kernel
theorem dLaw_law_8 : decode cLaw_law 8 = .ok (.new 187, 3) := by decide +kernel
theorem dLaw_law_11 : decode cLaw_law 11 = .ok (.dup, 1) := by decide +kernel
theorem dLaw_law_12 : decode cLaw_law 12 = .ok (.invokespecial 189, 3) := by decide +kernel
theorem dLaw_law_15 : decode cLaw_law 15 = .ok (.astore_n 2, 1) := by decide +kernel
theorem dLaw_law_16 : decode cLaw_law 16 = .ok (.iconst 1, 1) := by decide +kernel
theorem dLaw_law_17 : decode cLaw_law 17 = .ok (.newarray .long, 2) := by decide +kernel
theorem dLaw_law_19 : decode cLaw_law 19 = .ok (.astore_n 3, 1) := by decide +kernel
theorem dLaw_law_20 : decode cLaw_law 20 = .ok (.iconst 1, 1) := by decide +kernel
theorem dLaw_law_21 : decode cLaw_law 21 = .ok (.newarray .double, 2) := by decide +kernel
theorem dLaw_law_23 : decode cLaw_law 23 = .ok (.astore 4, 2) := by decide +kernel
theorem dLaw_law_25 : decode cLaw_law 25 = .ok (.iconst 0, 1) := by decide +kernel
theorem dLaw_law_26 : decode cLaw_law 26 = .ok (.istore 5, 2) := by decide +kernel
theorem dLaw_law_28 : decode cLaw_law 28 = .ok (.iload 5, 2) := by decide +kernel
theorem dLaw_law_30 : decode cLaw_law 30 = .ok (.aload_n 0, 1) := by decide +kernel
theorem dLaw_law_31 : decode cLaw_law 31 = .ok (.arraylength, 1) := by decide +kernel
theorem dLaw_law_32 : decode cLaw_law 32 = .ok (.iconst 5, 1) := by decide +kernel
theorem dLaw_law_33 : decode cLaw_law 33 = .ok (.isub, 1) := by decide +kernel
theorem dLaw_law_34 : decode cLaw_law 34 = .ok (.if_icmp .gt 3184, 3) := by decide +kernel
theorem dLaw_law_37 : decode cLaw_law 37 = .ok (.aload_n 0, 1) := by decide +kernel
theorem dLaw_law_38 : decode cLaw_law 38 = .ok (.iload 5, 2) := by decide +kernel
theorem dLaw_law_40 : decode cLaw_law 40 = .ok (.iaload, 1) := by decide +kernel
theorem dLaw_law_41 : decode cLaw_law 41 = .ok (.bipush 63, 2) := by decide +kernel
theorem dLaw_law_43 : decode cLaw_law 43 = .ok (.iand, 1) := by decide +kernel
theorem dLaw_law_44 : decode cLaw_law 44 = .ok (.tableswitch 3168 0 53 #[232, 290, 303, 347, 419, 487, 569, 651, 745, 813, 881, 949, 1005, 1073, 1129, 1173, 1217, 1273, 1336, 1392, 1443, 1487, 1531, 1575, 1631, 1687, 1743, 1811, 1855, 1911, 1955, 1999, 2062, 2106, 2162, 2218, 2286, 2342, 2398, 2454, 2517, 2573, 2586, 2642, 2655, 2725, 2781, 2825, 2881, 2925, 2981, 3024, 3090, 3155], 232) := by decide +kernel
theorem dLaw_law_276 : decode cLaw_law 276 = .ok (.aload_n 1, 1) := by decide +kernel
theorem dLaw_law_277 : decode cLaw_law 277 = .ok (.aload_n 0, 1) := by decide +kernel
theorem dLaw_law_278 : decode cLaw_law 278 = .ok (.iload 5, 2) := by decide +kernel
theorem dLaw_law_280 : decode cLaw_law 280 = .ok (.iconst 1, 1) := by decide +kernel
theorem dLaw_law_281 : decode cLaw_law 281 = .ok (.iadd, 1) := by decide +kernel
theorem dLaw_law_282 : decode cLaw_law 282 = .ok (.iaload, 1) := by decide +kernel
theorem dLaw_law_283 : decode cLaw_law 283 = .ok (.i2c, 1) := by decide +kernel
theorem dLaw_law_284 : decode cLaw_law 284 = .ok (.aload_n 3, 1) := by decide +kernel
theorem dLaw_law_285 : decode cLaw_law 285 = .ok (.invokestatic 190, 3) := by decide +kernel
theorem dLaw_law_288 : decode cLaw_law 288 = .ok (.istore 6, 2) := by decide +kernel
theorem dLaw_law_290 : decode cLaw_law 290 = .ok (.aload_n 2, 1) := by decide +kernel
theorem dLaw_law_291 : decode cLaw_law 291 = .ok (.aload_n 0, 1) := by decide +kernel
theorem dLaw_law_292 : decode cLaw_law 292 = .ok (.iload 5, 2) := by decide +kernel
theorem dLaw_law_294 : decode cLaw_law 294 = .ok (.iconst 1, 1) := by decide +kernel
theorem dLaw_law_295 : decode cLaw_law 295 = .ok (.iadd, 1) := by decide +kernel
theorem dLaw_law_296 : decode cLaw_law 296 = .ok (.iaload, 1) := by decide +kernel
theorem dLaw_law_297 : decode cLaw_law 297 = .ok (.i2c, 1) := by decide +kernel
theorem dLaw_law_298 : decode cLaw_law 298 = .ok (.invokevirtual 195, 3) := by decide +kernel
theorem dLaw_law_301 : decode cLaw_law 301 = .ok (.istore 7, 2) := by decide +kernel
theorem dLaw_law_303 : decode cLaw_law 303 = .ok (.aload_n 2, 1) := by decide +kernel
theorem dLaw_law_304 : decode cLaw_law 304 = .ok (.invokevirtual 196, 3) := by decide +kernel
theorem dLaw_law_307 : decode cLaw_law 307 = .ok (.iload 6, 2) := by decide +kernel
theorem dLaw_law_309 : decode cLaw_law 309 = .ok (.if_icmp .eq 5, 3) := by decide +kernel
theorem dLaw_law_312 : decode cLaw_law 312 = .ok (.iconst 0, 1) := by decide +kernel
theorem dLaw_law_313 : decode cLaw_law 313 = .ok (.ireturn, 1) := by decide +kernel
theorem dLaw_law_314 : decode cLaw_law 314 = .ok (.iload 6, 2) := by decide +kernel
theorem dLaw_law_316 : decode cLaw_law 316 = .ok (.ifCond .ne 15, 3) := by decide +kernel
theorem dLaw_law_319 : decode cLaw_law 319 = .ok (.aload_n 3, 1) := by decide +kernel
theorem dLaw_law_320 : decode cLaw_law 320 = .ok (.iconst 0, 1) := by decide +kernel
theorem dLaw_law_321 : decode cLaw_law 321 = .ok (.laload, 1) := by decide +kernel
theorem dLaw_law_322 : decode cLaw_law 322 = .ok (.iload 7, 2) := by decide +kernel
theorem dLaw_law_324 : decode cLaw_law 324 = .ok (.i2l, 1) := by decide +kernel
theorem dLaw_law_325 : decode cLaw_law 325 = .ok (.lcmp, 1) := by decide +kernel
theorem dLaw_law_326 : decode cLaw_law 326 = .ok (.ifCond .eq 5, 3) := by decide +kernel
theorem dLaw_law_329 : decode cLaw_law 329 = .ok (.iconst 0, 1) := by decide +kernel
theorem dLaw_law_330 : decode cLaw_law 330 = .ok (.ireturn, 1) := by decide +kernel
theorem dLaw_law_331 : decode cLaw_law 331 = .ok (.goto 2881, 3) := by decide +kernel
theorem dLaw_law_334 : decode cLaw_law 334 = .ok (.aload_n 1, 1) := by decide +kernel
theorem dLaw_law_335 : decode cLaw_law 335 = .ok (.invokevirtual 199, 3) := by decide +kernel
theorem dLaw_law_338 : decode cLaw_law 338 = .ok (.aload_n 2, 1) := by decide +kernel
theorem dLaw_law_339 : decode cLaw_law 339 = .ok (.invokevirtual 202, 3) := by decide +kernel
theorem dLaw_law_342 : decode cLaw_law 342 = .ok (.if_icmp .eq 2870, 3) := by decide +kernel
theorem dLaw_law_345 : decode cLaw_law 345 = .ok (.iconst 0, 1) := by decide +kernel
theorem dLaw_law_346 : decode cLaw_law 346 = .ok (.ireturn, 1) := by decide +kernel
theorem dLaw_law_347 : decode cLaw_law 347 = .ok (.aload_n 1, 1) := by decide +kernel
theorem dLaw_law_348 : decode cLaw_law 348 = .ok (.aload_n 3, 1) := by decide +kernel
theorem dLaw_law_349 : decode cLaw_law 349 = .ok (.invokestatic 203, 3) := by decide +kernel
theorem dLaw_law_352 : decode cLaw_law 352 = .ok (.istore 6, 2) := by decide +kernel
theorem dLaw_law_354 : decode cLaw_law 354 = .ok (.aload_n 2, 1) := by decide +kernel
theorem dLaw_law_355 : decode cLaw_law 355 = .ok (.invokevirtual 206, 3) := by decide +kernel
theorem dLaw_law_358 : decode cLaw_law 358 = .ok (.istore 7, 2) := by decide +kernel
theorem dLaw_law_360 : decode cLaw_law 360 = .ok (.aload_n 2, 1) := by decide +kernel
theorem dLaw_law_361 : decode cLaw_law 361 = .ok (.invokevirtual 196, 3) := by decide +kernel
theorem dLaw_law_364 : decode cLaw_law 364 = .ok (.iload 6, 2) := by decide +kernel
theorem dLaw_law_366 : decode cLaw_law 366 = .ok (.if_icmp .eq 5, 3) := by decide +kernel
theorem dLaw_law_369 : decode cLaw_law 369 = .ok (.iconst 0, 1) := by decide +kernel
theorem dLaw_law_370 : decode cLaw_law 370 = .ok (.ireturn, 1) := by decide +kernel
theorem dLaw_law_371 : decode cLaw_law 371 = .ok (.iload 6, 2) := by decide +kernel
theorem dLaw_law_373 : decode cLaw_law 373 = .ok (.ifCond .ne 15, 3) := by decide +kernel
theorem dLaw_law_376 : decode cLaw_law 376 = .ok (.aload_n 3, 1) := by decide +kernel
theorem dLaw_law_377 : decode cLaw_law 377 = .ok (.iconst 0, 1) := by decide +kernel
theorem dLaw_law_378 : decode cLaw_law 378 = .ok (.laload, 1) := by decide +kernel
theorem dLaw_law_379 : decode cLaw_law 379 = .ok (.iload 7, 2) := by decide +kernel
theorem dLaw_law_381 : decode cLaw_law 381 = .ok (.i2l, 1) := by decide +kernel
theorem dLaw_law_382 : decode cLaw_law 382 = .ok (.lcmp, 1) := by decide +kernel
theorem dLaw_law_383 : decode cLaw_law 383 = .ok (.ifCond .eq 5, 3) := by decide +kernel
theorem dLaw_law_386 : decode cLaw_law 386 = .ok (.iconst 0, 1) := by decide +kernel
theorem dLaw_law_387 : decode cLaw_law 387 = .ok (.ireturn, 1) := by decide +kernel
theorem dLaw_law_388 : decode cLaw_law 388 = .ok (.goto 2824, 3) := by decide +kernel
theorem dLaw_law_391 : decode cLaw_law 391 = .ok (.aload_n 1, 1) := by decide +kernel
theorem dLaw_law_392 : decode cLaw_law 392 = .ok (.aload_n 0, 1) := by decide +kernel
theorem dLaw_law_393 : decode cLaw_law 393 = .ok (.iload 5, 2) := by decide +kernel
theorem dLaw_law_395 : decode cLaw_law 395 = .ok (.iconst 1, 1) := by decide +kernel
theorem dLaw_law_396 : decode cLaw_law 396 = .ok (.iadd, 1) := by decide +kernel
theorem dLaw_law_397 : decode cLaw_law 397 = .ok (.iaload, 1) := by decide +kernel
theorem dLaw_law_398 : decode cLaw_law 398 = .ok (.ifCond .eq 7, 3) := by decide +kernel
theorem dLaw_law_401 : decode cLaw_law 401 = .ok (.iconst 1, 1) := by decide +kernel
theorem dLaw_law_402 : decode cLaw_law 402 = .ok (.goto 4, 3) := by decide +kernel
theorem dLaw_law_405 : decode cLaw_law 405 = .ok (.iconst 0, 1) := by decide +kernel
theorem dLaw_law_406 : decode cLaw_law 406 = .ok (.aload_n 3, 1) := by decide +kernel
theorem dLaw_law_407 : decode cLaw_law 407 = .ok (.invokestatic 207, 3) := by decide +kernel
theorem dLaw_law_410 : decode cLaw_law 410 = .ok (.istore 6, 2) := by decide +kernel
theorem dLaw_law_412 : decode cLaw_law 412 = .ok (.aload_n 2, 1) := by decide +kernel
theorem dLaw_law_413 : decode cLaw_law 413 = .ok (.aload_n 0, 1) := by decide +kernel
theorem dLaw_law_414 : decode cLaw_law 414 = .ok (.iload 5, 2) := by decide +kernel
theorem dLaw_law_416 : decode cLaw_law 416 = .ok (.iconst 1, 1) := by decide +kernel
theorem dLaw_law_417 : decode cLaw_law 417 = .ok (.iadd, 1) := by decide +kernel
theorem dLaw_law_418 : decode cLaw_law 418 = .ok (.iaload, 1) := by decide +kernel
theorem dLaw_law_419 : decode cLaw_law 419 = .ok (.ifCond .eq 7, 3) := by decide +kernel
theorem dLaw_law_422 : decode cLaw_law 422 = .ok (.iconst 1, 1) := by decide +kernel
theorem dLaw_law_423 : decode cLaw_law 423 = .ok (.goto 4, 3) := by decide +kernel
theorem dLaw_law_426 : decode cLaw_law 426 = .ok (.iconst 0, 1) := by decide +kernel
theorem dLaw_law_427 : decode cLaw_law 427 = .ok (.invokevirtual 210, 3) := by decide +kernel
theorem dLaw_law_430 : decode cLaw_law 430 = .ok (.istore 7, 2) := by decide +kernel
theorem dLaw_law_432 : decode cLaw_law 432 = .ok (.aload_n 2, 1) := by decide +kernel
theorem dLaw_law_433 : decode cLaw_law 433 = .ok (.invokevirtual 196, 3) := by decide +kernel
theorem dLaw_law_436 : decode cLaw_law 436 = .ok (.iload 6, 2) := by decide +kernel
theorem dLaw_law_438 : decode cLaw_law 438 = .ok (.if_icmp .eq 5, 3) := by decide +kernel
theorem dLaw_law_441 : decode cLaw_law 441 = .ok (.iconst 0, 1) := by decide +kernel
theorem dLaw_law_442 : decode cLaw_law 442 = .ok (.ireturn, 1) := by decide +kernel
theorem dLaw_law_443 : decode cLaw_law 443 = .ok (.iload 6, 2) := by decide +kernel
theorem dLaw_law_445 : decode cLaw_law 445 = .ok (.ifCond .ne 15, 3) := by decide +kernel
theorem dLaw_law_448 : decode cLaw_law 448 = .ok (.aload_n 3, 1) := by decide +kernel
theorem dLaw_law_449 : decode cLaw_law 449 = .ok (.iconst 0, 1) := by decide +kernel
theorem dLaw_law_450 : decode cLaw_law 450 = .ok (.laload, 1) := by decide +kernel
theorem dLaw_law_451 : decode cLaw_law 451 = .ok (.iload 7, 2) := by decide +kernel
theorem dLaw_law_453 : decode cLaw_law 453 = .ok (.i2l, 1) := by decide +kernel
theorem dLaw_law_454 : decode cLaw_law 454 = .ok (.lcmp, 1) := by decide +kernel
theorem dLaw_law_455 : decode cLaw_law 455 = .ok (.ifCond .eq 5, 3) := by decide +kernel
theorem dLaw_law_458 : decode cLaw_law 458 = .ok (.iconst 0, 1) := by decide +kernel
theorem dLaw_law_459 : decode cLaw_law 459 = .ok (.ireturn, 1) := by decide +kernel
theorem dLaw_law_460 : decode cLaw_law 460 = .ok (.goto 2752, 3) := by decide +kernel
theorem dLaw_law_463 : decode cLaw_law 463 = .ok (.aload_n 1, 1) := by decide +kernel
theorem dLaw_law_464 : decode cLaw_law 464 = .ok (.aload_n 0, 1) := by decide +kernel
theorem dLaw_law_465 : decode cLaw_law 465 = .ok (.iload 5, 2) := by decide +kernel
theorem dLaw_law_467 : decode cLaw_law 467 = .ok (.iconst 1, 1) := by decide +kernel
theorem dLaw_law_468 : decode cLaw_law 468 = .ok (.iadd, 1) := by decide +kernel
theorem dLaw_law_469 : decode cLaw_law 469 = .ok (.iaload, 1) := by decide +kernel
theorem dLaw_law_470 : decode cLaw_law 470 = .ok (.aload_n 0, 1) := by decide +kernel
theorem dLaw_law_471 : decode cLaw_law 471 = .ok (.iload 5, 2) := by decide +kernel
theorem dLaw_law_473 : decode cLaw_law 473 = .ok (.iconst 2, 1) := by decide +kernel
theorem dLaw_law_474 : decode cLaw_law 474 = .ok (.iadd, 1) := by decide +kernel
theorem dLaw_law_475 : decode cLaw_law 475 = .ok (.iaload, 1) := by decide +kernel
theorem dLaw_law_476 : decode cLaw_law 476 = .ok (.aload_n 3, 1) := by decide +kernel
theorem dLaw_law_477 : decode cLaw_law 477 = .ok (.invokestatic 211, 3) := by decide +kernel
theorem dLaw_law_480 : decode cLaw_law 480 = .ok (.istore 6, 2) := by decide +kernel
theorem dLaw_law_482 : decode cLaw_law 482 = .ok (.aload_n 2, 1) := by decide +kernel
theorem dLaw_law_483 : decode cLaw_law 483 = .ok (.aload_n 0, 1) := by decide +kernel
theorem dLaw_law_484 : decode cLaw_law 484 = .ok (.iload 5, 2) := by decide +kernel
theorem dLaw_law_486 : decode cLaw_law 486 = .ok (.iconst 1, 1) := by decide +kernel
theorem dLaw_law_487 : decode cLaw_law 487 = .ok (.iadd, 1) := by decide +kernel
theorem dLaw_law_488 : decode cLaw_law 488 = .ok (.iaload, 1) := by decide +kernel
theorem dLaw_law_489 : decode cLaw_law 489 = .ok (.aload_n 0, 1) := by decide +kernel
theorem dLaw_law_490 : decode cLaw_law 490 = .ok (.iload 5, 2) := by decide +kernel
theorem dLaw_law_492 : decode cLaw_law 492 = .ok (.iconst 2, 1) := by decide +kernel
theorem dLaw_law_493 : decode cLaw_law 493 = .ok (.iadd, 1) := by decide +kernel
theorem dLaw_law_494 : decode cLaw_law 494 = .ok (.iaload, 1) := by decide +kernel
theorem dLaw_law_495 : decode cLaw_law 495 = .ok (.invokevirtual 214, 3) := by decide +kernel
theorem dLaw_law_498 : decode cLaw_law 498 = .ok (.istore 7, 2) := by decide +kernel
theorem dLaw_law_500 : decode cLaw_law 500 = .ok (.aload_n 2, 1) := by decide +kernel
theorem dLaw_law_501 : decode cLaw_law 501 = .ok (.invokevirtual 196, 3) := by decide +kernel
theorem dLaw_law_504 : decode cLaw_law 504 = .ok (.iload 6, 2) := by decide +kernel
theorem dLaw_law_506 : decode cLaw_law 506 = .ok (.if_icmp .eq 5, 3) := by decide +kernel
theorem dLaw_law_509 : decode cLaw_law 509 = .ok (.iconst 0, 1) := by decide +kernel
theorem dLaw_law_510 : decode cLaw_law 510 = .ok (.ireturn, 1) := by decide +kernel
theorem dLaw_law_511 : decode cLaw_law 511 = .ok (.iload 6, 2) := by decide +kernel
theorem dLaw_law_513 : decode cLaw_law 513 = .ok (.ifCond .ne 15, 3) := by decide +kernel
theorem dLaw_law_516 : decode cLaw_law 516 = .ok (.aload_n 3, 1) := by decide +kernel
theorem dLaw_law_517 : decode cLaw_law 517 = .ok (.iconst 0, 1) := by decide +kernel
theorem dLaw_law_518 : decode cLaw_law 518 = .ok (.laload, 1) := by decide +kernel
theorem dLaw_law_519 : decode cLaw_law 519 = .ok (.iload 7, 2) := by decide +kernel
theorem dLaw_law_521 : decode cLaw_law 521 = .ok (.i2l, 1) := by decide +kernel
theorem dLaw_law_522 : decode cLaw_law 522 = .ok (.lcmp, 1) := by decide +kernel
theorem dLaw_law_523 : decode cLaw_law 523 = .ok (.ifCond .eq 5, 3) := by decide +kernel
theorem dLaw_law_526 : decode cLaw_law 526 = .ok (.iconst 0, 1) := by decide +kernel
theorem dLaw_law_527 : decode cLaw_law 527 = .ok (.ireturn, 1) := by decide +kernel
theorem dLaw_law_528 : decode cLaw_law 528 = .ok (.goto 2684, 3) := by decide +kernel
theorem dLaw_law_531 : decode cLaw_law 531 = .ok (.aload_n 1, 1) := by decide +kernel
theorem dLaw_law_532 : decode cLaw_law 532 = .ok (.aload_n 0, 1) := by decide +kernel
theorem dLaw_law_533 : decode cLaw_law 533 = .ok (.iload 5, 2) := by decide +kernel
theorem dLaw_law_535 : decode cLaw_law 535 = .ok (.iconst 1, 1) := by decide +kernel
theorem dLaw_law_536 : decode cLaw_law 536 = .ok (.iadd, 1) := by decide +kernel
theorem dLaw_law_537 : decode cLaw_law 537 = .ok (.iaload, 1) := by decide +kernel
theorem dLaw_law_538 : decode cLaw_law 538 = .ok (.aload_n 0, 1) := by decide +kernel
theorem dLaw_law_539 : decode cLaw_law 539 = .ok (.iload 5, 2) := by decide +kernel
theorem dLaw_law_541 : decode cLaw_law 541 = .ok (.iconst 2, 1) := by decide +kernel
theorem dLaw_law_542 : decode cLaw_law 542 = .ok (.iadd, 1) := by decide +kernel
theorem dLaw_law_543 : decode cLaw_law 543 = .ok (.iaload, 1) := by decide +kernel
theorem dLaw_law_544 : decode cLaw_law 544 = .ok (.i2c, 1) := by decide +kernel
theorem dLaw_law_545 : decode cLaw_law 545 = .ok (.aload_n 0, 1) := by decide +kernel
theorem dLaw_law_546 : decode cLaw_law 546 = .ok (.iload 5, 2) := by decide +kernel
theorem dLaw_law_548 : decode cLaw_law 548 = .ok (.iconst 3, 1) := by decide +kernel
theorem dLaw_law_549 : decode cLaw_law 549 = .ok (.iadd, 1) := by decide +kernel
theorem dLaw_law_550 : decode cLaw_law 550 = .ok (.iaload, 1) := by decide +kernel
theorem dLaw_law_551 : decode cLaw_law 551 = .ok (.aload_n 3, 1) := by decide +kernel
theorem dLaw_law_552 : decode cLaw_law 552 = .ok (.invokestatic 215, 3) := by decide +kernel
theorem dLaw_law_555 : decode cLaw_law 555 = .ok (.istore 6, 2) := by decide +kernel
theorem dLaw_law_557 : decode cLaw_law 557 = .ok (.aload_n 2, 1) := by decide +kernel
theorem dLaw_law_558 : decode cLaw_law 558 = .ok (.aload_n 0, 1) := by decide +kernel
theorem dLaw_law_559 : decode cLaw_law 559 = .ok (.iload 5, 2) := by decide +kernel
theorem dLaw_law_561 : decode cLaw_law 561 = .ok (.iconst 1, 1) := by decide +kernel
theorem dLaw_law_562 : decode cLaw_law 562 = .ok (.iadd, 1) := by decide +kernel
theorem dLaw_law_563 : decode cLaw_law 563 = .ok (.iaload, 1) := by decide +kernel
theorem dLaw_law_564 : decode cLaw_law 564 = .ok (.aload_n 0, 1) := by decide +kernel
theorem dLaw_law_565 : decode cLaw_law 565 = .ok (.iload 5, 2) := by decide +kernel
theorem dLaw_law_567 : decode cLaw_law 567 = .ok (.iconst 2, 1) := by decide +kernel
theorem dLaw_law_568 : decode cLaw_law 568 = .ok (.iadd, 1) := by decide +kernel
theorem dLaw_law_569 : decode cLaw_law 569 = .ok (.iaload, 1) := by decide +kernel
theorem dLaw_law_570 : decode cLaw_law 570 = .ok (.i2c, 1) := by decide +kernel
theorem dLaw_law_571 : decode cLaw_law 571 = .ok (.aload_n 0, 1) := by decide +kernel
theorem dLaw_law_572 : decode cLaw_law 572 = .ok (.iload 5, 2) := by decide +kernel
theorem dLaw_law_574 : decode cLaw_law 574 = .ok (.iconst 3, 1) := by decide +kernel
theorem dLaw_law_575 : decode cLaw_law 575 = .ok (.iadd, 1) := by decide +kernel
theorem dLaw_law_576 : decode cLaw_law 576 = .ok (.iaload, 1) := by decide +kernel
theorem dLaw_law_577 : decode cLaw_law 577 = .ok (.invokevirtual 218, 3) := by decide +kernel
theorem dLaw_law_580 : decode cLaw_law 580 = .ok (.istore 7, 2) := by decide +kernel
theorem dLaw_law_582 : decode cLaw_law 582 = .ok (.aload_n 2, 1) := by decide +kernel
theorem dLaw_law_583 : decode cLaw_law 583 = .ok (.invokevirtual 196, 3) := by decide +kernel
theorem dLaw_law_586 : decode cLaw_law 586 = .ok (.iload 6, 2) := by decide +kernel
theorem dLaw_law_588 : decode cLaw_law 588 = .ok (.if_icmp .eq 5, 3) := by decide +kernel
theorem dLaw_law_591 : decode cLaw_law 591 = .ok (.iconst 0, 1) := by decide +kernel
theorem dLaw_law_592 : decode cLaw_law 592 = .ok (.ireturn, 1) := by decide +kernel
theorem dLaw_law_593 : decode cLaw_law 593 = .ok (.iload 6, 2) := by decide +kernel
theorem dLaw_law_595 : decode cLaw_law 595 = .ok (.ifCond .ne 15, 3) := by decide +kernel
theorem dLaw_law_598 : decode cLaw_law 598 = .ok (.aload_n 3, 1) := by decide +kernel
theorem dLaw_law_599 : decode cLaw_law 599 = .ok (.iconst 0, 1) := by decide +kernel
theorem dLaw_law_600 : decode cLaw_law 600 = .ok (.laload, 1) := by decide +kernel
theorem dLaw_law_601 : decode cLaw_law 601 = .ok (.iload 7, 2) := by decide +kernel
theorem dLaw_law_603 : decode cLaw_law 603 = .ok (.i2l, 1) := by decide +kernel
theorem dLaw_law_604 : decode cLaw_law 604 = .ok (.lcmp, 1) := by decide +kernel
theorem dLaw_law_605 : decode cLaw_law 605 = .ok (.ifCond .eq 5, 3) := by decide +kernel
theorem dLaw_law_608 : decode cLaw_law 608 = .ok (.iconst 0, 1) := by decide +kernel
theorem dLaw_law_609 : decode cLaw_law 609 = .ok (.ireturn, 1) := by decide +kernel
theorem dLaw_law_610 : decode cLaw_law 610 = .ok (.goto 2602, 3) := by decide +kernel
theorem dLaw_law_613 : decode cLaw_law 613 = .ok (.aload_n 1, 1) := by decide +kernel
theorem dLaw_law_614 : decode cLaw_law 614 = .ok (.aload_n 0, 1) := by decide +kernel
theorem dLaw_law_615 : decode cLaw_law 615 = .ok (.iload 5, 2) := by decide +kernel
theorem dLaw_law_617 : decode cLaw_law 617 = .ok (.iconst 1, 1) := by decide +kernel
theorem dLaw_law_618 : decode cLaw_law 618 = .ok (.iadd, 1) := by decide +kernel
theorem dLaw_law_619 : decode cLaw_law 619 = .ok (.iaload, 1) := by decide +kernel
theorem dLaw_law_620 : decode cLaw_law 620 = .ok (.aload_n 0, 1) := by decide +kernel
theorem dLaw_law_621 : decode cLaw_law 621 = .ok (.iload 5, 2) := by decide +kernel
theorem dLaw_law_623 : decode cLaw_law 623 = .ok (.iconst 2, 1) := by decide +kernel
theorem dLaw_law_624 : decode cLaw_law 624 = .ok (.iadd, 1) := by decide +kernel
theorem dLaw_law_625 : decode cLaw_law 625 = .ok (.iaload, 1) := by decide +kernel
theorem dLaw_law_626 : decode cLaw_law 626 = .ok (.i2c, 1) := by decide +kernel
theorem dLaw_law_627 : decode cLaw_law 627 = .ok (.aload_n 0, 1) := by decide +kernel
theorem dLaw_law_628 : decode cLaw_law 628 = .ok (.iload 5, 2) := by decide +kernel
theorem dLaw_law_630 : decode cLaw_law 630 = .ok (.iconst 3, 1) := by decide +kernel
theorem dLaw_law_631 : decode cLaw_law 631 = .ok (.iadd, 1) := by decide +kernel
theorem dLaw_law_632 : decode cLaw_law 632 = .ok (.iaload, 1) := by decide +kernel
theorem dLaw_law_633 : decode cLaw_law 633 = .ok (.aload_n 3, 1) := by decide +kernel
theorem dLaw_law_634 : decode cLaw_law 634 = .ok (.invokestatic 219, 3) := by decide +kernel
theorem dLaw_law_637 : decode cLaw_law 637 = .ok (.istore 6, 2) := by decide +kernel
theorem dLaw_law_639 : decode cLaw_law 639 = .ok (.aload_n 2, 1) := by decide +kernel
theorem dLaw_law_640 : decode cLaw_law 640 = .ok (.aload_n 0, 1) := by decide +kernel
theorem dLaw_law_641 : decode cLaw_law 641 = .ok (.iload 5, 2) := by decide +kernel
theorem dLaw_law_643 : decode cLaw_law 643 = .ok (.iconst 1, 1) := by decide +kernel
theorem dLaw_law_644 : decode cLaw_law 644 = .ok (.iadd, 1) := by decide +kernel
theorem dLaw_law_645 : decode cLaw_law 645 = .ok (.iaload, 1) := by decide +kernel
theorem dLaw_law_646 : decode cLaw_law 646 = .ok (.aload_n 0, 1) := by decide +kernel
theorem dLaw_law_647 : decode cLaw_law 647 = .ok (.iload 5, 2) := by decide +kernel
theorem dLaw_law_649 : decode cLaw_law 649 = .ok (.iconst 2, 1) := by decide +kernel
theorem dLaw_law_650 : decode cLaw_law 650 = .ok (.iadd, 1) := by decide +kernel
theorem dLaw_law_651 : decode cLaw_law 651 = .ok (.iaload, 1) := by decide +kernel
theorem dLaw_law_652 : decode cLaw_law 652 = .ok (.i2c, 1) := by decide +kernel
theorem dLaw_law_653 : decode cLaw_law 653 = .ok (.aload_n 0, 1) := by decide +kernel
theorem dLaw_law_654 : decode cLaw_law 654 = .ok (.iload 5, 2) := by decide +kernel
theorem dLaw_law_656 : decode cLaw_law 656 = .ok (.iconst 3, 1) := by decide +kernel
theorem dLaw_law_657 : decode cLaw_law 657 = .ok (.iadd, 1) := by decide +kernel
theorem dLaw_law_658 : decode cLaw_law 658 = .ok (.iaload, 1) := by decide +kernel
theorem dLaw_law_659 : decode cLaw_law 659 = .ok (.invokevirtual 221, 3) := by decide +kernel
theorem dLaw_law_662 : decode cLaw_law 662 = .ok (.istore 7, 2) := by decide +kernel
theorem dLaw_law_664 : decode cLaw_law 664 = .ok (.aload_n 2, 1) := by decide +kernel
theorem dLaw_law_665 : decode cLaw_law 665 = .ok (.invokevirtual 196, 3) := by decide +kernel
theorem dLaw_law_668 : decode cLaw_law 668 = .ok (.iload 6, 2) := by decide +kernel
theorem dLaw_law_670 : decode cLaw_law 670 = .ok (.if_icmp .eq 5, 3) := by decide +kernel
theorem dLaw_law_673 : decode cLaw_law 673 = .ok (.iconst 0, 1) := by decide +kernel
theorem dLaw_law_674 : decode cLaw_law 674 = .ok (.ireturn, 1) := by decide +kernel
theorem dLaw_law_675 : decode cLaw_law 675 = .ok (.iload 6, 2) := by decide +kernel
theorem dLaw_law_677 : decode cLaw_law 677 = .ok (.ifCond .ne 15, 3) := by decide +kernel
theorem dLaw_law_680 : decode cLaw_law 680 = .ok (.aload_n 3, 1) := by decide +kernel
theorem dLaw_law_681 : decode cLaw_law 681 = .ok (.iconst 0, 1) := by decide +kernel
theorem dLaw_law_682 : decode cLaw_law 682 = .ok (.laload, 1) := by decide +kernel
theorem dLaw_law_683 : decode cLaw_law 683 = .ok (.iload 7, 2) := by decide +kernel
theorem dLaw_law_685 : decode cLaw_law 685 = .ok (.i2l, 1) := by decide +kernel
theorem dLaw_law_686 : decode cLaw_law 686 = .ok (.lcmp, 1) := by decide +kernel
theorem dLaw_law_687 : decode cLaw_law 687 = .ok (.ifCond .eq 5, 3) := by decide +kernel
theorem dLaw_law_690 : decode cLaw_law 690 = .ok (.iconst 0, 1) := by decide +kernel
theorem dLaw_law_691 : decode cLaw_law 691 = .ok (.ireturn, 1) := by decide +kernel
theorem dLaw_law_692 : decode cLaw_law 692 = .ok (.goto 2520, 3) := by decide +kernel
theorem dLaw_law_695 : decode cLaw_law 695 = .ok (.aload_n 1, 1) := by decide +kernel
theorem dLaw_law_696 : decode cLaw_law 696 = .ok (.aload_n 0, 1) := by decide +kernel
theorem dLaw_law_697 : decode cLaw_law 697 = .ok (.iload 5, 2) := by decide +kernel
theorem dLaw_law_699 : decode cLaw_law 699 = .ok (.iconst 1, 1) := by decide +kernel
theorem dLaw_law_700 : decode cLaw_law 700 = .ok (.iadd, 1) := by decide +kernel
theorem dLaw_law_701 : decode cLaw_law 701 = .ok (.iaload, 1) := by decide +kernel
theorem dLaw_law_702 : decode cLaw_law 702 = .ok (.aload_n 0, 1) := by decide +kernel
theorem dLaw_law_703 : decode cLaw_law 703 = .ok (.iload 5, 2) := by decide +kernel
theorem dLaw_law_705 : decode cLaw_law 705 = .ok (.iconst 2, 1) := by decide +kernel
theorem dLaw_law_706 : decode cLaw_law 706 = .ok (.iadd, 1) := by decide +kernel
theorem dLaw_law_707 : decode cLaw_law 707 = .ok (.iaload, 1) := by decide +kernel
theorem dLaw_law_708 : decode cLaw_law 708 = .ok (.aload_n 0, 1) := by decide +kernel
theorem dLaw_law_709 : decode cLaw_law 709 = .ok (.iload 5, 2) := by decide +kernel
theorem dLaw_law_711 : decode cLaw_law 711 = .ok (.iconst 3, 1) := by decide +kernel
theorem dLaw_law_712 : decode cLaw_law 712 = .ok (.iadd, 1) := by decide +kernel
theorem dLaw_law_713 : decode cLaw_law 713 = .ok (.iaload, 1) := by decide +kernel
theorem dLaw_law_714 : decode cLaw_law 714 = .ok (.aload_n 0, 1) := by decide +kernel
theorem dLaw_law_715 : decode cLaw_law 715 = .ok (.iload 5, 2) := by decide +kernel
theorem dLaw_law_717 : decode cLaw_law 717 = .ok (.iconst 4, 1) := by decide +kernel
theorem dLaw_law_718 : decode cLaw_law 718 = .ok (.iadd, 1) := by decide +kernel
theorem dLaw_law_719 : decode cLaw_law 719 = .ok (.iaload, 1) := by decide +kernel
theorem dLaw_law_720 : decode cLaw_law 720 = .ok (.i2c, 1) := by decide +kernel
theorem dLaw_law_721 : decode cLaw_law 721 = .ok (.aload_n 3, 1) := by decide +kernel
theorem dLaw_law_722 : decode cLaw_law 722 = .ok (.invokestatic 222, 3) := by decide +kernel
theorem dLaw_law_725 : decode cLaw_law 725 = .ok (.istore 6, 2) := by decide +kernel
theorem dLaw_law_727 : decode cLaw_law 727 = .ok (.aload_n 2, 1) := by decide +kernel
theorem dLaw_law_728 : decode cLaw_law 728 = .ok (.aload_n 0, 1) := by decide +kernel
theorem dLaw_law_729 : decode cLaw_law 729 = .ok (.iload 5, 2) := by decide +kernel
theorem dLaw_law_731 : decode cLaw_law 731 = .ok (.iconst 1, 1) := by decide +kernel
theorem dLaw_law_732 : decode cLaw_law 732 = .ok (.iadd, 1) := by decide +kernel
theorem dLaw_law_733 : decode cLaw_law 733 = .ok (.iaload, 1) := by decide +kernel
theorem dLaw_law_734 : decode cLaw_law 734 = .ok (.aload_n 0, 1) := by decide +kernel
theorem dLaw_law_735 : decode cLaw_law 735 = .ok (.iload 5, 2) := by decide +kernel
theorem dLaw_law_737 : decode cLaw_law 737 = .ok (.iconst 2, 1) := by decide +kernel
theorem dLaw_law_738 : decode cLaw_law 738 = .ok (.iadd, 1) := by decide +kernel
theorem dLaw_law_739 : decode cLaw_law 739 = .ok (.iaload, 1) := by decide +kernel
theorem dLaw_law_740 : decode cLaw_law 740 = .ok (.aload_n 0, 1) := by decide +kernel
theorem dLaw_law_741 : decode cLaw_law 741 = .ok (.iload 5, 2) := by decide +kernel
theorem dLaw_law_743 : decode cLaw_law 743 = .ok (.iconst 3, 1) := by decide +kernel
theorem dLaw_law_744 : decode cLaw_law 744 = .ok (.iadd, 1) := by decide +kernel
theorem dLaw_law_745 : decode cLaw_law 745 = .ok (.iaload, 1) := by decide +kernel
theorem dLaw_law_746 : decode cLaw_law 746 = .ok (.aload_n 0, 1) := by decide +kernel
theorem dLaw_law_747 : decode cLaw_law 747 = .ok (.iload 5, 2) := by decide +kernel
theorem dLaw_law_749 : decode cLaw_law 749 = .ok (.iconst 4, 1) := by decide +kernel
theorem dLaw_law_750 : decode cLaw_law 750 = .ok (.iadd, 1) := by decide +kernel
theorem dLaw_law_751 : decode cLaw_law 751 = .ok (.iaload, 1) := by decide +kernel
theorem dLaw_law_752 : decode cLaw_law 752 = .ok (.i2c, 1) := by decide +kernel
theorem dLaw_law_753 : decode cLaw_law 753 = .ok (.invokevirtual 225, 3) := by decide +kernel
theorem dLaw_law_756 : decode cLaw_law 756 = .ok (.istore 7, 2) := by decide +kernel
theorem dLaw_law_758 : decode cLaw_law 758 = .ok (.aload_n 2, 1) := by decide +kernel
theorem dLaw_law_759 : decode cLaw_law 759 = .ok (.invokevirtual 196, 3) := by decide +kernel
theorem dLaw_law_762 : decode cLaw_law 762 = .ok (.iload 6, 2) := by decide +kernel
theorem dLaw_law_764 : decode cLaw_law 764 = .ok (.if_icmp .eq 5, 3) := by decide +kernel
theorem dLaw_law_767 : decode cLaw_law 767 = .ok (.iconst 0, 1) := by decide +kernel
theorem dLaw_law_768 : decode cLaw_law 768 = .ok (.ireturn, 1) := by decide +kernel
theorem dLaw_law_769 : decode cLaw_law 769 = .ok (.iload 6, 2) := by decide +kernel
theorem dLaw_law_771 : decode cLaw_law 771 = .ok (.ifCond .ne 15, 3) := by decide +kernel
theorem dLaw_law_774 : decode cLaw_law 774 = .ok (.aload_n 3, 1) := by decide +kernel
theorem dLaw_law_775 : decode cLaw_law 775 = .ok (.iconst 0, 1) := by decide +kernel
theorem dLaw_law_776 : decode cLaw_law 776 = .ok (.laload, 1) := by decide +kernel
theorem dLaw_law_777 : decode cLaw_law 777 = .ok (.iload 7, 2) := by decide +kernel
theorem dLaw_law_779 : decode cLaw_law 779 = .ok (.i2l, 1) := by decide +kernel
theorem dLaw_law_780 : decode cLaw_law 780 = .ok (.lcmp, 1) := by decide +kernel
theorem dLaw_law_781 : decode cLaw_law 781 = .ok (.ifCond .eq 5, 3) := by decide +kernel
theorem dLaw_law_784 : decode cLaw_law 784 = .ok (.iconst 0, 1) := by decide +kernel
theorem dLaw_law_785 : decode cLaw_law 785 = .ok (.ireturn, 1) := by decide +kernel
theorem dLaw_law_786 : decode cLaw_law 786 = .ok (.goto 2426, 3) := by decide +kernel
theorem dLaw_law_789 : decode cLaw_law 789 = .ok (.aload_n 1, 1) := by decide +kernel
theorem dLaw_law_790 : decode cLaw_law 790 = .ok (.aload_n 0, 1) := by decide +kernel
theorem dLaw_law_791 : decode cLaw_law 791 = .ok (.iload 5, 2) := by decide +kernel
theorem dLaw_law_793 : decode cLaw_law 793 = .ok (.iconst 1, 1) := by decide +kernel
theorem dLaw_law_794 : decode cLaw_law 794 = .ok (.iadd, 1) := by decide +kernel
theorem dLaw_law_795 : decode cLaw_law 795 = .ok (.iaload, 1) := by decide +kernel
theorem dLaw_law_796 : decode cLaw_law 796 = .ok (.aload_n 0, 1) := by decide +kernel
theorem dLaw_law_797 : decode cLaw_law 797 = .ok (.iload 5, 2) := by decide +kernel
theorem dLaw_law_799 : decode cLaw_law 799 = .ok (.iconst 2, 1) := by decide +kernel
theorem dLaw_law_800 : decode cLaw_law 800 = .ok (.iadd, 1) := by decide +kernel
theorem dLaw_law_801 : decode cLaw_law 801 = .ok (.iaload, 1) := by decide +kernel
theorem dLaw_law_802 : decode cLaw_law 802 = .ok (.aload_n 3, 1) := by decide +kernel
theorem dLaw_law_803 : decode cLaw_law 803 = .ok (.invokestatic 226, 3) := by decide +kernel
theorem dLaw_law_806 : decode cLaw_law 806 = .ok (.istore 6, 2) := by decide +kernel
theorem dLaw_law_808 : decode cLaw_law 808 = .ok (.aload_n 2, 1) := by decide +kernel
theorem dLaw_law_809 : decode cLaw_law 809 = .ok (.aload_n 0, 1) := by decide +kernel
theorem dLaw_law_810 : decode cLaw_law 810 = .ok (.iload 5, 2) := by decide +kernel
theorem dLaw_law_812 : decode cLaw_law 812 = .ok (.iconst 1, 1) := by decide +kernel
theorem dLaw_law_813 : decode cLaw_law 813 = .ok (.iadd, 1) := by decide +kernel
theorem dLaw_law_814 : decode cLaw_law 814 = .ok (.iaload, 1) := by decide +kernel
theorem dLaw_law_815 : decode cLaw_law 815 = .ok (.aload_n 0, 1) := by decide +kernel
theorem dLaw_law_816 : decode cLaw_law 816 = .ok (.iload 5, 2) := by decide +kernel
theorem dLaw_law_818 : decode cLaw_law 818 = .ok (.iconst 2, 1) := by decide +kernel
theorem dLaw_law_819 : decode cLaw_law 819 = .ok (.iadd, 1) := by decide +kernel
theorem dLaw_law_820 : decode cLaw_law 820 = .ok (.iaload, 1) := by decide +kernel
theorem dLaw_law_821 : decode cLaw_law 821 = .ok (.invokevirtual 228, 3) := by decide +kernel
theorem dLaw_law_824 : decode cLaw_law 824 = .ok (.istore 7, 2) := by decide +kernel
theorem dLaw_law_826 : decode cLaw_law 826 = .ok (.aload_n 2, 1) := by decide +kernel
theorem dLaw_law_827 : decode cLaw_law 827 = .ok (.invokevirtual 196, 3) := by decide +kernel
theorem dLaw_law_830 : decode cLaw_law 830 = .ok (.iload 6, 2) := by decide +kernel
theorem dLaw_law_832 : decode cLaw_law 832 = .ok (.if_icmp .eq 5, 3) := by decide +kernel
theorem dLaw_law_835 : decode cLaw_law 835 = .ok (.iconst 0, 1) := by decide +kernel
theorem dLaw_law_836 : decode cLaw_law 836 = .ok (.ireturn, 1) := by decide +kernel
theorem dLaw_law_837 : decode cLaw_law 837 = .ok (.iload 6, 2) := by decide +kernel
theorem dLaw_law_839 : decode cLaw_law 839 = .ok (.ifCond .ne 15, 3) := by decide +kernel
theorem dLaw_law_842 : decode cLaw_law 842 = .ok (.aload_n 3, 1) := by decide +kernel
theorem dLaw_law_843 : decode cLaw_law 843 = .ok (.iconst 0, 1) := by decide +kernel
theorem dLaw_law_844 : decode cLaw_law 844 = .ok (.laload, 1) := by decide +kernel
theorem dLaw_law_845 : decode cLaw_law 845 = .ok (.iload 7, 2) := by decide +kernel
theorem dLaw_law_847 : decode cLaw_law 847 = .ok (.i2l, 1) := by decide +kernel
theorem dLaw_law_848 : decode cLaw_law 848 = .ok (.lcmp, 1) := by decide +kernel
theorem dLaw_law_849 : decode cLaw_law 849 = .ok (.ifCond .eq 5, 3) := by decide +kernel
theorem dLaw_law_852 : decode cLaw_law 852 = .ok (.iconst 0, 1) := by decide +kernel
theorem dLaw_law_853 : decode cLaw_law 853 = .ok (.ireturn, 1) := by decide +kernel
theorem dLaw_law_854 : decode cLaw_law 854 = .ok (.goto 2358, 3) := by decide +kernel
theorem dLaw_law_857 : decode cLaw_law 857 = .ok (.aload_n 1, 1) := by decide +kernel
theorem dLaw_law_858 : decode cLaw_law 858 = .ok (.aload_n 0, 1) := by decide +kernel
theorem dLaw_law_859 : decode cLaw_law 859 = .ok (.iload 5, 2) := by decide +kernel
theorem dLaw_law_861 : decode cLaw_law 861 = .ok (.iconst 1, 1) := by decide +kernel
theorem dLaw_law_862 : decode cLaw_law 862 = .ok (.iadd, 1) := by decide +kernel
theorem dLaw_law_863 : decode cLaw_law 863 = .ok (.iaload, 1) := by decide +kernel
theorem dLaw_law_864 : decode cLaw_law 864 = .ok (.aload_n 0, 1) := by decide +kernel
theorem dLaw_law_865 : decode cLaw_law 865 = .ok (.iload 5, 2) := by decide +kernel
theorem dLaw_law_867 : decode cLaw_law 867 = .ok (.iconst 2, 1) := by decide +kernel
theorem dLaw_law_868 : decode cLaw_law 868 = .ok (.iadd, 1) := by decide +kernel
theorem dLaw_law_869 : decode cLaw_law 869 = .ok (.iaload, 1) := by decide +kernel
theorem dLaw_law_870 : decode cLaw_law 870 = .ok (.aload_n 3, 1) := by decide +kernel
theorem dLaw_law_871 : decode cLaw_law 871 = .ok (.invokestatic 229, 3) := by decide +kernel
theorem dLaw_law_874 : decode cLaw_law 874 = .ok (.istore 6, 2) := by decide +kernel
theorem dLaw_law_876 : decode cLaw_law 876 = .ok (.aload_n 2, 1) := by decide +kernel
theorem dLaw_law_877 : decode cLaw_law 877 = .ok (.aload_n 0, 1) := by decide +kernel
theorem dLaw_law_878 : decode cLaw_law 878 = .ok (.iload 5, 2) := by decide +kernel
theorem dLaw_law_880 : decode cLaw_law 880 = .ok (.iconst 1, 1) := by decide +kernel
theorem dLaw_law_881 : decode cLaw_law 881 = .ok (.iadd, 1) := by decide +kernel
theorem dLaw_law_882 : decode cLaw_law 882 = .ok (.iaload, 1) := by decide +kernel
theorem dLaw_law_883 : decode cLaw_law 883 = .ok (.aload_n 0, 1) := by decide +kernel
theorem dLaw_law_884 : decode cLaw_law 884 = .ok (.iload 5, 2) := by decide +kernel
theorem dLaw_law_886 : decode cLaw_law 886 = .ok (.iconst 2, 1) := by decide +kernel
theorem dLaw_law_887 : decode cLaw_law 887 = .ok (.iadd, 1) := by decide +kernel
theorem dLaw_law_888 : decode cLaw_law 888 = .ok (.iaload, 1) := by decide +kernel
theorem dLaw_law_889 : decode cLaw_law 889 = .ok (.invokevirtual 231, 3) := by decide +kernel
theorem dLaw_law_892 : decode cLaw_law 892 = .ok (.istore 7, 2) := by decide +kernel
theorem dLaw_law_894 : decode cLaw_law 894 = .ok (.aload_n 2, 1) := by decide +kernel
theorem dLaw_law_895 : decode cLaw_law 895 = .ok (.invokevirtual 196, 3) := by decide +kernel
theorem dLaw_law_898 : decode cLaw_law 898 = .ok (.iload 6, 2) := by decide +kernel
theorem dLaw_law_900 : decode cLaw_law 900 = .ok (.if_icmp .eq 5, 3) := by decide +kernel
theorem dLaw_law_903 : decode cLaw_law 903 = .ok (.iconst 0, 1) := by decide +kernel
theorem dLaw_law_904 : decode cLaw_law 904 = .ok (.ireturn, 1) := by decide +kernel
theorem dLaw_law_905 : decode cLaw_law 905 = .ok (.iload 6, 2) := by decide +kernel
theorem dLaw_law_907 : decode cLaw_law 907 = .ok (.ifCond .ne 15, 3) := by decide +kernel
theorem dLaw_law_910 : decode cLaw_law 910 = .ok (.aload_n 3, 1) := by decide +kernel
theorem dLaw_law_911 : decode cLaw_law 911 = .ok (.iconst 0, 1) := by decide +kernel
theorem dLaw_law_912 : decode cLaw_law 912 = .ok (.laload, 1) := by decide +kernel
theorem dLaw_law_913 : decode cLaw_law 913 = .ok (.iload 7, 2) := by decide +kernel
theorem dLaw_law_915 : decode cLaw_law 915 = .ok (.i2l, 1) := by decide +kernel
theorem dLaw_law_916 : decode cLaw_law 916 = .ok (.lcmp, 1) := by decide +kernel
theorem dLaw_law_917 : decode cLaw_law 917 = .ok (.ifCond .eq 5, 3) := by decide +kernel
theorem dLaw_law_920 : decode cLaw_law 920 = .ok (.iconst 0, 1) := by decide +kernel
theorem dLaw_law_921 : decode cLaw_law 921 = .ok (.ireturn, 1) := by decide +kernel
theorem dLaw_law_922 : decode cLaw_law 922 = .ok (.goto 2290, 3) := by decide +kernel
theorem dLaw_law_925 : decode cLaw_law 925 = .ok (.aload_n 1, 1) := by decide +kernel
theorem dLaw_law_926 : decode cLaw_law 926 = .ok (.aload_n 0, 1) := by decide +kernel
theorem dLaw_law_927 : decode cLaw_law 927 = .ok (.iload 5, 2) := by decide +kernel
theorem dLaw_law_929 : decode cLaw_law 929 = .ok (.iconst 1, 1) := by decide +kernel
theorem dLaw_law_930 : decode cLaw_law 930 = .ok (.iadd, 1) := by decide +kernel
theorem dLaw_law_931 : decode cLaw_law 931 = .ok (.iaload, 1) := by decide +kernel
theorem dLaw_law_932 : decode cLaw_law 932 = .ok (.aload_n 0, 1) := by decide +kernel
theorem dLaw_law_933 : decode cLaw_law 933 = .ok (.iload 5, 2) := by decide +kernel
theorem dLaw_law_935 : decode cLaw_law 935 = .ok (.iconst 2, 1) := by decide +kernel
theorem dLaw_law_936 : decode cLaw_law 936 = .ok (.iadd, 1) := by decide +kernel
theorem dLaw_law_937 : decode cLaw_law 937 = .ok (.iaload, 1) := by decide +kernel
theorem dLaw_law_938 : decode cLaw_law 938 = .ok (.aload_n 3, 1) := by decide +kernel
theorem dLaw_law_939 : decode cLaw_law 939 = .ok (.invokestatic 232, 3) := by decide +kernel
theorem dLaw_law_942 : decode cLaw_law 942 = .ok (.istore 6, 2) := by decide +kernel
theorem dLaw_law_944 : decode cLaw_law 944 = .ok (.aload_n 2, 1) := by decide +kernel
theorem dLaw_law_945 : decode cLaw_law 945 = .ok (.aload_n 0, 1) := by decide +kernel
theorem dLaw_law_946 : decode cLaw_law 946 = .ok (.iload 5, 2) := by decide +kernel
theorem dLaw_law_948 : decode cLaw_law 948 = .ok (.iconst 1, 1) := by decide +kernel
theorem dLaw_law_949 : decode cLaw_law 949 = .ok (.iadd, 1) := by decide +kernel
theorem dLaw_law_950 : decode cLaw_law 950 = .ok (.iaload, 1) := by decide +kernel
theorem dLaw_law_951 : decode cLaw_law 951 = .ok (.aload_n 0, 1) := by decide +kernel
theorem dLaw_law_952 : decode cLaw_law 952 = .ok (.iload 5, 2) := by decide +kernel
theorem dLaw_law_954 : decode cLaw_law 954 = .ok (.iconst 2, 1) := by decide +kernel
theorem dLaw_law_955 : decode cLaw_law 955 = .ok (.iadd, 1) := by decide +kernel
theorem dLaw_law_956 : decode cLaw_law 956 = .ok (.iaload, 1) := by decide +kernel
theorem dLaw_law_957 : decode cLaw_law 957 = .ok (.invokevirtual 234, 3) := by decide +kernel
theorem dLaw_law_960 : decode cLaw_law 960 = .ok (.istore 7, 2) := by decide +kernel
theorem dLaw_law_962 : decode cLaw_law 962 = .ok (.aload_n 2, 1) := by decide +kernel
theorem dLaw_law_963 : decode cLaw_law 963 = .ok (.invokevirtual 196, 3) := by decide +kernel
theorem dLaw_law_966 : decode cLaw_law 966 = .ok (.iload 6, 2) := by decide +kernel
theorem dLaw_law_968 : decode cLaw_law 968 = .ok (.if_icmp .eq 5, 3) := by decide +kernel
theorem dLaw_law_971 : decode cLaw_law 971 = .ok (.iconst 0, 1) := by decide +kernel
theorem dLaw_law_972 : decode cLaw_law 972 = .ok (.ireturn, 1) := by decide +kernel
theorem dLaw_law_973 : decode cLaw_law 973 = .ok (.iload 6, 2) := by decide +kernel
theorem dLaw_law_975 : decode cLaw_law 975 = .ok (.ifCond .ne 15, 3) := by decide +kernel
theorem dLaw_law_978 : decode cLaw_law 978 = .ok (.aload_n 3, 1) := by decide +kernel
theorem dLaw_law_979 : decode cLaw_law 979 = .ok (.iconst 0, 1) := by decide +kernel
theorem dLaw_law_980 : decode cLaw_law 980 = .ok (.laload, 1) := by decide +kernel
theorem dLaw_law_981 : decode cLaw_law 981 = .ok (.iload 7, 2) := by decide +kernel
theorem dLaw_law_983 : decode cLaw_law 983 = .ok (.i2l, 1) := by decide +kernel
theorem dLaw_law_984 : decode cLaw_law 984 = .ok (.lcmp, 1) := by decide +kernel
theorem dLaw_law_985 : decode cLaw_law 985 = .ok (.ifCond .eq 5, 3) := by decide +kernel
theorem dLaw_law_988 : decode cLaw_law 988 = .ok (.iconst 0, 1) := by decide +kernel
theorem dLaw_law_989 : decode cLaw_law 989 = .ok (.ireturn, 1) := by decide +kernel
theorem dLaw_law_990 : decode cLaw_law 990 = .ok (.goto 2222, 3) := by decide +kernel
theorem dLaw_law_993 : decode cLaw_law 993 = .ok (.aload_n 1, 1) := by decide +kernel
theorem dLaw_law_994 : decode cLaw_law 994 = .ok (.aload_n 0, 1) := by decide +kernel
theorem dLaw_law_995 : decode cLaw_law 995 = .ok (.iload 5, 2) := by decide +kernel
theorem dLaw_law_997 : decode cLaw_law 997 = .ok (.iconst 1, 1) := by decide +kernel
theorem dLaw_law_998 : decode cLaw_law 998 = .ok (.iadd, 1) := by decide +kernel
theorem dLaw_law_999 : decode cLaw_law 999 = .ok (.iaload, 1) := by decide +kernel
theorem dLaw_law_1000 : decode cLaw_law 1000 = .ok (.aload_n 3, 1) := by decide +kernel
theorem dLaw_law_1001 : decode cLaw_law 1001 = .ok (.invokestatic 235, 3) := by decide +kernel
theorem dLaw_law_1004 : decode cLaw_law 1004 = .ok (.istore 6, 2) := by decide +kernel
theorem dLaw_law_1006 : decode cLaw_law 1006 = .ok (.aload_n 2, 1) := by decide +kernel
theorem dLaw_law_1007 : decode cLaw_law 1007 = .ok (.aload_n 0, 1) := by decide +kernel
theorem dLaw_law_1008 : decode cLaw_law 1008 = .ok (.iload 5, 2) := by decide +kernel
theorem dLaw_law_1010 : decode cLaw_law 1010 = .ok (.iconst 1, 1) := by decide +kernel
theorem dLaw_law_1011 : decode cLaw_law 1011 = .ok (.iadd, 1) := by decide +kernel
theorem dLaw_law_1012 : decode cLaw_law 1012 = .ok (.iaload, 1) := by decide +kernel
theorem dLaw_law_1013 : decode cLaw_law 1013 = .ok (.invokevirtual 238, 3) := by decide +kernel
theorem dLaw_law_1016 : decode cLaw_law 1016 = .ok (.istore 7, 2) := by decide +kernel
theorem dLaw_law_1018 : decode cLaw_law 1018 = .ok (.aload_n 2, 1) := by decide +kernel
theorem dLaw_law_1019 : decode cLaw_law 1019 = .ok (.invokevirtual 196, 3) := by decide +kernel
theorem dLaw_law_1022 : decode cLaw_law 1022 = .ok (.iload 6, 2) := by decide +kernel
theorem dLaw_law_1024 : decode cLaw_law 1024 = .ok (.if_icmp .eq 5, 3) := by decide +kernel
theorem dLaw_law_1027 : decode cLaw_law 1027 = .ok (.iconst 0, 1) := by decide +kernel
theorem dLaw_law_1028 : decode cLaw_law 1028 = .ok (.ireturn, 1) := by decide +kernel
theorem dLaw_law_1029 : decode cLaw_law 1029 = .ok (.iload 6, 2) := by decide +kernel
theorem dLaw_law_1031 : decode cLaw_law 1031 = .ok (.ifCond .ne 15, 3) := by decide +kernel
theorem dLaw_law_1034 : decode cLaw_law 1034 = .ok (.aload_n 3, 1) := by decide +kernel
theorem dLaw_law_1035 : decode cLaw_law 1035 = .ok (.iconst 0, 1) := by decide +kernel
theorem dLaw_law_1036 : decode cLaw_law 1036 = .ok (.laload, 1) := by decide +kernel
theorem dLaw_law_1037 : decode cLaw_law 1037 = .ok (.iload 7, 2) := by decide +kernel
theorem dLaw_law_1039 : decode cLaw_law 1039 = .ok (.i2l, 1) := by decide +kernel
theorem dLaw_law_1040 : decode cLaw_law 1040 = .ok (.lcmp, 1) := by decide +kernel
theorem dLaw_law_1041 : decode cLaw_law 1041 = .ok (.ifCond .eq 5, 3) := by decide +kernel
theorem dLaw_law_1044 : decode cLaw_law 1044 = .ok (.iconst 0, 1) := by decide +kernel
theorem dLaw_law_1045 : decode cLaw_law 1045 = .ok (.ireturn, 1) := by decide +kernel
theorem dLaw_law_1046 : decode cLaw_law 1046 = .ok (.goto 2166, 3) := by decide +kernel
theorem dLaw_law_1049 : decode cLaw_law 1049 = .ok (.aload_n 1, 1) := by decide +kernel
theorem dLaw_law_1050 : decode cLaw_law 1050 = .ok (.aload_n 0, 1) := by decide +kernel
theorem dLaw_law_1051 : decode cLaw_law 1051 = .ok (.iload 5, 2) := by decide +kernel
theorem dLaw_law_1053 : decode cLaw_law 1053 = .ok (.iconst 1, 1) := by decide +kernel
theorem dLaw_law_1054 : decode cLaw_law 1054 = .ok (.iadd, 1) := by decide +kernel
theorem dLaw_law_1055 : decode cLaw_law 1055 = .ok (.iaload, 1) := by decide +kernel
theorem dLaw_law_1056 : decode cLaw_law 1056 = .ok (.aload_n 0, 1) := by decide +kernel
theorem dLaw_law_1057 : decode cLaw_law 1057 = .ok (.iload 5, 2) := by decide +kernel
theorem dLaw_law_1059 : decode cLaw_law 1059 = .ok (.iconst 2, 1) := by decide +kernel
theorem dLaw_law_1060 : decode cLaw_law 1060 = .ok (.iadd, 1) := by decide +kernel
theorem dLaw_law_1061 : decode cLaw_law 1061 = .ok (.iaload, 1) := by decide +kernel
theorem dLaw_law_1062 : decode cLaw_law 1062 = .ok (.aload_n 3, 1) := by decide +kernel
theorem dLaw_law_1063 : decode cLaw_law 1063 = .ok (.invokestatic 239, 3) := by decide +kernel
theorem dLaw_law_1066 : decode cLaw_law 1066 = .ok (.istore 6, 2) := by decide +kernel
theorem dLaw_law_1068 : decode cLaw_law 1068 = .ok (.aload_n 2, 1) := by decide +kernel
theorem dLaw_law_1069 : decode cLaw_law 1069 = .ok (.aload_n 0, 1) := by decide +kernel
theorem dLaw_law_1070 : decode cLaw_law 1070 = .ok (.iload 5, 2) := by decide +kernel
theorem dLaw_law_1072 : decode cLaw_law 1072 = .ok (.iconst 1, 1) := by decide +kernel
theorem dLaw_law_1073 : decode cLaw_law 1073 = .ok (.iadd, 1) := by decide +kernel
theorem dLaw_law_1074 : decode cLaw_law 1074 = .ok (.iaload, 1) := by decide +kernel
theorem dLaw_law_1075 : decode cLaw_law 1075 = .ok (.aload_n 0, 1) := by decide +kernel
theorem dLaw_law_1076 : decode cLaw_law 1076 = .ok (.iload 5, 2) := by decide +kernel
theorem dLaw_law_1078 : decode cLaw_law 1078 = .ok (.iconst 2, 1) := by decide +kernel
theorem dLaw_law_1079 : decode cLaw_law 1079 = .ok (.iadd, 1) := by decide +kernel
theorem dLaw_law_1080 : decode cLaw_law 1080 = .ok (.iaload, 1) := by decide +kernel
theorem dLaw_law_1081 : decode cLaw_law 1081 = .ok (.invokevirtual 241, 3) := by decide +kernel
theorem dLaw_law_1084 : decode cLaw_law 1084 = .ok (.istore 7, 2) := by decide +kernel
theorem dLaw_law_1086 : decode cLaw_law 1086 = .ok (.aload_n 2, 1) := by decide +kernel
theorem dLaw_law_1087 : decode cLaw_law 1087 = .ok (.invokevirtual 196, 3) := by decide +kernel
theorem dLaw_law_1090 : decode cLaw_law 1090 = .ok (.iload 6, 2) := by decide +kernel
theorem dLaw_law_1092 : decode cLaw_law 1092 = .ok (.if_icmp .eq 5, 3) := by decide +kernel
theorem dLaw_law_1095 : decode cLaw_law 1095 = .ok (.iconst 0, 1) := by decide +kernel
theorem dLaw_law_1096 : decode cLaw_law 1096 = .ok (.ireturn, 1) := by decide +kernel
theorem dLaw_law_1097 : decode cLaw_law 1097 = .ok (.iload 6, 2) := by decide +kernel
theorem dLaw_law_1099 : decode cLaw_law 1099 = .ok (.ifCond .ne 15, 3) := by decide +kernel
theorem dLaw_law_1102 : decode cLaw_law 1102 = .ok (.aload_n 3, 1) := by decide +kernel
theorem dLaw_law_1103 : decode cLaw_law 1103 = .ok (.iconst 0, 1) := by decide +kernel
theorem dLaw_law_1104 : decode cLaw_law 1104 = .ok (.laload, 1) := by decide +kernel
theorem dLaw_law_1105 : decode cLaw_law 1105 = .ok (.iload 7, 2) := by decide +kernel
theorem dLaw_law_1107 : decode cLaw_law 1107 = .ok (.i2l, 1) := by decide +kernel
theorem dLaw_law_1108 : decode cLaw_law 1108 = .ok (.lcmp, 1) := by decide +kernel
theorem dLaw_law_1109 : decode cLaw_law 1109 = .ok (.ifCond .eq 5, 3) := by decide +kernel
theorem dLaw_law_1112 : decode cLaw_law 1112 = .ok (.iconst 0, 1) := by decide +kernel
theorem dLaw_law_1113 : decode cLaw_law 1113 = .ok (.ireturn, 1) := by decide +kernel
theorem dLaw_law_1114 : decode cLaw_law 1114 = .ok (.goto 2098, 3) := by decide +kernel
theorem dLaw_law_1117 : decode cLaw_law 1117 = .ok (.aload_n 1, 1) := by decide +kernel
theorem dLaw_law_1118 : decode cLaw_law 1118 = .ok (.aload_n 0, 1) := by decide +kernel
theorem dLaw_law_1119 : decode cLaw_law 1119 = .ok (.iload 5, 2) := by decide +kernel
theorem dLaw_law_1121 : decode cLaw_law 1121 = .ok (.iconst 1, 1) := by decide +kernel
theorem dLaw_law_1122 : decode cLaw_law 1122 = .ok (.iadd, 1) := by decide +kernel
theorem dLaw_law_1123 : decode cLaw_law 1123 = .ok (.iaload, 1) := by decide +kernel
theorem dLaw_law_1124 : decode cLaw_law 1124 = .ok (.aload_n 3, 1) := by decide +kernel
theorem dLaw_law_1125 : decode cLaw_law 1125 = .ok (.invokestatic 242, 3) := by decide +kernel
theorem dLaw_law_1128 : decode cLaw_law 1128 = .ok (.istore 6, 2) := by decide +kernel
theorem dLaw_law_1130 : decode cLaw_law 1130 = .ok (.aload_n 2, 1) := by decide +kernel
theorem dLaw_law_1131 : decode cLaw_law 1131 = .ok (.aload_n 0, 1) := by decide +kernel
theorem dLaw_law_1132 : decode cLaw_law 1132 = .ok (.iload 5, 2) := by decide +kernel
theorem dLaw_law_1134 : decode cLaw_law 1134 = .ok (.iconst 1, 1) := by decide +kernel
theorem dLaw_law_1135 : decode cLaw_law 1135 = .ok (.iadd, 1) := by decide +kernel
theorem dLaw_law_1136 : decode cLaw_law 1136 = .ok (.iaload, 1) := by decide +kernel
theorem dLaw_law_1137 : decode cLaw_law 1137 = .ok (.invokevirtual 244, 3) := by decide +kernel
theorem dLaw_law_1140 : decode cLaw_law 1140 = .ok (.istore 7, 2) := by decide +kernel
theorem dLaw_law_1142 : decode cLaw_law 1142 = .ok (.aload_n 2, 1) := by decide +kernel
theorem dLaw_law_1143 : decode cLaw_law 1143 = .ok (.invokevirtual 196, 3) := by decide +kernel
theorem dLaw_law_1146 : decode cLaw_law 1146 = .ok (.iload 6, 2) := by decide +kernel
theorem dLaw_law_1148 : decode cLaw_law 1148 = .ok (.if_icmp .eq 5, 3) := by decide +kernel
theorem dLaw_law_1151 : decode cLaw_law 1151 = .ok (.iconst 0, 1) := by decide +kernel
theorem dLaw_law_1152 : decode cLaw_law 1152 = .ok (.ireturn, 1) := by decide +kernel
theorem dLaw_law_1153 : decode cLaw_law 1153 = .ok (.iload 6, 2) := by decide +kernel
theorem dLaw_law_1155 : decode cLaw_law 1155 = .ok (.ifCond .ne 15, 3) := by decide +kernel
theorem dLaw_law_1158 : decode cLaw_law 1158 = .ok (.aload_n 3, 1) := by decide +kernel
theorem dLaw_law_1159 : decode cLaw_law 1159 = .ok (.iconst 0, 1) := by decide +kernel
theorem dLaw_law_1160 : decode cLaw_law 1160 = .ok (.laload, 1) := by decide +kernel
theorem dLaw_law_1161 : decode cLaw_law 1161 = .ok (.iload 7, 2) := by decide +kernel
theorem dLaw_law_1163 : decode cLaw_law 1163 = .ok (.i2l, 1) := by decide +kernel
theorem dLaw_law_1164 : decode cLaw_law 1164 = .ok (.lcmp, 1) := by decide +kernel
theorem dLaw_law_1165 : decode cLaw_law 1165 = .ok (.ifCond .eq 5, 3) := by decide +kernel
theorem dLaw_law_1168 : decode cLaw_law 1168 = .ok (.iconst 0, 1) := by decide +kernel
theorem dLaw_law_1169 : decode cLaw_law 1169 = .ok (.ireturn, 1) := by decide +kernel
theorem dLaw_law_1170 : decode cLaw_law 1170 = .ok (.goto 2042, 3) := by decide +kernel
theorem dLaw_law_1173 : decode cLaw_law 1173 = .ok (.aload_n 1, 1) := by decide +kernel
theorem dLaw_law_1174 : decode cLaw_law 1174 = .ok (.aload_n 3, 1) := by decide +kernel
theorem dLaw_law_1175 : decode cLaw_law 1175 = .ok (.invokestatic 245, 3) := by decide +kernel
theorem dLaw_law_1178 : decode cLaw_law 1178 = .ok (.istore 6, 2) := by decide +kernel
theorem dLaw_law_1180 : decode cLaw_law 1180 = .ok (.aload_n 2, 1) := by decide +kernel
theorem dLaw_law_1181 : decode cLaw_law 1181 = .ok (.invokevirtual 247, 3) := by decide +kernel
theorem dLaw_law_1184 : decode cLaw_law 1184 = .ok (.istore 7, 2) := by decide +kernel
theorem dLaw_law_1186 : decode cLaw_law 1186 = .ok (.aload_n 2, 1) := by decide +kernel
theorem dLaw_law_1187 : decode cLaw_law 1187 = .ok (.invokevirtual 196, 3) := by decide +kernel
theorem dLaw_law_1190 : decode cLaw_law 1190 = .ok (.iload 6, 2) := by decide +kernel
theorem dLaw_law_1192 : decode cLaw_law 1192 = .ok (.if_icmp .eq 5, 3) := by decide +kernel
theorem dLaw_law_1195 : decode cLaw_law 1195 = .ok (.iconst 0, 1) := by decide +kernel
theorem dLaw_law_1196 : decode cLaw_law 1196 = .ok (.ireturn, 1) := by decide +kernel
theorem dLaw_law_1197 : decode cLaw_law 1197 = .ok (.iload 6, 2) := by decide +kernel
theorem dLaw_law_1199 : decode cLaw_law 1199 = .ok (.ifCond .ne 15, 3) := by decide +kernel
theorem dLaw_law_1202 : decode cLaw_law 1202 = .ok (.aload_n 3, 1) := by decide +kernel
theorem dLaw_law_1203 : decode cLaw_law 1203 = .ok (.iconst 0, 1) := by decide +kernel
theorem dLaw_law_1204 : decode cLaw_law 1204 = .ok (.laload, 1) := by decide +kernel
theorem dLaw_law_1205 : decode cLaw_law 1205 = .ok (.iload 7, 2) := by decide +kernel
theorem dLaw_law_1207 : decode cLaw_law 1207 = .ok (.i2l, 1) := by decide +kernel
theorem dLaw_law_1208 : decode cLaw_law 1208 = .ok (.lcmp, 1) := by decide +kernel
theorem dLaw_law_1209 : decode cLaw_law 1209 = .ok (.ifCond .eq 5, 3) := by decide +kernel
theorem dLaw_law_1212 : decode cLaw_law 1212 = .ok (.iconst 0, 1) := by decide +kernel
theorem dLaw_law_1213 : decode cLaw_law 1213 = .ok (.ireturn, 1) := by decide +kernel
theorem dLaw_law_1214 : decode cLaw_law 1214 = .ok (.goto 1998, 3) := by decide +kernel
theorem dLaw_law_1217 : decode cLaw_law 1217 = .ok (.aload_n 1, 1) := by decide +kernel
theorem dLaw_law_1218 : decode cLaw_law 1218 = .ok (.aload_n 3, 1) := by decide +kernel
theorem dLaw_law_1219 : decode cLaw_law 1219 = .ok (.invokestatic 248, 3) := by decide +kernel
theorem dLaw_law_1222 : decode cLaw_law 1222 = .ok (.istore 6, 2) := by decide +kernel
theorem dLaw_law_1224 : decode cLaw_law 1224 = .ok (.aload_n 2, 1) := by decide +kernel
theorem dLaw_law_1225 : decode cLaw_law 1225 = .ok (.invokevirtual 250, 3) := by decide +kernel
theorem dLaw_law_1228 : decode cLaw_law 1228 = .ok (.istore 7, 2) := by decide +kernel
theorem dLaw_law_1230 : decode cLaw_law 1230 = .ok (.aload_n 2, 1) := by decide +kernel
theorem dLaw_law_1231 : decode cLaw_law 1231 = .ok (.invokevirtual 196, 3) := by decide +kernel
theorem dLaw_law_1234 : decode cLaw_law 1234 = .ok (.iload 6, 2) := by decide +kernel
theorem dLaw_law_1236 : decode cLaw_law 1236 = .ok (.if_icmp .eq 5, 3) := by decide +kernel
theorem dLaw_law_1239 : decode cLaw_law 1239 = .ok (.iconst 0, 1) := by decide +kernel
theorem dLaw_law_1240 : decode cLaw_law 1240 = .ok (.ireturn, 1) := by decide +kernel
theorem dLaw_law_1241 : decode cLaw_law 1241 = .ok (.iload 6, 2) := by decide +kernel
theorem dLaw_law_1243 : decode cLaw_law 1243 = .ok (.ifCond .ne 15, 3) := by decide +kernel
theorem dLaw_law_1246 : decode cLaw_law 1246 = .ok (.aload_n 3, 1) := by decide +kernel
theorem dLaw_law_1247 : decode cLaw_law 1247 = .ok (.iconst 0, 1) := by decide +kernel
theorem dLaw_law_1248 : decode cLaw_law 1248 = .ok (.laload, 1) := by decide +kernel
theorem dLaw_law_1249 : decode cLaw_law 1249 = .ok (.iload 7, 2) := by decide +kernel
theorem dLaw_law_1251 : decode cLaw_law 1251 = .ok (.i2l, 1) := by decide +kernel
theorem dLaw_law_1252 : decode cLaw_law 1252 = .ok (.lcmp, 1) := by decide +kernel
theorem dLaw_law_1253 : decode cLaw_law 1253 = .ok (.ifCond .eq 5, 3) := by decide +kernel
theorem dLaw_law_1256 : decode cLaw_law 1256 = .ok (.iconst 0, 1) := by decide +kernel
theorem dLaw_law_1257 : decode cLaw_law 1257 = .ok (.ireturn, 1) := by decide +kernel
theorem dLaw_law_1258 : decode cLaw_law 1258 = .ok (.goto 1954, 3) := by decide +kernel
theorem dLaw_law_1261 : decode cLaw_law 1261 = .ok (.aload_n 1, 1) := by decide +kernel
theorem dLaw_law_1262 : decode cLaw_law 1262 = .ok (.aload_n 0, 1) := by decide +kernel
theorem dLaw_law_1263 : decode cLaw_law 1263 = .ok (.iload 5, 2) := by decide +kernel
theorem dLaw_law_1265 : decode cLaw_law 1265 = .ok (.iconst 1, 1) := by decide +kernel
theorem dLaw_law_1266 : decode cLaw_law 1266 = .ok (.iadd, 1) := by decide +kernel
theorem dLaw_law_1267 : decode cLaw_law 1267 = .ok (.iaload, 1) := by decide +kernel
theorem dLaw_law_1268 : decode cLaw_law 1268 = .ok (.aload_n 3, 1) := by decide +kernel
theorem dLaw_law_1269 : decode cLaw_law 1269 = .ok (.invokestatic 251, 3) := by decide +kernel
theorem dLaw_law_1272 : decode cLaw_law 1272 = .ok (.istore 6, 2) := by decide +kernel
theorem dLaw_law_1274 : decode cLaw_law 1274 = .ok (.aload_n 2, 1) := by decide +kernel
theorem dLaw_law_1275 : decode cLaw_law 1275 = .ok (.aload_n 0, 1) := by decide +kernel
theorem dLaw_law_1276 : decode cLaw_law 1276 = .ok (.iload 5, 2) := by decide +kernel
theorem dLaw_law_1278 : decode cLaw_law 1278 = .ok (.iconst 1, 1) := by decide +kernel
theorem dLaw_law_1279 : decode cLaw_law 1279 = .ok (.iadd, 1) := by decide +kernel
theorem dLaw_law_1280 : decode cLaw_law 1280 = .ok (.iaload, 1) := by decide +kernel
theorem dLaw_law_1281 : decode cLaw_law 1281 = .ok (.invokevirtual 253, 3) := by decide +kernel
theorem dLaw_law_1284 : decode cLaw_law 1284 = .ok (.istore 7, 2) := by decide +kernel
theorem dLaw_law_1286 : decode cLaw_law 1286 = .ok (.aload_n 2, 1) := by decide +kernel
theorem dLaw_law_1287 : decode cLaw_law 1287 = .ok (.invokevirtual 196, 3) := by decide +kernel
theorem dLaw_law_1290 : decode cLaw_law 1290 = .ok (.iload 6, 2) := by decide +kernel
theorem dLaw_law_1292 : decode cLaw_law 1292 = .ok (.if_icmp .eq 5, 3) := by decide +kernel
theorem dLaw_law_1295 : decode cLaw_law 1295 = .ok (.iconst 0, 1) := by decide +kernel
theorem dLaw_law_1296 : decode cLaw_law 1296 = .ok (.ireturn, 1) := by decide +kernel
theorem dLaw_law_1297 : decode cLaw_law 1297 = .ok (.iload 6, 2) := by decide +kernel
theorem dLaw_law_1299 : decode cLaw_law 1299 = .ok (.ifCond .ne 15, 3) := by decide +kernel
theorem dLaw_law_1302 : decode cLaw_law 1302 = .ok (.aload_n 3, 1) := by decide +kernel
theorem dLaw_law_1303 : decode cLaw_law 1303 = .ok (.iconst 0, 1) := by decide +kernel
theorem dLaw_law_1304 : decode cLaw_law 1304 = .ok (.laload, 1) := by decide +kernel
theorem dLaw_law_1305 : decode cLaw_law 1305 = .ok (.iload 7, 2) := by decide +kernel
theorem dLaw_law_1307 : decode cLaw_law 1307 = .ok (.i2l, 1) := by decide +kernel
theorem dLaw_law_1308 : decode cLaw_law 1308 = .ok (.lcmp, 1) := by decide +kernel
theorem dLaw_law_1309 : decode cLaw_law 1309 = .ok (.ifCond .eq 5, 3) := by decide +kernel
theorem dLaw_law_1312 : decode cLaw_law 1312 = .ok (.iconst 0, 1) := by decide +kernel
theorem dLaw_law_1313 : decode cLaw_law 1313 = .ok (.ireturn, 1) := by decide +kernel
theorem dLaw_law_1314 : decode cLaw_law 1314 = .ok (.goto 1898, 3) := by decide +kernel
theorem dLaw_law_1317 : decode cLaw_law 1317 = .ok (.aload_n 1, 1) := by decide +kernel
theorem dLaw_law_1318 : decode cLaw_law 1318 = .ok (.aload_n 0, 1) := by decide +kernel
theorem dLaw_law_1319 : decode cLaw_law 1319 = .ok (.iload 5, 2) := by decide +kernel
theorem dLaw_law_1321 : decode cLaw_law 1321 = .ok (.iconst 1, 1) := by decide +kernel
theorem dLaw_law_1322 : decode cLaw_law 1322 = .ok (.iadd, 1) := by decide +kernel
theorem dLaw_law_1323 : decode cLaw_law 1323 = .ok (.iaload, 1) := by decide +kernel
theorem dLaw_law_1324 : decode cLaw_law 1324 = .ok (.aload_n 3, 1) := by decide +kernel
theorem dLaw_law_1325 : decode cLaw_law 1325 = .ok (.invokestatic 254, 3) := by decide +kernel
theorem dLaw_law_1328 : decode cLaw_law 1328 = .ok (.istore 6, 2) := by decide +kernel
theorem dLaw_law_1330 : decode cLaw_law 1330 = .ok (.aload_n 2, 1) := by decide +kernel
theorem dLaw_law_1331 : decode cLaw_law 1331 = .ok (.aload_n 0, 1) := by decide +kernel
theorem dLaw_law_1332 : decode cLaw_law 1332 = .ok (.iload 5, 2) := by decide +kernel
theorem dLaw_law_1334 : decode cLaw_law 1334 = .ok (.iconst 1, 1) := by decide +kernel
theorem dLaw_law_1335 : decode cLaw_law 1335 = .ok (.iadd, 1) := by decide +kernel
theorem dLaw_law_1336 : decode cLaw_law 1336 = .ok (.iaload, 1) := by decide +kernel
theorem dLaw_law_1337 : decode cLaw_law 1337 = .ok (.invokevirtual 256, 3) := by decide +kernel
theorem dLaw_law_1340 : decode cLaw_law 1340 = .ok (.istore 7, 2) := by decide +kernel
theorem dLaw_law_1342 : decode cLaw_law 1342 = .ok (.aload_n 2, 1) := by decide +kernel
theorem dLaw_law_1343 : decode cLaw_law 1343 = .ok (.invokevirtual 196, 3) := by decide +kernel
theorem dLaw_law_1346 : decode cLaw_law 1346 = .ok (.iload 6, 2) := by decide +kernel
theorem dLaw_law_1348 : decode cLaw_law 1348 = .ok (.if_icmp .eq 5, 3) := by decide +kernel
theorem dLaw_law_1351 : decode cLaw_law 1351 = .ok (.iconst 0, 1) := by decide +kernel
theorem dLaw_law_1352 : decode cLaw_law 1352 = .ok (.ireturn, 1) := by decide +kernel
theorem dLaw_law_1353 : decode cLaw_law 1353 = .ok (.iload 6, 2) := by decide +kernel
theorem dLaw_law_1355 : decode cLaw_law 1355 = .ok (.ifCond .ne 22, 3) := by decide +kernel
theorem dLaw_law_1358 : decode cLaw_law 1358 = .ok (.aload_n 3, 1) := by decide +kernel
theorem dLaw_law_1359 : decode cLaw_law 1359 = .ok (.iconst 0, 1) := by decide +kernel
theorem dLaw_law_1360 : decode cLaw_law 1360 = .ok (.laload, 1) := by decide +kernel
theorem dLaw_law_1361 : decode cLaw_law 1361 = .ok (.iload 7, 2) := by decide +kernel
theorem dLaw_law_1363 : decode cLaw_law 1363 = .ok (.ifCond .eq 7, 3) := by decide +kernel
theorem dLaw_law_1366 : decode cLaw_law 1366 = .ok (.lconst 1, 1) := by decide +kernel
theorem dLaw_law_1367 : decode cLaw_law 1367 = .ok (.goto 4, 3) := by decide +kernel
theorem dLaw_law_1370 : decode cLaw_law 1370 = .ok (.lconst 0, 1) := by decide +kernel
theorem dLaw_law_1371 : decode cLaw_law 1371 = .ok (.lcmp, 1) := by decide +kernel
theorem dLaw_law_1372 : decode cLaw_law 1372 = .ok (.ifCond .eq 5, 3) := by decide +kernel
theorem dLaw_law_1375 : decode cLaw_law 1375 = .ok (.iconst 0, 1) := by decide +kernel
theorem dLaw_law_1376 : decode cLaw_law 1376 = .ok (.ireturn, 1) := by decide +kernel
theorem dLaw_law_1377 : decode cLaw_law 1377 = .ok (.goto 1835, 3) := by decide +kernel
theorem dLaw_law_1380 : decode cLaw_law 1380 = .ok (.aload_n 1, 1) := by decide +kernel
theorem dLaw_law_1381 : decode cLaw_law 1381 = .ok (.aload_n 0, 1) := by decide +kernel
theorem dLaw_law_1382 : decode cLaw_law 1382 = .ok (.iload 5, 2) := by decide +kernel
theorem dLaw_law_1384 : decode cLaw_law 1384 = .ok (.iconst 1, 1) := by decide +kernel
theorem dLaw_law_1385 : decode cLaw_law 1385 = .ok (.iadd, 1) := by decide +kernel
theorem dLaw_law_1386 : decode cLaw_law 1386 = .ok (.iaload, 1) := by decide +kernel
theorem dLaw_law_1387 : decode cLaw_law 1387 = .ok (.aload_n 3, 1) := by decide +kernel
theorem dLaw_law_1388 : decode cLaw_law 1388 = .ok (.invokestatic 257, 3) := by decide +kernel
theorem dLaw_law_1391 : decode cLaw_law 1391 = .ok (.istore 6, 2) := by decide +kernel
theorem dLaw_law_1393 : decode cLaw_law 1393 = .ok (.aload_n 2, 1) := by decide +kernel
theorem dLaw_law_1394 : decode cLaw_law 1394 = .ok (.aload_n 0, 1) := by decide +kernel
theorem dLaw_law_1395 : decode cLaw_law 1395 = .ok (.iload 5, 2) := by decide +kernel
theorem dLaw_law_1397 : decode cLaw_law 1397 = .ok (.iconst 1, 1) := by decide +kernel
theorem dLaw_law_1398 : decode cLaw_law 1398 = .ok (.iadd, 1) := by decide +kernel
theorem dLaw_law_1399 : decode cLaw_law 1399 = .ok (.iaload, 1) := by decide +kernel
theorem dLaw_law_1400 : decode cLaw_law 1400 = .ok (.invokevirtual 259, 3) := by decide +kernel
theorem dLaw_law_1403 : decode cLaw_law 1403 = .ok (.istore 7, 2) := by decide +kernel
theorem dLaw_law_1405 : decode cLaw_law 1405 = .ok (.aload_n 2, 1) := by decide +kernel
theorem dLaw_law_1406 : decode cLaw_law 1406 = .ok (.invokevirtual 196, 3) := by decide +kernel
theorem dLaw_law_1409 : decode cLaw_law 1409 = .ok (.iload 6, 2) := by decide +kernel
theorem dLaw_law_1411 : decode cLaw_law 1411 = .ok (.if_icmp .eq 5, 3) := by decide +kernel
theorem dLaw_law_1414 : decode cLaw_law 1414 = .ok (.iconst 0, 1) := by decide +kernel
theorem dLaw_law_1415 : decode cLaw_law 1415 = .ok (.ireturn, 1) := by decide +kernel
theorem dLaw_law_1416 : decode cLaw_law 1416 = .ok (.iload 6, 2) := by decide +kernel
theorem dLaw_law_1418 : decode cLaw_law 1418 = .ok (.ifCond .ne 15, 3) := by decide +kernel
theorem dLaw_law_1421 : decode cLaw_law 1421 = .ok (.aload_n 3, 1) := by decide +kernel
theorem dLaw_law_1422 : decode cLaw_law 1422 = .ok (.iconst 0, 1) := by decide +kernel
theorem dLaw_law_1423 : decode cLaw_law 1423 = .ok (.laload, 1) := by decide +kernel
theorem dLaw_law_1424 : decode cLaw_law 1424 = .ok (.iload 7, 2) := by decide +kernel
theorem dLaw_law_1426 : decode cLaw_law 1426 = .ok (.i2l, 1) := by decide +kernel
theorem dLaw_law_1427 : decode cLaw_law 1427 = .ok (.lcmp, 1) := by decide +kernel
theorem dLaw_law_1428 : decode cLaw_law 1428 = .ok (.ifCond .eq 5, 3) := by decide +kernel
theorem dLaw_law_1431 : decode cLaw_law 1431 = .ok (.iconst 0, 1) := by decide +kernel
theorem dLaw_law_1432 : decode cLaw_law 1432 = .ok (.ireturn, 1) := by decide +kernel
theorem dLaw_law_1433 : decode cLaw_law 1433 = .ok (.goto 1779, 3) := by decide +kernel
theorem dLaw_law_1436 : decode cLaw_law 1436 = .ok (.aload_n 1, 1) := by decide +kernel
theorem dLaw_law_1437 : decode cLaw_law 1437 = .ok (.aload_n 3, 1) := by decide +kernel
theorem dLaw_law_1438 : decode cLaw_law 1438 = .ok (.invokestatic 260, 3) := by decide +kernel
theorem dLaw_law_1441 : decode cLaw_law 1441 = .ok (.istore 6, 2) := by decide +kernel
theorem dLaw_law_1443 : decode cLaw_law 1443 = .ok (.aload_n 2, 1) := by decide +kernel
theorem dLaw_law_1444 : decode cLaw_law 1444 = .ok (.invokevirtual 262, 3) := by decide +kernel
theorem dLaw_law_1447 : decode cLaw_law 1447 = .ok (.istore 7, 2) := by decide +kernel
theorem dLaw_law_1449 : decode cLaw_law 1449 = .ok (.aload_n 2, 1) := by decide +kernel
theorem dLaw_law_1450 : decode cLaw_law 1450 = .ok (.invokevirtual 196, 3) := by decide +kernel
theorem dLaw_law_1453 : decode cLaw_law 1453 = .ok (.iload 6, 2) := by decide +kernel
theorem dLaw_law_1455 : decode cLaw_law 1455 = .ok (.if_icmp .eq 5, 3) := by decide +kernel
theorem dLaw_law_1458 : decode cLaw_law 1458 = .ok (.iconst 0, 1) := by decide +kernel
theorem dLaw_law_1459 : decode cLaw_law 1459 = .ok (.ireturn, 1) := by decide +kernel
theorem dLaw_law_1460 : decode cLaw_law 1460 = .ok (.iload 6, 2) := by decide +kernel
theorem dLaw_law_1462 : decode cLaw_law 1462 = .ok (.ifCond .ne 22, 3) := by decide +kernel
theorem dLaw_law_1465 : decode cLaw_law 1465 = .ok (.aload_n 3, 1) := by decide +kernel
theorem dLaw_law_1466 : decode cLaw_law 1466 = .ok (.iconst 0, 1) := by decide +kernel
theorem dLaw_law_1467 : decode cLaw_law 1467 = .ok (.laload, 1) := by decide +kernel
theorem dLaw_law_1468 : decode cLaw_law 1468 = .ok (.iload 7, 2) := by decide +kernel
theorem dLaw_law_1470 : decode cLaw_law 1470 = .ok (.ifCond .eq 7, 3) := by decide +kernel
theorem dLaw_law_1473 : decode cLaw_law 1473 = .ok (.lconst 1, 1) := by decide +kernel
theorem dLaw_law_1474 : decode cLaw_law 1474 = .ok (.goto 4, 3) := by decide +kernel
theorem dLaw_law_1477 : decode cLaw_law 1477 = .ok (.lconst 0, 1) := by decide +kernel
theorem dLaw_law_1478 : decode cLaw_law 1478 = .ok (.lcmp, 1) := by decide +kernel
theorem dLaw_law_1479 : decode cLaw_law 1479 = .ok (.ifCond .eq 5, 3) := by decide +kernel
theorem dLaw_law_1482 : decode cLaw_law 1482 = .ok (.iconst 0, 1) := by decide +kernel
theorem dLaw_law_1483 : decode cLaw_law 1483 = .ok (.ireturn, 1) := by decide +kernel
theorem dLaw_law_1484 : decode cLaw_law 1484 = .ok (.goto 1728, 3) := by decide +kernel
theorem dLaw_law_1487 : decode cLaw_law 1487 = .ok (.aload_n 1, 1) := by decide +kernel
theorem dLaw_law_1488 : decode cLaw_law 1488 = .ok (.aload_n 3, 1) := by decide +kernel
theorem dLaw_law_1489 : decode cLaw_law 1489 = .ok (.invokestatic 263, 3) := by decide +kernel
theorem dLaw_law_1492 : decode cLaw_law 1492 = .ok (.istore 6, 2) := by decide +kernel
theorem dLaw_law_1494 : decode cLaw_law 1494 = .ok (.aload_n 2, 1) := by decide +kernel
theorem dLaw_law_1495 : decode cLaw_law 1495 = .ok (.invokevirtual 265, 3) := by decide +kernel
theorem dLaw_law_1498 : decode cLaw_law 1498 = .ok (.istore 7, 2) := by decide +kernel
theorem dLaw_law_1500 : decode cLaw_law 1500 = .ok (.aload_n 2, 1) := by decide +kernel
theorem dLaw_law_1501 : decode cLaw_law 1501 = .ok (.invokevirtual 196, 3) := by decide +kernel
theorem dLaw_law_1504 : decode cLaw_law 1504 = .ok (.iload 6, 2) := by decide +kernel
theorem dLaw_law_1506 : decode cLaw_law 1506 = .ok (.if_icmp .eq 5, 3) := by decide +kernel
theorem dLaw_law_1509 : decode cLaw_law 1509 = .ok (.iconst 0, 1) := by decide +kernel
theorem dLaw_law_1510 : decode cLaw_law 1510 = .ok (.ireturn, 1) := by decide +kernel
theorem dLaw_law_1511 : decode cLaw_law 1511 = .ok (.iload 6, 2) := by decide +kernel
theorem dLaw_law_1513 : decode cLaw_law 1513 = .ok (.ifCond .ne 15, 3) := by decide +kernel
theorem dLaw_law_1516 : decode cLaw_law 1516 = .ok (.aload_n 3, 1) := by decide +kernel
theorem dLaw_law_1517 : decode cLaw_law 1517 = .ok (.iconst 0, 1) := by decide +kernel
theorem dLaw_law_1518 : decode cLaw_law 1518 = .ok (.laload, 1) := by decide +kernel
theorem dLaw_law_1519 : decode cLaw_law 1519 = .ok (.iload 7, 2) := by decide +kernel
theorem dLaw_law_1521 : decode cLaw_law 1521 = .ok (.i2l, 1) := by decide +kernel
theorem dLaw_law_1522 : decode cLaw_law 1522 = .ok (.lcmp, 1) := by decide +kernel
theorem dLaw_law_1523 : decode cLaw_law 1523 = .ok (.ifCond .eq 5, 3) := by decide +kernel
theorem dLaw_law_1526 : decode cLaw_law 1526 = .ok (.iconst 0, 1) := by decide +kernel
theorem dLaw_law_1527 : decode cLaw_law 1527 = .ok (.ireturn, 1) := by decide +kernel
theorem dLaw_law_1528 : decode cLaw_law 1528 = .ok (.goto 1684, 3) := by decide +kernel
theorem dLaw_law_1531 : decode cLaw_law 1531 = .ok (.aload_n 1, 1) := by decide +kernel
theorem dLaw_law_1532 : decode cLaw_law 1532 = .ok (.aload_n 3, 1) := by decide +kernel
theorem dLaw_law_1533 : decode cLaw_law 1533 = .ok (.invokestatic 266, 3) := by decide +kernel
theorem dLaw_law_1536 : decode cLaw_law 1536 = .ok (.istore 6, 2) := by decide +kernel
theorem dLaw_law_1538 : decode cLaw_law 1538 = .ok (.aload_n 2, 1) := by decide +kernel
theorem dLaw_law_1539 : decode cLaw_law 1539 = .ok (.invokevirtual 268, 3) := by decide +kernel
theorem dLaw_law_1542 : decode cLaw_law 1542 = .ok (.istore 7, 2) := by decide +kernel
theorem dLaw_law_1544 : decode cLaw_law 1544 = .ok (.aload_n 2, 1) := by decide +kernel
theorem dLaw_law_1545 : decode cLaw_law 1545 = .ok (.invokevirtual 196, 3) := by decide +kernel
theorem dLaw_law_1548 : decode cLaw_law 1548 = .ok (.iload 6, 2) := by decide +kernel
theorem dLaw_law_1550 : decode cLaw_law 1550 = .ok (.if_icmp .eq 5, 3) := by decide +kernel
theorem dLaw_law_1553 : decode cLaw_law 1553 = .ok (.iconst 0, 1) := by decide +kernel
theorem dLaw_law_1554 : decode cLaw_law 1554 = .ok (.ireturn, 1) := by decide +kernel
theorem dLaw_law_1555 : decode cLaw_law 1555 = .ok (.iload 6, 2) := by decide +kernel
theorem dLaw_law_1557 : decode cLaw_law 1557 = .ok (.ifCond .ne 15, 3) := by decide +kernel
theorem dLaw_law_1560 : decode cLaw_law 1560 = .ok (.aload_n 3, 1) := by decide +kernel
theorem dLaw_law_1561 : decode cLaw_law 1561 = .ok (.iconst 0, 1) := by decide +kernel
theorem dLaw_law_1562 : decode cLaw_law 1562 = .ok (.laload, 1) := by decide +kernel
theorem dLaw_law_1563 : decode cLaw_law 1563 = .ok (.iload 7, 2) := by decide +kernel
theorem dLaw_law_1565 : decode cLaw_law 1565 = .ok (.i2l, 1) := by decide +kernel
theorem dLaw_law_1566 : decode cLaw_law 1566 = .ok (.lcmp, 1) := by decide +kernel
theorem dLaw_law_1567 : decode cLaw_law 1567 = .ok (.ifCond .eq 5, 3) := by decide +kernel
theorem dLaw_law_1570 : decode cLaw_law 1570 = .ok (.iconst 0, 1) := by decide +kernel
theorem dLaw_law_1571 : decode cLaw_law 1571 = .ok (.ireturn, 1) := by decide +kernel
theorem dLaw_law_1572 : decode cLaw_law 1572 = .ok (.goto 1640, 3) := by decide +kernel
theorem dLaw_law_1575 : decode cLaw_law 1575 = .ok (.aload_n 1, 1) := by decide +kernel
theorem dLaw_law_1576 : decode cLaw_law 1576 = .ok (.aload_n 3, 1) := by decide +kernel
theorem dLaw_law_1577 : decode cLaw_law 1577 = .ok (.invokestatic 269, 3) := by decide +kernel
theorem dLaw_law_1580 : decode cLaw_law 1580 = .ok (.istore 6, 2) := by decide +kernel
theorem dLaw_law_1582 : decode cLaw_law 1582 = .ok (.aload_n 2, 1) := by decide +kernel
theorem dLaw_law_1583 : decode cLaw_law 1583 = .ok (.invokevirtual 271, 3) := by decide +kernel
theorem dLaw_law_1586 : decode cLaw_law 1586 = .ok (.istore 7, 2) := by decide +kernel
theorem dLaw_law_1588 : decode cLaw_law 1588 = .ok (.aload_n 2, 1) := by decide +kernel
theorem dLaw_law_1589 : decode cLaw_law 1589 = .ok (.invokevirtual 196, 3) := by decide +kernel
theorem dLaw_law_1592 : decode cLaw_law 1592 = .ok (.iload 6, 2) := by decide +kernel
theorem dLaw_law_1594 : decode cLaw_law 1594 = .ok (.if_icmp .eq 5, 3) := by decide +kernel
theorem dLaw_law_1597 : decode cLaw_law 1597 = .ok (.iconst 0, 1) := by decide +kernel
theorem dLaw_law_1598 : decode cLaw_law 1598 = .ok (.ireturn, 1) := by decide +kernel
theorem dLaw_law_1599 : decode cLaw_law 1599 = .ok (.iload 6, 2) := by decide +kernel
theorem dLaw_law_1601 : decode cLaw_law 1601 = .ok (.ifCond .ne 15, 3) := by decide +kernel
theorem dLaw_law_1604 : decode cLaw_law 1604 = .ok (.aload_n 3, 1) := by decide +kernel
theorem dLaw_law_1605 : decode cLaw_law 1605 = .ok (.iconst 0, 1) := by decide +kernel
theorem dLaw_law_1606 : decode cLaw_law 1606 = .ok (.laload, 1) := by decide +kernel
theorem dLaw_law_1607 : decode cLaw_law 1607 = .ok (.iload 7, 2) := by decide +kernel
theorem dLaw_law_1609 : decode cLaw_law 1609 = .ok (.i2l, 1) := by decide +kernel
theorem dLaw_law_1610 : decode cLaw_law 1610 = .ok (.lcmp, 1) := by decide +kernel
theorem dLaw_law_1611 : decode cLaw_law 1611 = .ok (.ifCond .eq 5, 3) := by decide +kernel
theorem dLaw_law_1614 : decode cLaw_law 1614 = .ok (.iconst 0, 1) := by decide +kernel
theorem dLaw_law_1615 : decode cLaw_law 1615 = .ok (.ireturn, 1) := by decide +kernel
theorem dLaw_law_1616 : decode cLaw_law 1616 = .ok (.goto 1596, 3) := by decide +kernel
theorem dLaw_law_1619 : decode cLaw_law 1619 = .ok (.aload_n 1, 1) := by decide +kernel
theorem dLaw_law_1620 : decode cLaw_law 1620 = .ok (.aload_n 0, 1) := by decide +kernel
theorem dLaw_law_1621 : decode cLaw_law 1621 = .ok (.iload 5, 2) := by decide +kernel
theorem dLaw_law_1623 : decode cLaw_law 1623 = .ok (.iconst 1, 1) := by decide +kernel
theorem dLaw_law_1624 : decode cLaw_law 1624 = .ok (.iadd, 1) := by decide +kernel
theorem dLaw_law_1625 : decode cLaw_law 1625 = .ok (.iaload, 1) := by decide +kernel
theorem dLaw_law_1626 : decode cLaw_law 1626 = .ok (.aload_n 3, 1) := by decide +kernel
theorem dLaw_law_1627 : decode cLaw_law 1627 = .ok (.invokestatic 272, 3) := by decide +kernel
theorem dLaw_law_1630 : decode cLaw_law 1630 = .ok (.istore 6, 2) := by decide +kernel
theorem dLaw_law_1632 : decode cLaw_law 1632 = .ok (.aload_n 2, 1) := by decide +kernel
theorem dLaw_law_1633 : decode cLaw_law 1633 = .ok (.aload_n 0, 1) := by decide +kernel
theorem dLaw_law_1634 : decode cLaw_law 1634 = .ok (.iload 5, 2) := by decide +kernel
theorem dLaw_law_1636 : decode cLaw_law 1636 = .ok (.iconst 1, 1) := by decide +kernel
theorem dLaw_law_1637 : decode cLaw_law 1637 = .ok (.iadd, 1) := by decide +kernel
theorem dLaw_law_1638 : decode cLaw_law 1638 = .ok (.iaload, 1) := by decide +kernel
theorem dLaw_law_1639 : decode cLaw_law 1639 = .ok (.invokevirtual 274, 3) := by decide +kernel
theorem dLaw_law_1642 : decode cLaw_law 1642 = .ok (.istore 7, 2) := by decide +kernel
theorem dLaw_law_1644 : decode cLaw_law 1644 = .ok (.aload_n 2, 1) := by decide +kernel
theorem dLaw_law_1645 : decode cLaw_law 1645 = .ok (.invokevirtual 196, 3) := by decide +kernel
theorem dLaw_law_1648 : decode cLaw_law 1648 = .ok (.iload 6, 2) := by decide +kernel
theorem dLaw_law_1650 : decode cLaw_law 1650 = .ok (.if_icmp .eq 5, 3) := by decide +kernel
theorem dLaw_law_1653 : decode cLaw_law 1653 = .ok (.iconst 0, 1) := by decide +kernel
theorem dLaw_law_1654 : decode cLaw_law 1654 = .ok (.ireturn, 1) := by decide +kernel
theorem dLaw_law_1655 : decode cLaw_law 1655 = .ok (.iload 6, 2) := by decide +kernel
theorem dLaw_law_1657 : decode cLaw_law 1657 = .ok (.ifCond .ne 15, 3) := by decide +kernel
theorem dLaw_law_1660 : decode cLaw_law 1660 = .ok (.aload_n 3, 1) := by decide +kernel
theorem dLaw_law_1661 : decode cLaw_law 1661 = .ok (.iconst 0, 1) := by decide +kernel
theorem dLaw_law_1662 : decode cLaw_law 1662 = .ok (.laload, 1) := by decide +kernel
theorem dLaw_law_1663 : decode cLaw_law 1663 = .ok (.iload 7, 2) := by decide +kernel
theorem dLaw_law_1665 : decode cLaw_law 1665 = .ok (.i2l, 1) := by decide +kernel
theorem dLaw_law_1666 : decode cLaw_law 1666 = .ok (.lcmp, 1) := by decide +kernel
theorem dLaw_law_1667 : decode cLaw_law 1667 = .ok (.ifCond .eq 5, 3) := by decide +kernel
theorem dLaw_law_1670 : decode cLaw_law 1670 = .ok (.iconst 0, 1) := by decide +kernel
theorem dLaw_law_1671 : decode cLaw_law 1671 = .ok (.ireturn, 1) := by decide +kernel
theorem dLaw_law_1672 : decode cLaw_law 1672 = .ok (.goto 1540, 3) := by decide +kernel
theorem dLaw_law_1675 : decode cLaw_law 1675 = .ok (.aload_n 1, 1) := by decide +kernel
theorem dLaw_law_1676 : decode cLaw_law 1676 = .ok (.aload_n 0, 1) := by decide +kernel
theorem dLaw_law_1677 : decode cLaw_law 1677 = .ok (.iload 5, 2) := by decide +kernel
theorem dLaw_law_1679 : decode cLaw_law 1679 = .ok (.iconst 1, 1) := by decide +kernel
theorem dLaw_law_1680 : decode cLaw_law 1680 = .ok (.iadd, 1) := by decide +kernel
theorem dLaw_law_1681 : decode cLaw_law 1681 = .ok (.iaload, 1) := by decide +kernel
theorem dLaw_law_1682 : decode cLaw_law 1682 = .ok (.aload_n 3, 1) := by decide +kernel
theorem dLaw_law_1683 : decode cLaw_law 1683 = .ok (.invokestatic 275, 3) := by decide +kernel
theorem dLaw_law_1686 : decode cLaw_law 1686 = .ok (.istore 6, 2) := by decide +kernel
theorem dLaw_law_1688 : decode cLaw_law 1688 = .ok (.aload_n 2, 1) := by decide +kernel
theorem dLaw_law_1689 : decode cLaw_law 1689 = .ok (.aload_n 0, 1) := by decide +kernel
theorem dLaw_law_1690 : decode cLaw_law 1690 = .ok (.iload 5, 2) := by decide +kernel
theorem dLaw_law_1692 : decode cLaw_law 1692 = .ok (.iconst 1, 1) := by decide +kernel
theorem dLaw_law_1693 : decode cLaw_law 1693 = .ok (.iadd, 1) := by decide +kernel
theorem dLaw_law_1694 : decode cLaw_law 1694 = .ok (.iaload, 1) := by decide +kernel
theorem dLaw_law_1695 : decode cLaw_law 1695 = .ok (.invokevirtual 277, 3) := by decide +kernel
theorem dLaw_law_1698 : decode cLaw_law 1698 = .ok (.istore 7, 2) := by decide +kernel
theorem dLaw_law_1700 : decode cLaw_law 1700 = .ok (.aload_n 2, 1) := by decide +kernel
theorem dLaw_law_1701 : decode cLaw_law 1701 = .ok (.invokevirtual 196, 3) := by decide +kernel
theorem dLaw_law_1704 : decode cLaw_law 1704 = .ok (.iload 6, 2) := by decide +kernel
theorem dLaw_law_1706 : decode cLaw_law 1706 = .ok (.if_icmp .eq 5, 3) := by decide +kernel
theorem dLaw_law_1709 : decode cLaw_law 1709 = .ok (.iconst 0, 1) := by decide +kernel
theorem dLaw_law_1710 : decode cLaw_law 1710 = .ok (.ireturn, 1) := by decide +kernel
theorem dLaw_law_1711 : decode cLaw_law 1711 = .ok (.iload 6, 2) := by decide +kernel
theorem dLaw_law_1713 : decode cLaw_law 1713 = .ok (.ifCond .ne 15, 3) := by decide +kernel
theorem dLaw_law_1716 : decode cLaw_law 1716 = .ok (.aload_n 3, 1) := by decide +kernel
theorem dLaw_law_1717 : decode cLaw_law 1717 = .ok (.iconst 0, 1) := by decide +kernel
theorem dLaw_law_1718 : decode cLaw_law 1718 = .ok (.laload, 1) := by decide +kernel
theorem dLaw_law_1719 : decode cLaw_law 1719 = .ok (.iload 7, 2) := by decide +kernel
theorem dLaw_law_1721 : decode cLaw_law 1721 = .ok (.i2l, 1) := by decide +kernel
theorem dLaw_law_1722 : decode cLaw_law 1722 = .ok (.lcmp, 1) := by decide +kernel
theorem dLaw_law_1723 : decode cLaw_law 1723 = .ok (.ifCond .eq 5, 3) := by decide +kernel
theorem dLaw_law_1726 : decode cLaw_law 1726 = .ok (.iconst 0, 1) := by decide +kernel
theorem dLaw_law_1727 : decode cLaw_law 1727 = .ok (.ireturn, 1) := by decide +kernel
theorem dLaw_law_1728 : decode cLaw_law 1728 = .ok (.goto 1484, 3) := by decide +kernel
theorem dLaw_law_1731 : decode cLaw_law 1731 = .ok (.aload_n 1, 1) := by decide +kernel
theorem dLaw_law_1732 : decode cLaw_law 1732 = .ok (.aload_n 0, 1) := by decide +kernel
theorem dLaw_law_1733 : decode cLaw_law 1733 = .ok (.iload 5, 2) := by decide +kernel
theorem dLaw_law_1735 : decode cLaw_law 1735 = .ok (.iconst 1, 1) := by decide +kernel
theorem dLaw_law_1736 : decode cLaw_law 1736 = .ok (.iadd, 1) := by decide +kernel
theorem dLaw_law_1737 : decode cLaw_law 1737 = .ok (.iaload, 1) := by decide +kernel
theorem dLaw_law_1738 : decode cLaw_law 1738 = .ok (.aload_n 3, 1) := by decide +kernel
theorem dLaw_law_1739 : decode cLaw_law 1739 = .ok (.invokestatic 278, 3) := by decide +kernel
theorem dLaw_law_1742 : decode cLaw_law 1742 = .ok (.istore 6, 2) := by decide +kernel
theorem dLaw_law_1744 : decode cLaw_law 1744 = .ok (.aload_n 2, 1) := by decide +kernel
theorem dLaw_law_1745 : decode cLaw_law 1745 = .ok (.aload_n 0, 1) := by decide +kernel
theorem dLaw_law_1746 : decode cLaw_law 1746 = .ok (.iload 5, 2) := by decide +kernel
theorem dLaw_law_1748 : decode cLaw_law 1748 = .ok (.iconst 1, 1) := by decide +kernel
theorem dLaw_law_1749 : decode cLaw_law 1749 = .ok (.iadd, 1) := by decide +kernel
theorem dLaw_law_1750 : decode cLaw_law 1750 = .ok (.iaload, 1) := by decide +kernel
theorem dLaw_law_1751 : decode cLaw_law 1751 = .ok (.invokevirtual 280, 3) := by decide +kernel
theorem dLaw_law_1754 : decode cLaw_law 1754 = .ok (.istore 7, 2) := by decide +kernel
theorem dLaw_law_1756 : decode cLaw_law 1756 = .ok (.aload_n 2, 1) := by decide +kernel
theorem dLaw_law_1757 : decode cLaw_law 1757 = .ok (.invokevirtual 196, 3) := by decide +kernel
theorem dLaw_law_1760 : decode cLaw_law 1760 = .ok (.iload 6, 2) := by decide +kernel
theorem dLaw_law_1762 : decode cLaw_law 1762 = .ok (.if_icmp .eq 5, 3) := by decide +kernel
theorem dLaw_law_1765 : decode cLaw_law 1765 = .ok (.iconst 0, 1) := by decide +kernel
theorem dLaw_law_1766 : decode cLaw_law 1766 = .ok (.ireturn, 1) := by decide +kernel
theorem dLaw_law_1767 : decode cLaw_law 1767 = .ok (.iload 6, 2) := by decide +kernel
theorem dLaw_law_1769 : decode cLaw_law 1769 = .ok (.ifCond .ne 15, 3) := by decide +kernel
theorem dLaw_law_1772 : decode cLaw_law 1772 = .ok (.aload_n 3, 1) := by decide +kernel
theorem dLaw_law_1773 : decode cLaw_law 1773 = .ok (.iconst 0, 1) := by decide +kernel
theorem dLaw_law_1774 : decode cLaw_law 1774 = .ok (.laload, 1) := by decide +kernel
theorem dLaw_law_1775 : decode cLaw_law 1775 = .ok (.iload 7, 2) := by decide +kernel
theorem dLaw_law_1777 : decode cLaw_law 1777 = .ok (.i2l, 1) := by decide +kernel
theorem dLaw_law_1778 : decode cLaw_law 1778 = .ok (.lcmp, 1) := by decide +kernel
theorem dLaw_law_1779 : decode cLaw_law 1779 = .ok (.ifCond .eq 5, 3) := by decide +kernel
theorem dLaw_law_1782 : decode cLaw_law 1782 = .ok (.iconst 0, 1) := by decide +kernel
theorem dLaw_law_1783 : decode cLaw_law 1783 = .ok (.ireturn, 1) := by decide +kernel
theorem dLaw_law_1784 : decode cLaw_law 1784 = .ok (.goto 1428, 3) := by decide +kernel
theorem dLaw_law_1787 : decode cLaw_law 1787 = .ok (.aload_n 1, 1) := by decide +kernel
theorem dLaw_law_1788 : decode cLaw_law 1788 = .ok (.aload_n 0, 1) := by decide +kernel
theorem dLaw_law_1789 : decode cLaw_law 1789 = .ok (.iload 5, 2) := by decide +kernel
theorem dLaw_law_1791 : decode cLaw_law 1791 = .ok (.iconst 1, 1) := by decide +kernel
theorem dLaw_law_1792 : decode cLaw_law 1792 = .ok (.iadd, 1) := by decide +kernel
theorem dLaw_law_1793 : decode cLaw_law 1793 = .ok (.iaload, 1) := by decide +kernel
theorem dLaw_law_1794 : decode cLaw_law 1794 = .ok (.aload_n 0, 1) := by decide +kernel
theorem dLaw_law_1795 : decode cLaw_law 1795 = .ok (.iload 5, 2) := by decide +kernel
theorem dLaw_law_1797 : decode cLaw_law 1797 = .ok (.iconst 2, 1) := by decide +kernel
theorem dLaw_law_1798 : decode cLaw_law 1798 = .ok (.iadd, 1) := by decide +kernel
theorem dLaw_law_1799 : decode cLaw_law 1799 = .ok (.iaload, 1) := by decide +kernel
theorem dLaw_law_1800 : decode cLaw_law 1800 = .ok (.aload_n 3, 1) := by decide +kernel
theorem dLaw_law_1801 : decode cLaw_law 1801 = .ok (.invokestatic 281, 3) := by decide +kernel
theorem dLaw_law_1804 : decode cLaw_law 1804 = .ok (.istore 6, 2) := by decide +kernel
theorem dLaw_law_1806 : decode cLaw_law 1806 = .ok (.aload_n 2, 1) := by decide +kernel
theorem dLaw_law_1807 : decode cLaw_law 1807 = .ok (.aload_n 0, 1) := by decide +kernel
theorem dLaw_law_1808 : decode cLaw_law 1808 = .ok (.iload 5, 2) := by decide +kernel
theorem dLaw_law_1810 : decode cLaw_law 1810 = .ok (.iconst 1, 1) := by decide +kernel
theorem dLaw_law_1811 : decode cLaw_law 1811 = .ok (.iadd, 1) := by decide +kernel
theorem dLaw_law_1812 : decode cLaw_law 1812 = .ok (.iaload, 1) := by decide +kernel
theorem dLaw_law_1813 : decode cLaw_law 1813 = .ok (.aload_n 0, 1) := by decide +kernel
theorem dLaw_law_1814 : decode cLaw_law 1814 = .ok (.iload 5, 2) := by decide +kernel
theorem dLaw_law_1816 : decode cLaw_law 1816 = .ok (.iconst 2, 1) := by decide +kernel
theorem dLaw_law_1817 : decode cLaw_law 1817 = .ok (.iadd, 1) := by decide +kernel
theorem dLaw_law_1818 : decode cLaw_law 1818 = .ok (.iaload, 1) := by decide +kernel
theorem dLaw_law_1819 : decode cLaw_law 1819 = .ok (.invokevirtual 283, 3) := by decide +kernel
theorem dLaw_law_1822 : decode cLaw_law 1822 = .ok (.istore 7, 2) := by decide +kernel
theorem dLaw_law_1824 : decode cLaw_law 1824 = .ok (.aload_n 2, 1) := by decide +kernel
theorem dLaw_law_1825 : decode cLaw_law 1825 = .ok (.invokevirtual 196, 3) := by decide +kernel
theorem dLaw_law_1828 : decode cLaw_law 1828 = .ok (.iload 6, 2) := by decide +kernel
theorem dLaw_law_1830 : decode cLaw_law 1830 = .ok (.if_icmp .eq 5, 3) := by decide +kernel
theorem dLaw_law_1833 : decode cLaw_law 1833 = .ok (.iconst 0, 1) := by decide +kernel
theorem dLaw_law_1834 : decode cLaw_law 1834 = .ok (.ireturn, 1) := by decide +kernel
theorem dLaw_law_1835 : decode cLaw_law 1835 = .ok (.iload 6, 2) := by decide +kernel
theorem dLaw_law_1837 : decode cLaw_law 1837 = .ok (.ifCond .ne 15, 3) := by decide +kernel
theorem dLaw_law_1840 : decode cLaw_law 1840 = .ok (.aload_n 3, 1) := by decide +kernel
theorem dLaw_law_1841 : decode cLaw_law 1841 = .ok (.iconst 0, 1) := by decide +kernel
theorem dLaw_law_1842 : decode cLaw_law 1842 = .ok (.laload, 1) := by decide +kernel
theorem dLaw_law_1843 : decode cLaw_law 1843 = .ok (.iload 7, 2) := by decide +kernel
theorem dLaw_law_1845 : decode cLaw_law 1845 = .ok (.i2l, 1) := by decide +kernel
theorem dLaw_law_1846 : decode cLaw_law 1846 = .ok (.lcmp, 1) := by decide +kernel
theorem dLaw_law_1847 : decode cLaw_law 1847 = .ok (.ifCond .eq 5, 3) := by decide +kernel
theorem dLaw_law_1850 : decode cLaw_law 1850 = .ok (.iconst 0, 1) := by decide +kernel
theorem dLaw_law_1851 : decode cLaw_law 1851 = .ok (.ireturn, 1) := by decide +kernel
theorem dLaw_law_1852 : decode cLaw_law 1852 = .ok (.goto 1360, 3) := by decide +kernel
theorem dLaw_law_1855 : decode cLaw_law 1855 = .ok (.aload_n 1, 1) := by decide +kernel
theorem dLaw_law_1856 : decode cLaw_law 1856 = .ok (.aload_n 3, 1) := by decide +kernel
theorem dLaw_law_1857 : decode cLaw_law 1857 = .ok (.invokestatic 284, 3) := by decide +kernel
theorem dLaw_law_1860 : decode cLaw_law 1860 = .ok (.istore 6, 2) := by decide +kernel
theorem dLaw_law_1862 : decode cLaw_law 1862 = .ok (.aload_n 2, 1) := by decide +kernel
theorem dLaw_law_1863 : decode cLaw_law 1863 = .ok (.invokevirtual 286, 3) := by decide +kernel
theorem dLaw_law_1866 : decode cLaw_law 1866 = .ok (.istore 7, 2) := by decide +kernel
theorem dLaw_law_1868 : decode cLaw_law 1868 = .ok (.aload_n 2, 1) := by decide +kernel
theorem dLaw_law_1869 : decode cLaw_law 1869 = .ok (.invokevirtual 196, 3) := by decide +kernel
theorem dLaw_law_1872 : decode cLaw_law 1872 = .ok (.iload 6, 2) := by decide +kernel
theorem dLaw_law_1874 : decode cLaw_law 1874 = .ok (.if_icmp .eq 5, 3) := by decide +kernel
theorem dLaw_law_1877 : decode cLaw_law 1877 = .ok (.iconst 0, 1) := by decide +kernel
theorem dLaw_law_1878 : decode cLaw_law 1878 = .ok (.ireturn, 1) := by decide +kernel
theorem dLaw_law_1879 : decode cLaw_law 1879 = .ok (.iload 6, 2) := by decide +kernel
theorem dLaw_law_1881 : decode cLaw_law 1881 = .ok (.ifCond .ne 15, 3) := by decide +kernel
theorem dLaw_law_1884 : decode cLaw_law 1884 = .ok (.aload_n 3, 1) := by decide +kernel
theorem dLaw_law_1885 : decode cLaw_law 1885 = .ok (.iconst 0, 1) := by decide +kernel
theorem dLaw_law_1886 : decode cLaw_law 1886 = .ok (.laload, 1) := by decide +kernel
theorem dLaw_law_1887 : decode cLaw_law 1887 = .ok (.iload 7, 2) := by decide +kernel
theorem dLaw_law_1889 : decode cLaw_law 1889 = .ok (.i2l, 1) := by decide +kernel
theorem dLaw_law_1890 : decode cLaw_law 1890 = .ok (.lcmp, 1) := by decide +kernel
theorem dLaw_law_1891 : decode cLaw_law 1891 = .ok (.ifCond .eq 5, 3) := by decide +kernel
theorem dLaw_law_1894 : decode cLaw_law 1894 = .ok (.iconst 0, 1) := by decide +kernel
theorem dLaw_law_1895 : decode cLaw_law 1895 = .ok (.ireturn, 1) := by decide +kernel
theorem dLaw_law_1896 : decode cLaw_law 1896 = .ok (.goto 1316, 3) := by decide +kernel
theorem dLaw_law_1899 : decode cLaw_law 1899 = .ok (.aload_n 1, 1) := by decide +kernel
theorem dLaw_law_1900 : decode cLaw_law 1900 = .ok (.aload_n 0, 1) := by decide +kernel
theorem dLaw_law_1901 : decode cLaw_law 1901 = .ok (.iload 5, 2) := by decide +kernel
theorem dLaw_law_1903 : decode cLaw_law 1903 = .ok (.iconst 1, 1) := by decide +kernel
theorem dLaw_law_1904 : decode cLaw_law 1904 = .ok (.iadd, 1) := by decide +kernel
theorem dLaw_law_1905 : decode cLaw_law 1905 = .ok (.iaload, 1) := by decide +kernel
theorem dLaw_law_1906 : decode cLaw_law 1906 = .ok (.aload_n 3, 1) := by decide +kernel
theorem dLaw_law_1907 : decode cLaw_law 1907 = .ok (.invokestatic 287, 3) := by decide +kernel
theorem dLaw_law_1910 : decode cLaw_law 1910 = .ok (.istore 6, 2) := by decide +kernel
theorem dLaw_law_1912 : decode cLaw_law 1912 = .ok (.aload_n 2, 1) := by decide +kernel
theorem dLaw_law_1913 : decode cLaw_law 1913 = .ok (.aload_n 0, 1) := by decide +kernel
theorem dLaw_law_1914 : decode cLaw_law 1914 = .ok (.iload 5, 2) := by decide +kernel
theorem dLaw_law_1916 : decode cLaw_law 1916 = .ok (.iconst 1, 1) := by decide +kernel
theorem dLaw_law_1917 : decode cLaw_law 1917 = .ok (.iadd, 1) := by decide +kernel
theorem dLaw_law_1918 : decode cLaw_law 1918 = .ok (.iaload, 1) := by decide +kernel
theorem dLaw_law_1919 : decode cLaw_law 1919 = .ok (.invokevirtual 289, 3) := by decide +kernel
theorem dLaw_law_1922 : decode cLaw_law 1922 = .ok (.istore 7, 2) := by decide +kernel
theorem dLaw_law_1924 : decode cLaw_law 1924 = .ok (.aload_n 2, 1) := by decide +kernel
theorem dLaw_law_1925 : decode cLaw_law 1925 = .ok (.invokevirtual 196, 3) := by decide +kernel
theorem dLaw_law_1928 : decode cLaw_law 1928 = .ok (.iload 6, 2) := by decide +kernel
theorem dLaw_law_1930 : decode cLaw_law 1930 = .ok (.if_icmp .eq 5, 3) := by decide +kernel
theorem dLaw_law_1933 : decode cLaw_law 1933 = .ok (.iconst 0, 1) := by decide +kernel
theorem dLaw_law_1934 : decode cLaw_law 1934 = .ok (.ireturn, 1) := by decide +kernel
theorem dLaw_law_1935 : decode cLaw_law 1935 = .ok (.iload 6, 2) := by decide +kernel
theorem dLaw_law_1937 : decode cLaw_law 1937 = .ok (.ifCond .ne 15, 3) := by decide +kernel
theorem dLaw_law_1940 : decode cLaw_law 1940 = .ok (.aload_n 3, 1) := by decide +kernel
theorem dLaw_law_1941 : decode cLaw_law 1941 = .ok (.iconst 0, 1) := by decide +kernel
theorem dLaw_law_1942 : decode cLaw_law 1942 = .ok (.laload, 1) := by decide +kernel
theorem dLaw_law_1943 : decode cLaw_law 1943 = .ok (.iload 7, 2) := by decide +kernel
theorem dLaw_law_1945 : decode cLaw_law 1945 = .ok (.i2l, 1) := by decide +kernel
theorem dLaw_law_1946 : decode cLaw_law 1946 = .ok (.lcmp, 1) := by decide +kernel
theorem dLaw_law_1947 : decode cLaw_law 1947 = .ok (.ifCond .eq 5, 3) := by decide +kernel
theorem dLaw_law_1950 : decode cLaw_law 1950 = .ok (.iconst 0, 1) := by decide +kernel
theorem dLaw_law_1951 : decode cLaw_law 1951 = .ok (.ireturn, 1) := by decide +kernel
theorem dLaw_law_1952 : decode cLaw_law 1952 = .ok (.goto 1260, 3) := by decide +kernel
theorem dLaw_law_1955 : decode cLaw_law 1955 = .ok (.aload_n 1, 1) := by decide +kernel
theorem dLaw_law_1956 : decode cLaw_law 1956 = .ok (.aload_n 3, 1) := by decide +kernel
theorem dLaw_law_1957 : decode cLaw_law 1957 = .ok (.invokestatic 290, 3) := by decide +kernel
theorem dLaw_law_1960 : decode cLaw_law 1960 = .ok (.istore 6, 2) := by decide +kernel
theorem dLaw_law_1962 : decode cLaw_law 1962 = .ok (.aload_n 2, 1) := by decide +kernel
theorem dLaw_law_1963 : decode cLaw_law 1963 = .ok (.invokevirtual 292, 3) := by decide +kernel
theorem dLaw_law_1966 : decode cLaw_law 1966 = .ok (.istore 7, 2) := by decide +kernel
theorem dLaw_law_1968 : decode cLaw_law 1968 = .ok (.aload_n 2, 1) := by decide +kernel
theorem dLaw_law_1969 : decode cLaw_law 1969 = .ok (.invokevirtual 196, 3) := by decide +kernel
theorem dLaw_law_1972 : decode cLaw_law 1972 = .ok (.iload 6, 2) := by decide +kernel
theorem dLaw_law_1974 : decode cLaw_law 1974 = .ok (.if_icmp .eq 5, 3) := by decide +kernel
theorem dLaw_law_1977 : decode cLaw_law 1977 = .ok (.iconst 0, 1) := by decide +kernel
theorem dLaw_law_1978 : decode cLaw_law 1978 = .ok (.ireturn, 1) := by decide +kernel
theorem dLaw_law_1979 : decode cLaw_law 1979 = .ok (.iload 6, 2) := by decide +kernel
theorem dLaw_law_1981 : decode cLaw_law 1981 = .ok (.ifCond .ne 15, 3) := by decide +kernel
theorem dLaw_law_1984 : decode cLaw_law 1984 = .ok (.aload_n 3, 1) := by decide +kernel
theorem dLaw_law_1985 : decode cLaw_law 1985 = .ok (.iconst 0, 1) := by decide +kernel
theorem dLaw_law_1986 : decode cLaw_law 1986 = .ok (.laload, 1) := by decide +kernel
theorem dLaw_law_1987 : decode cLaw_law 1987 = .ok (.iload 7, 2) := by decide +kernel
theorem dLaw_law_1989 : decode cLaw_law 1989 = .ok (.i2l, 1) := by decide +kernel
theorem dLaw_law_1990 : decode cLaw_law 1990 = .ok (.lcmp, 1) := by decide +kernel
theorem dLaw_law_1991 : decode cLaw_law 1991 = .ok (.ifCond .eq 5, 3) := by decide +kernel
theorem dLaw_law_1994 : decode cLaw_law 1994 = .ok (.iconst 0, 1) := by decide +kernel
theorem dLaw_law_1995 : decode cLaw_law 1995 = .ok (.ireturn, 1) := by decide +kernel
theorem dLaw_law_1996 : decode cLaw_law 1996 = .ok (.goto 1216, 3) := by decide +kernel
theorem dLaw_law_1999 : decode cLaw_law 1999 = .ok (.aload_n 1, 1) := by decide +kernel
theorem dLaw_law_2000 : decode cLaw_law 2000 = .ok (.aload_n 3, 1) := by decide +kernel
theorem dLaw_law_2001 : decode cLaw_law 2001 = .ok (.invokestatic 293, 3) := by decide +kernel
theorem dLaw_law_2004 : decode cLaw_law 2004 = .ok (.istore 6, 2) := by decide +kernel
theorem dLaw_law_2006 : decode cLaw_law 2006 = .ok (.aload_n 2, 1) := by decide +kernel
theorem dLaw_law_2007 : decode cLaw_law 2007 = .ok (.invokevirtual 295, 3) := by decide +kernel
theorem dLaw_law_2010 : decode cLaw_law 2010 = .ok (.istore 7, 2) := by decide +kernel
theorem dLaw_law_2012 : decode cLaw_law 2012 = .ok (.aload_n 2, 1) := by decide +kernel
theorem dLaw_law_2013 : decode cLaw_law 2013 = .ok (.invokevirtual 196, 3) := by decide +kernel
theorem dLaw_law_2016 : decode cLaw_law 2016 = .ok (.iload 6, 2) := by decide +kernel
theorem dLaw_law_2018 : decode cLaw_law 2018 = .ok (.if_icmp .eq 5, 3) := by decide +kernel
theorem dLaw_law_2021 : decode cLaw_law 2021 = .ok (.iconst 0, 1) := by decide +kernel
theorem dLaw_law_2022 : decode cLaw_law 2022 = .ok (.ireturn, 1) := by decide +kernel
theorem dLaw_law_2023 : decode cLaw_law 2023 = .ok (.iload 6, 2) := by decide +kernel
theorem dLaw_law_2025 : decode cLaw_law 2025 = .ok (.ifCond .ne 15, 3) := by decide +kernel
theorem dLaw_law_2028 : decode cLaw_law 2028 = .ok (.aload_n 3, 1) := by decide +kernel
theorem dLaw_law_2029 : decode cLaw_law 2029 = .ok (.iconst 0, 1) := by decide +kernel
theorem dLaw_law_2030 : decode cLaw_law 2030 = .ok (.laload, 1) := by decide +kernel
theorem dLaw_law_2031 : decode cLaw_law 2031 = .ok (.iload 7, 2) := by decide +kernel
theorem dLaw_law_2033 : decode cLaw_law 2033 = .ok (.i2l, 1) := by decide +kernel
theorem dLaw_law_2034 : decode cLaw_law 2034 = .ok (.lcmp, 1) := by decide +kernel
theorem dLaw_law_2035 : decode cLaw_law 2035 = .ok (.ifCond .eq 5, 3) := by decide +kernel
theorem dLaw_law_2038 : decode cLaw_law 2038 = .ok (.iconst 0, 1) := by decide +kernel
theorem dLaw_law_2039 : decode cLaw_law 2039 = .ok (.ireturn, 1) := by decide +kernel
theorem dLaw_law_2040 : decode cLaw_law 2040 = .ok (.goto 1172, 3) := by decide +kernel
theorem dLaw_law_2043 : decode cLaw_law 2043 = .ok (.aload_n 1, 1) := by decide +kernel
theorem dLaw_law_2044 : decode cLaw_law 2044 = .ok (.aload_n 0, 1) := by decide +kernel
theorem dLaw_law_2045 : decode cLaw_law 2045 = .ok (.iload 5, 2) := by decide +kernel
theorem dLaw_law_2047 : decode cLaw_law 2047 = .ok (.iconst 1, 1) := by decide +kernel
theorem dLaw_law_2048 : decode cLaw_law 2048 = .ok (.iadd, 1) := by decide +kernel
theorem dLaw_law_2049 : decode cLaw_law 2049 = .ok (.iaload, 1) := by decide +kernel
theorem dLaw_law_2050 : decode cLaw_law 2050 = .ok (.aload_n 3, 1) := by decide +kernel
theorem dLaw_law_2051 : decode cLaw_law 2051 = .ok (.invokestatic 296, 3) := by decide +kernel
theorem dLaw_law_2054 : decode cLaw_law 2054 = .ok (.istore 6, 2) := by decide +kernel
theorem dLaw_law_2056 : decode cLaw_law 2056 = .ok (.aload_n 2, 1) := by decide +kernel
theorem dLaw_law_2057 : decode cLaw_law 2057 = .ok (.aload_n 0, 1) := by decide +kernel
theorem dLaw_law_2058 : decode cLaw_law 2058 = .ok (.iload 5, 2) := by decide +kernel
theorem dLaw_law_2060 : decode cLaw_law 2060 = .ok (.iconst 1, 1) := by decide +kernel
theorem dLaw_law_2061 : decode cLaw_law 2061 = .ok (.iadd, 1) := by decide +kernel
theorem dLaw_law_2062 : decode cLaw_law 2062 = .ok (.iaload, 1) := by decide +kernel
theorem dLaw_law_2063 : decode cLaw_law 2063 = .ok (.invokevirtual 298, 3) := by decide +kernel
theorem dLaw_law_2066 : decode cLaw_law 2066 = .ok (.istore 7, 2) := by decide +kernel
theorem dLaw_law_2068 : decode cLaw_law 2068 = .ok (.aload_n 2, 1) := by decide +kernel
theorem dLaw_law_2069 : decode cLaw_law 2069 = .ok (.invokevirtual 196, 3) := by decide +kernel
theorem dLaw_law_2072 : decode cLaw_law 2072 = .ok (.iload 6, 2) := by decide +kernel
theorem dLaw_law_2074 : decode cLaw_law 2074 = .ok (.if_icmp .eq 5, 3) := by decide +kernel
theorem dLaw_law_2077 : decode cLaw_law 2077 = .ok (.iconst 0, 1) := by decide +kernel
theorem dLaw_law_2078 : decode cLaw_law 2078 = .ok (.ireturn, 1) := by decide +kernel
theorem dLaw_law_2079 : decode cLaw_law 2079 = .ok (.iload 6, 2) := by decide +kernel
theorem dLaw_law_2081 : decode cLaw_law 2081 = .ok (.ifCond .ne 22, 3) := by decide +kernel
theorem dLaw_law_2084 : decode cLaw_law 2084 = .ok (.aload_n 3, 1) := by decide +kernel
theorem dLaw_law_2085 : decode cLaw_law 2085 = .ok (.iconst 0, 1) := by decide +kernel
theorem dLaw_law_2086 : decode cLaw_law 2086 = .ok (.laload, 1) := by decide +kernel
theorem dLaw_law_2087 : decode cLaw_law 2087 = .ok (.iload 7, 2) := by decide +kernel
theorem dLaw_law_2089 : decode cLaw_law 2089 = .ok (.ifCond .eq 7, 3) := by decide +kernel
theorem dLaw_law_2092 : decode cLaw_law 2092 = .ok (.lconst 1, 1) := by decide +kernel
theorem dLaw_law_2093 : decode cLaw_law 2093 = .ok (.goto 4, 3) := by decide +kernel
theorem dLaw_law_2096 : decode cLaw_law 2096 = .ok (.lconst 0, 1) := by decide +kernel
theorem dLaw_law_2097 : decode cLaw_law 2097 = .ok (.lcmp, 1) := by decide +kernel
theorem dLaw_law_2098 : decode cLaw_law 2098 = .ok (.ifCond .eq 5, 3) := by decide +kernel
theorem dLaw_law_2101 : decode cLaw_law 2101 = .ok (.iconst 0, 1) := by decide +kernel
theorem dLaw_law_2102 : decode cLaw_law 2102 = .ok (.ireturn, 1) := by decide +kernel
theorem dLaw_law_2103 : decode cLaw_law 2103 = .ok (.goto 1109, 3) := by decide +kernel
theorem dLaw_law_2106 : decode cLaw_law 2106 = .ok (.aload_n 1, 1) := by decide +kernel
theorem dLaw_law_2107 : decode cLaw_law 2107 = .ok (.aload_n 3, 1) := by decide +kernel
theorem dLaw_law_2108 : decode cLaw_law 2108 = .ok (.invokestatic 299, 3) := by decide +kernel
theorem dLaw_law_2111 : decode cLaw_law 2111 = .ok (.istore 6, 2) := by decide +kernel
theorem dLaw_law_2113 : decode cLaw_law 2113 = .ok (.aload_n 2, 1) := by decide +kernel
theorem dLaw_law_2114 : decode cLaw_law 2114 = .ok (.invokevirtual 301, 3) := by decide +kernel
theorem dLaw_law_2117 : decode cLaw_law 2117 = .ok (.istore 7, 2) := by decide +kernel
theorem dLaw_law_2119 : decode cLaw_law 2119 = .ok (.aload_n 2, 1) := by decide +kernel
theorem dLaw_law_2120 : decode cLaw_law 2120 = .ok (.invokevirtual 196, 3) := by decide +kernel
theorem dLaw_law_2123 : decode cLaw_law 2123 = .ok (.iload 6, 2) := by decide +kernel
theorem dLaw_law_2125 : decode cLaw_law 2125 = .ok (.if_icmp .eq 5, 3) := by decide +kernel
theorem dLaw_law_2128 : decode cLaw_law 2128 = .ok (.iconst 0, 1) := by decide +kernel
theorem dLaw_law_2129 : decode cLaw_law 2129 = .ok (.ireturn, 1) := by decide +kernel
theorem dLaw_law_2130 : decode cLaw_law 2130 = .ok (.iload 6, 2) := by decide +kernel
theorem dLaw_law_2132 : decode cLaw_law 2132 = .ok (.ifCond .ne 15, 3) := by decide +kernel
theorem dLaw_law_2135 : decode cLaw_law 2135 = .ok (.aload_n 3, 1) := by decide +kernel
theorem dLaw_law_2136 : decode cLaw_law 2136 = .ok (.iconst 0, 1) := by decide +kernel
theorem dLaw_law_2137 : decode cLaw_law 2137 = .ok (.laload, 1) := by decide +kernel
theorem dLaw_law_2138 : decode cLaw_law 2138 = .ok (.iload 7, 2) := by decide +kernel
theorem dLaw_law_2140 : decode cLaw_law 2140 = .ok (.i2l, 1) := by decide +kernel
theorem dLaw_law_2141 : decode cLaw_law 2141 = .ok (.lcmp, 1) := by decide +kernel
theorem dLaw_law_2142 : decode cLaw_law 2142 = .ok (.ifCond .eq 5, 3) := by decide +kernel
theorem dLaw_law_2145 : decode cLaw_law 2145 = .ok (.iconst 0, 1) := by decide +kernel
theorem dLaw_law_2146 : decode cLaw_law 2146 = .ok (.ireturn, 1) := by decide +kernel
theorem dLaw_law_2147 : decode cLaw_law 2147 = .ok (.goto 1065, 3) := by decide +kernel
theorem dLaw_law_2150 : decode cLaw_law 2150 = .ok (.aload_n 1, 1) := by decide +kernel
theorem dLaw_law_2151 : decode cLaw_law 2151 = .ok (.aload_n 0, 1) := by decide +kernel
theorem dLaw_law_2152 : decode cLaw_law 2152 = .ok (.iload 5, 2) := by decide +kernel
theorem dLaw_law_2154 : decode cLaw_law 2154 = .ok (.iconst 1, 1) := by decide +kernel
theorem dLaw_law_2155 : decode cLaw_law 2155 = .ok (.iadd, 1) := by decide +kernel
theorem dLaw_law_2156 : decode cLaw_law 2156 = .ok (.iaload, 1) := by decide +kernel
theorem dLaw_law_2157 : decode cLaw_law 2157 = .ok (.aload_n 3, 1) := by decide +kernel
theorem dLaw_law_2158 : decode cLaw_law 2158 = .ok (.invokestatic 302, 3) := by decide +kernel
theorem dLaw_law_2161 : decode cLaw_law 2161 = .ok (.istore 6, 2) := by decide +kernel
theorem dLaw_law_2163 : decode cLaw_law 2163 = .ok (.aload_n 2, 1) := by decide +kernel
theorem dLaw_law_2164 : decode cLaw_law 2164 = .ok (.aload_n 0, 1) := by decide +kernel
theorem dLaw_law_2165 : decode cLaw_law 2165 = .ok (.iload 5, 2) := by decide +kernel
theorem dLaw_law_2167 : decode cLaw_law 2167 = .ok (.iconst 1, 1) := by decide +kernel
theorem dLaw_law_2168 : decode cLaw_law 2168 = .ok (.iadd, 1) := by decide +kernel
theorem dLaw_law_2169 : decode cLaw_law 2169 = .ok (.iaload, 1) := by decide +kernel
theorem dLaw_law_2170 : decode cLaw_law 2170 = .ok (.invokevirtual 304, 3) := by decide +kernel
theorem dLaw_law_2173 : decode cLaw_law 2173 = .ok (.istore 7, 2) := by decide +kernel
theorem dLaw_law_2175 : decode cLaw_law 2175 = .ok (.aload_n 2, 1) := by decide +kernel
theorem dLaw_law_2176 : decode cLaw_law 2176 = .ok (.invokevirtual 196, 3) := by decide +kernel
theorem dLaw_law_2179 : decode cLaw_law 2179 = .ok (.iload 6, 2) := by decide +kernel
theorem dLaw_law_2181 : decode cLaw_law 2181 = .ok (.if_icmp .eq 5, 3) := by decide +kernel
theorem dLaw_law_2184 : decode cLaw_law 2184 = .ok (.iconst 0, 1) := by decide +kernel
theorem dLaw_law_2185 : decode cLaw_law 2185 = .ok (.ireturn, 1) := by decide +kernel
theorem dLaw_law_2186 : decode cLaw_law 2186 = .ok (.iload 6, 2) := by decide +kernel
theorem dLaw_law_2188 : decode cLaw_law 2188 = .ok (.ifCond .ne 15, 3) := by decide +kernel
theorem dLaw_law_2191 : decode cLaw_law 2191 = .ok (.aload_n 3, 1) := by decide +kernel
theorem dLaw_law_2192 : decode cLaw_law 2192 = .ok (.iconst 0, 1) := by decide +kernel
theorem dLaw_law_2193 : decode cLaw_law 2193 = .ok (.laload, 1) := by decide +kernel
theorem dLaw_law_2194 : decode cLaw_law 2194 = .ok (.iload 7, 2) := by decide +kernel
theorem dLaw_law_2196 : decode cLaw_law 2196 = .ok (.i2l, 1) := by decide +kernel
theorem dLaw_law_2197 : decode cLaw_law 2197 = .ok (.lcmp, 1) := by decide +kernel
theorem dLaw_law_2198 : decode cLaw_law 2198 = .ok (.ifCond .eq 5, 3) := by decide +kernel
theorem dLaw_law_2201 : decode cLaw_law 2201 = .ok (.iconst 0, 1) := by decide +kernel
theorem dLaw_law_2202 : decode cLaw_law 2202 = .ok (.ireturn, 1) := by decide +kernel
theorem dLaw_law_2203 : decode cLaw_law 2203 = .ok (.goto 1009, 3) := by decide +kernel
theorem dLaw_law_2206 : decode cLaw_law 2206 = .ok (.aload_n 1, 1) := by decide +kernel
theorem dLaw_law_2207 : decode cLaw_law 2207 = .ok (.aload_n 0, 1) := by decide +kernel
theorem dLaw_law_2208 : decode cLaw_law 2208 = .ok (.iload 5, 2) := by decide +kernel
theorem dLaw_law_2210 : decode cLaw_law 2210 = .ok (.iconst 1, 1) := by decide +kernel
theorem dLaw_law_2211 : decode cLaw_law 2211 = .ok (.iadd, 1) := by decide +kernel
theorem dLaw_law_2212 : decode cLaw_law 2212 = .ok (.iaload, 1) := by decide +kernel
theorem dLaw_law_2213 : decode cLaw_law 2213 = .ok (.aload_n 3, 1) := by decide +kernel
theorem dLaw_law_2214 : decode cLaw_law 2214 = .ok (.invokestatic 305, 3) := by decide +kernel
theorem dLaw_law_2217 : decode cLaw_law 2217 = .ok (.istore 6, 2) := by decide +kernel
theorem dLaw_law_2219 : decode cLaw_law 2219 = .ok (.aload_n 2, 1) := by decide +kernel
theorem dLaw_law_2220 : decode cLaw_law 2220 = .ok (.aload_n 0, 1) := by decide +kernel
theorem dLaw_law_2221 : decode cLaw_law 2221 = .ok (.iload 5, 2) := by decide +kernel
theorem dLaw_law_2223 : decode cLaw_law 2223 = .ok (.iconst 1, 1) := by decide +kernel
theorem dLaw_law_2224 : decode cLaw_law 2224 = .ok (.iadd, 1) := by decide +kernel
theorem dLaw_law_2225 : decode cLaw_law 2225 = .ok (.iaload, 1) := by decide +kernel
theorem dLaw_law_2226 : decode cLaw_law 2226 = .ok (.invokevirtual 307, 3) := by decide +kernel
theorem dLaw_law_2229 : decode cLaw_law 2229 = .ok (.istore 7, 2) := by decide +kernel
theorem dLaw_law_2231 : decode cLaw_law 2231 = .ok (.aload_n 2, 1) := by decide +kernel
theorem dLaw_law_2232 : decode cLaw_law 2232 = .ok (.invokevirtual 196, 3) := by decide +kernel
theorem dLaw_law_2235 : decode cLaw_law 2235 = .ok (.iload 6, 2) := by decide +kernel
theorem dLaw_law_2237 : decode cLaw_law 2237 = .ok (.if_icmp .eq 5, 3) := by decide +kernel
theorem dLaw_law_2240 : decode cLaw_law 2240 = .ok (.iconst 0, 1) := by decide +kernel
theorem dLaw_law_2241 : decode cLaw_law 2241 = .ok (.ireturn, 1) := by decide +kernel
theorem dLaw_law_2242 : decode cLaw_law 2242 = .ok (.iload 6, 2) := by decide +kernel
theorem dLaw_law_2244 : decode cLaw_law 2244 = .ok (.ifCond .ne 15, 3) := by decide +kernel
theorem dLaw_law_2247 : decode cLaw_law 2247 = .ok (.aload_n 3, 1) := by decide +kernel
theorem dLaw_law_2248 : decode cLaw_law 2248 = .ok (.iconst 0, 1) := by decide +kernel
theorem dLaw_law_2249 : decode cLaw_law 2249 = .ok (.laload, 1) := by decide +kernel
theorem dLaw_law_2250 : decode cLaw_law 2250 = .ok (.iload 7, 2) := by decide +kernel
theorem dLaw_law_2252 : decode cLaw_law 2252 = .ok (.i2l, 1) := by decide +kernel
theorem dLaw_law_2253 : decode cLaw_law 2253 = .ok (.lcmp, 1) := by decide +kernel
theorem dLaw_law_2254 : decode cLaw_law 2254 = .ok (.ifCond .eq 5, 3) := by decide +kernel
theorem dLaw_law_2257 : decode cLaw_law 2257 = .ok (.iconst 0, 1) := by decide +kernel
theorem dLaw_law_2258 : decode cLaw_law 2258 = .ok (.ireturn, 1) := by decide +kernel
theorem dLaw_law_2259 : decode cLaw_law 2259 = .ok (.goto 953, 3) := by decide +kernel
theorem dLaw_law_2262 : decode cLaw_law 2262 = .ok (.aload_n 1, 1) := by decide +kernel
theorem dLaw_law_2263 : decode cLaw_law 2263 = .ok (.aload_n 0, 1) := by decide +kernel
theorem dLaw_law_2264 : decode cLaw_law 2264 = .ok (.iload 5, 2) := by decide +kernel
theorem dLaw_law_2266 : decode cLaw_law 2266 = .ok (.iconst 1, 1) := by decide +kernel
theorem dLaw_law_2267 : decode cLaw_law 2267 = .ok (.iadd, 1) := by decide +kernel
theorem dLaw_law_2268 : decode cLaw_law 2268 = .ok (.iaload, 1) := by decide +kernel
theorem dLaw_law_2269 : decode cLaw_law 2269 = .ok (.aload_n 0, 1) := by decide +kernel
theorem dLaw_law_2270 : decode cLaw_law 2270 = .ok (.iload 5, 2) := by decide +kernel
theorem dLaw_law_2272 : decode cLaw_law 2272 = .ok (.iconst 2, 1) := by decide +kernel
theorem dLaw_law_2273 : decode cLaw_law 2273 = .ok (.iadd, 1) := by decide +kernel
theorem dLaw_law_2274 : decode cLaw_law 2274 = .ok (.iaload, 1) := by decide +kernel
theorem dLaw_law_2275 : decode cLaw_law 2275 = .ok (.aload_n 3, 1) := by decide +kernel
theorem dLaw_law_2276 : decode cLaw_law 2276 = .ok (.invokestatic 308, 3) := by decide +kernel
theorem dLaw_law_2279 : decode cLaw_law 2279 = .ok (.istore 6, 2) := by decide +kernel
theorem dLaw_law_2281 : decode cLaw_law 2281 = .ok (.aload_n 2, 1) := by decide +kernel
theorem dLaw_law_2282 : decode cLaw_law 2282 = .ok (.aload_n 0, 1) := by decide +kernel
theorem dLaw_law_2283 : decode cLaw_law 2283 = .ok (.iload 5, 2) := by decide +kernel
theorem dLaw_law_2285 : decode cLaw_law 2285 = .ok (.iconst 1, 1) := by decide +kernel
theorem dLaw_law_2286 : decode cLaw_law 2286 = .ok (.iadd, 1) := by decide +kernel
theorem dLaw_law_2287 : decode cLaw_law 2287 = .ok (.iaload, 1) := by decide +kernel
theorem dLaw_law_2288 : decode cLaw_law 2288 = .ok (.aload_n 0, 1) := by decide +kernel
theorem dLaw_law_2289 : decode cLaw_law 2289 = .ok (.iload 5, 2) := by decide +kernel
theorem dLaw_law_2291 : decode cLaw_law 2291 = .ok (.iconst 2, 1) := by decide +kernel
theorem dLaw_law_2292 : decode cLaw_law 2292 = .ok (.iadd, 1) := by decide +kernel
theorem dLaw_law_2293 : decode cLaw_law 2293 = .ok (.iaload, 1) := by decide +kernel
theorem dLaw_law_2294 : decode cLaw_law 2294 = .ok (.invokevirtual 310, 3) := by decide +kernel
theorem dLaw_law_2297 : decode cLaw_law 2297 = .ok (.istore 7, 2) := by decide +kernel
theorem dLaw_law_2299 : decode cLaw_law 2299 = .ok (.aload_n 2, 1) := by decide +kernel
theorem dLaw_law_2300 : decode cLaw_law 2300 = .ok (.invokevirtual 196, 3) := by decide +kernel
theorem dLaw_law_2303 : decode cLaw_law 2303 = .ok (.iload 6, 2) := by decide +kernel
theorem dLaw_law_2305 : decode cLaw_law 2305 = .ok (.if_icmp .eq 5, 3) := by decide +kernel
theorem dLaw_law_2308 : decode cLaw_law 2308 = .ok (.iconst 0, 1) := by decide +kernel
theorem dLaw_law_2309 : decode cLaw_law 2309 = .ok (.ireturn, 1) := by decide +kernel
theorem dLaw_law_2310 : decode cLaw_law 2310 = .ok (.iload 6, 2) := by decide +kernel
theorem dLaw_law_2312 : decode cLaw_law 2312 = .ok (.ifCond .ne 15, 3) := by decide +kernel
theorem dLaw_law_2315 : decode cLaw_law 2315 = .ok (.aload_n 3, 1) := by decide +kernel
theorem dLaw_law_2316 : decode cLaw_law 2316 = .ok (.iconst 0, 1) := by decide +kernel
theorem dLaw_law_2317 : decode cLaw_law 2317 = .ok (.laload, 1) := by decide +kernel
theorem dLaw_law_2318 : decode cLaw_law 2318 = .ok (.iload 7, 2) := by decide +kernel
theorem dLaw_law_2320 : decode cLaw_law 2320 = .ok (.i2l, 1) := by decide +kernel
theorem dLaw_law_2321 : decode cLaw_law 2321 = .ok (.lcmp, 1) := by decide +kernel
theorem dLaw_law_2322 : decode cLaw_law 2322 = .ok (.ifCond .eq 5, 3) := by decide +kernel
theorem dLaw_law_2325 : decode cLaw_law 2325 = .ok (.iconst 0, 1) := by decide +kernel
theorem dLaw_law_2326 : decode cLaw_law 2326 = .ok (.ireturn, 1) := by decide +kernel
theorem dLaw_law_2327 : decode cLaw_law 2327 = .ok (.goto 885, 3) := by decide +kernel
theorem dLaw_law_2330 : decode cLaw_law 2330 = .ok (.aload_n 1, 1) := by decide +kernel
theorem dLaw_law_2331 : decode cLaw_law 2331 = .ok (.aload_n 0, 1) := by decide +kernel
theorem dLaw_law_2332 : decode cLaw_law 2332 = .ok (.iload 5, 2) := by decide +kernel
theorem dLaw_law_2334 : decode cLaw_law 2334 = .ok (.iconst 1, 1) := by decide +kernel
theorem dLaw_law_2335 : decode cLaw_law 2335 = .ok (.iadd, 1) := by decide +kernel
theorem dLaw_law_2336 : decode cLaw_law 2336 = .ok (.iaload, 1) := by decide +kernel
theorem dLaw_law_2337 : decode cLaw_law 2337 = .ok (.aload_n 3, 1) := by decide +kernel
theorem dLaw_law_2338 : decode cLaw_law 2338 = .ok (.invokestatic 311, 3) := by decide +kernel
theorem dLaw_law_2341 : decode cLaw_law 2341 = .ok (.istore 6, 2) := by decide +kernel
theorem dLaw_law_2343 : decode cLaw_law 2343 = .ok (.aload_n 2, 1) := by decide +kernel
theorem dLaw_law_2344 : decode cLaw_law 2344 = .ok (.aload_n 0, 1) := by decide +kernel
theorem dLaw_law_2345 : decode cLaw_law 2345 = .ok (.iload 5, 2) := by decide +kernel
theorem dLaw_law_2347 : decode cLaw_law 2347 = .ok (.iconst 1, 1) := by decide +kernel
theorem dLaw_law_2348 : decode cLaw_law 2348 = .ok (.iadd, 1) := by decide +kernel
theorem dLaw_law_2349 : decode cLaw_law 2349 = .ok (.iaload, 1) := by decide +kernel
theorem dLaw_law_2350 : decode cLaw_law 2350 = .ok (.invokevirtual 313, 3) := by decide +kernel
theorem dLaw_law_2353 : decode cLaw_law 2353 = .ok (.istore 7, 2) := by decide +kernel
theorem dLaw_law_2355 : decode cLaw_law 2355 = .ok (.aload_n 2, 1) := by decide +kernel
theorem dLaw_law_2356 : decode cLaw_law 2356 = .ok (.invokevirtual 196, 3) := by decide +kernel
theorem dLaw_law_2359 : decode cLaw_law 2359 = .ok (.iload 6, 2) := by decide +kernel
theorem dLaw_law_2361 : decode cLaw_law 2361 = .ok (.if_icmp .eq 5, 3) := by decide +kernel
theorem dLaw_law_2364 : decode cLaw_law 2364 = .ok (.iconst 0, 1) := by decide +kernel
theorem dLaw_law_2365 : decode cLaw_law 2365 = .ok (.ireturn, 1) := by decide +kernel
theorem dLaw_law_2366 : decode cLaw_law 2366 = .ok (.iload 6, 2) := by decide +kernel
theorem dLaw_law_2368 : decode cLaw_law 2368 = .ok (.ifCond .ne 15, 3) := by decide +kernel
theorem dLaw_law_2371 : decode cLaw_law 2371 = .ok (.aload_n 3, 1) := by decide +kernel
theorem dLaw_law_2372 : decode cLaw_law 2372 = .ok (.iconst 0, 1) := by decide +kernel
theorem dLaw_law_2373 : decode cLaw_law 2373 = .ok (.laload, 1) := by decide +kernel
theorem dLaw_law_2374 : decode cLaw_law 2374 = .ok (.iload 7, 2) := by decide +kernel
theorem dLaw_law_2376 : decode cLaw_law 2376 = .ok (.i2l, 1) := by decide +kernel
theorem dLaw_law_2377 : decode cLaw_law 2377 = .ok (.lcmp, 1) := by decide +kernel
theorem dLaw_law_2378 : decode cLaw_law 2378 = .ok (.ifCond .eq 5, 3) := by decide +kernel
theorem dLaw_law_2381 : decode cLaw_law 2381 = .ok (.iconst 0, 1) := by decide +kernel
theorem dLaw_law_2382 : decode cLaw_law 2382 = .ok (.ireturn, 1) := by decide +kernel
theorem dLaw_law_2383 : decode cLaw_law 2383 = .ok (.goto 829, 3) := by decide +kernel
theorem dLaw_law_2386 : decode cLaw_law 2386 = .ok (.aload_n 1, 1) := by decide +kernel
theorem dLaw_law_2387 : decode cLaw_law 2387 = .ok (.aload_n 0, 1) := by decide +kernel
theorem dLaw_law_2388 : decode cLaw_law 2388 = .ok (.iload 5, 2) := by decide +kernel
theorem dLaw_law_2390 : decode cLaw_law 2390 = .ok (.iconst 1, 1) := by decide +kernel
theorem dLaw_law_2391 : decode cLaw_law 2391 = .ok (.iadd, 1) := by decide +kernel
theorem dLaw_law_2392 : decode cLaw_law 2392 = .ok (.iaload, 1) := by decide +kernel
theorem dLaw_law_2393 : decode cLaw_law 2393 = .ok (.aload_n 3, 1) := by decide +kernel
theorem dLaw_law_2394 : decode cLaw_law 2394 = .ok (.invokestatic 314, 3) := by decide +kernel
theorem dLaw_law_2397 : decode cLaw_law 2397 = .ok (.istore 6, 2) := by decide +kernel
theorem dLaw_law_2399 : decode cLaw_law 2399 = .ok (.aload_n 2, 1) := by decide +kernel
theorem dLaw_law_2400 : decode cLaw_law 2400 = .ok (.aload_n 0, 1) := by decide +kernel
theorem dLaw_law_2401 : decode cLaw_law 2401 = .ok (.iload 5, 2) := by decide +kernel
theorem dLaw_law_2403 : decode cLaw_law 2403 = .ok (.iconst 1, 1) := by decide +kernel
theorem dLaw_law_2404 : decode cLaw_law 2404 = .ok (.iadd, 1) := by decide +kernel
theorem dLaw_law_2405 : decode cLaw_law 2405 = .ok (.iaload, 1) := by decide +kernel
theorem dLaw_law_2406 : decode cLaw_law 2406 = .ok (.invokevirtual 316, 3) := by decide +kernel
theorem dLaw_law_2409 : decode cLaw_law 2409 = .ok (.istore 7, 2) := by decide +kernel
theorem dLaw_law_2411 : decode cLaw_law 2411 = .ok (.aload_n 2, 1) := by decide +kernel
theorem dLaw_law_2412 : decode cLaw_law 2412 = .ok (.invokevirtual 196, 3) := by decide +kernel
theorem dLaw_law_2415 : decode cLaw_law 2415 = .ok (.iload 6, 2) := by decide +kernel
theorem dLaw_law_2417 : decode cLaw_law 2417 = .ok (.if_icmp .eq 5, 3) := by decide +kernel
theorem dLaw_law_2420 : decode cLaw_law 2420 = .ok (.iconst 0, 1) := by decide +kernel
theorem dLaw_law_2421 : decode cLaw_law 2421 = .ok (.ireturn, 1) := by decide +kernel
theorem dLaw_law_2422 : decode cLaw_law 2422 = .ok (.iload 6, 2) := by decide +kernel
theorem dLaw_law_2424 : decode cLaw_law 2424 = .ok (.ifCond .ne 15, 3) := by decide +kernel
theorem dLaw_law_2427 : decode cLaw_law 2427 = .ok (.aload_n 3, 1) := by decide +kernel
theorem dLaw_law_2428 : decode cLaw_law 2428 = .ok (.iconst 0, 1) := by decide +kernel
theorem dLaw_law_2429 : decode cLaw_law 2429 = .ok (.laload, 1) := by decide +kernel
theorem dLaw_law_2430 : decode cLaw_law 2430 = .ok (.iload 7, 2) := by decide +kernel
theorem dLaw_law_2432 : decode cLaw_law 2432 = .ok (.i2l, 1) := by decide +kernel
theorem dLaw_law_2433 : decode cLaw_law 2433 = .ok (.lcmp, 1) := by decide +kernel
theorem dLaw_law_2434 : decode cLaw_law 2434 = .ok (.ifCond .eq 5, 3) := by decide +kernel
theorem dLaw_law_2437 : decode cLaw_law 2437 = .ok (.iconst 0, 1) := by decide +kernel
theorem dLaw_law_2438 : decode cLaw_law 2438 = .ok (.ireturn, 1) := by decide +kernel
theorem dLaw_law_2439 : decode cLaw_law 2439 = .ok (.goto 773, 3) := by decide +kernel
theorem dLaw_law_2442 : decode cLaw_law 2442 = .ok (.aload_n 1, 1) := by decide +kernel
theorem dLaw_law_2443 : decode cLaw_law 2443 = .ok (.aload_n 0, 1) := by decide +kernel
theorem dLaw_law_2444 : decode cLaw_law 2444 = .ok (.iload 5, 2) := by decide +kernel
theorem dLaw_law_2446 : decode cLaw_law 2446 = .ok (.iconst 1, 1) := by decide +kernel
theorem dLaw_law_2447 : decode cLaw_law 2447 = .ok (.iadd, 1) := by decide +kernel
theorem dLaw_law_2448 : decode cLaw_law 2448 = .ok (.iaload, 1) := by decide +kernel
theorem dLaw_law_2449 : decode cLaw_law 2449 = .ok (.aload_n 3, 1) := by decide +kernel
theorem dLaw_law_2450 : decode cLaw_law 2450 = .ok (.invokestatic 317, 3) := by decide +kernel
theorem dLaw_law_2453 : decode cLaw_law 2453 = .ok (.istore 6, 2) := by decide +kernel
theorem dLaw_law_2455 : decode cLaw_law 2455 = .ok (.aload_n 2, 1) := by decide +kernel
theorem dLaw_law_2456 : decode cLaw_law 2456 = .ok (.aload_n 0, 1) := by decide +kernel
theorem dLaw_law_2457 : decode cLaw_law 2457 = .ok (.iload 5, 2) := by decide +kernel
theorem dLaw_law_2459 : decode cLaw_law 2459 = .ok (.iconst 1, 1) := by decide +kernel
theorem dLaw_law_2460 : decode cLaw_law 2460 = .ok (.iadd, 1) := by decide +kernel
theorem dLaw_law_2461 : decode cLaw_law 2461 = .ok (.iaload, 1) := by decide +kernel
theorem dLaw_law_2462 : decode cLaw_law 2462 = .ok (.invokevirtual 319, 3) := by decide +kernel
theorem dLaw_law_2465 : decode cLaw_law 2465 = .ok (.istore 7, 2) := by decide +kernel
theorem dLaw_law_2467 : decode cLaw_law 2467 = .ok (.aload_n 2, 1) := by decide +kernel
theorem dLaw_law_2468 : decode cLaw_law 2468 = .ok (.invokevirtual 196, 3) := by decide +kernel
theorem dLaw_law_2471 : decode cLaw_law 2471 = .ok (.iload 6, 2) := by decide +kernel
theorem dLaw_law_2473 : decode cLaw_law 2473 = .ok (.if_icmp .eq 5, 3) := by decide +kernel
theorem dLaw_law_2476 : decode cLaw_law 2476 = .ok (.iconst 0, 1) := by decide +kernel
theorem dLaw_law_2477 : decode cLaw_law 2477 = .ok (.ireturn, 1) := by decide +kernel
theorem dLaw_law_2478 : decode cLaw_law 2478 = .ok (.iload 6, 2) := by decide +kernel
theorem dLaw_law_2480 : decode cLaw_law 2480 = .ok (.ifCond .ne 15, 3) := by decide +kernel
theorem dLaw_law_2483 : decode cLaw_law 2483 = .ok (.aload_n 3, 1) := by decide +kernel
theorem dLaw_law_2484 : decode cLaw_law 2484 = .ok (.iconst 0, 1) := by decide +kernel
theorem dLaw_law_2485 : decode cLaw_law 2485 = .ok (.laload, 1) := by decide +kernel
theorem dLaw_law_2486 : decode cLaw_law 2486 = .ok (.iload 7, 2) := by decide +kernel
theorem dLaw_law_2488 : decode cLaw_law 2488 = .ok (.i2l, 1) := by decide +kernel
theorem dLaw_law_2489 : decode cLaw_law 2489 = .ok (.lcmp, 1) := by decide +kernel
theorem dLaw_law_2490 : decode cLaw_law 2490 = .ok (.ifCond .eq 5, 3) := by decide +kernel
theorem dLaw_law_2493 : decode cLaw_law 2493 = .ok (.iconst 0, 1) := by decide +kernel
theorem dLaw_law_2494 : decode cLaw_law 2494 = .ok (.ireturn, 1) := by decide +kernel
theorem dLaw_law_2495 : decode cLaw_law 2495 = .ok (.goto 717, 3) := by decide +kernel
theorem dLaw_law_2498 : decode cLaw_law 2498 = .ok (.aload_n 1, 1) := by decide +kernel
theorem dLaw_law_2499 : decode cLaw_law 2499 = .ok (.aload_n 0, 1) := by decide +kernel
theorem dLaw_law_2500 : decode cLaw_law 2500 = .ok (.iload 5, 2) := by decide +kernel
theorem dLaw_law_2502 : decode cLaw_law 2502 = .ok (.iconst 1, 1) := by decide +kernel
theorem dLaw_law_2503 : decode cLaw_law 2503 = .ok (.iadd, 1) := by decide +kernel
theorem dLaw_law_2504 : decode cLaw_law 2504 = .ok (.iaload, 1) := by decide +kernel
theorem dLaw_law_2505 : decode cLaw_law 2505 = .ok (.aload_n 3, 1) := by decide +kernel
theorem dLaw_law_2506 : decode cLaw_law 2506 = .ok (.invokestatic 320, 3) := by decide +kernel
theorem dLaw_law_2509 : decode cLaw_law 2509 = .ok (.istore 6, 2) := by decide +kernel
theorem dLaw_law_2511 : decode cLaw_law 2511 = .ok (.aload_n 2, 1) := by decide +kernel
theorem dLaw_law_2512 : decode cLaw_law 2512 = .ok (.aload_n 0, 1) := by decide +kernel
theorem dLaw_law_2513 : decode cLaw_law 2513 = .ok (.iload 5, 2) := by decide +kernel
theorem dLaw_law_2515 : decode cLaw_law 2515 = .ok (.iconst 1, 1) := by decide +kernel
theorem dLaw_law_2516 : decode cLaw_law 2516 = .ok (.iadd, 1) := by decide +kernel
theorem dLaw_law_2517 : decode cLaw_law 2517 = .ok (.iaload, 1) := by decide +kernel
theorem dLaw_law_2518 : decode cLaw_law 2518 = .ok (.invokevirtual 322, 3) := by decide +kernel
theorem dLaw_law_2521 : decode cLaw_law 2521 = .ok (.istore 7, 2) := by decide +kernel
theorem dLaw_law_2523 : decode cLaw_law 2523 = .ok (.aload_n 2, 1) := by decide +kernel
theorem dLaw_law_2524 : decode cLaw_law 2524 = .ok (.invokevirtual 196, 3) := by decide +kernel
theorem dLaw_law_2527 : decode cLaw_law 2527 = .ok (.iload 6, 2) := by decide +kernel
theorem dLaw_law_2529 : decode cLaw_law 2529 = .ok (.if_icmp .eq 5, 3) := by decide +kernel
theorem dLaw_law_2532 : decode cLaw_law 2532 = .ok (.iconst 0, 1) := by decide +kernel
theorem dLaw_law_2533 : decode cLaw_law 2533 = .ok (.ireturn, 1) := by decide +kernel
theorem dLaw_law_2534 : decode cLaw_law 2534 = .ok (.iload 6, 2) := by decide +kernel
theorem dLaw_law_2536 : decode cLaw_law 2536 = .ok (.ifCond .ne 22, 3) := by decide +kernel
theorem dLaw_law_2539 : decode cLaw_law 2539 = .ok (.aload_n 3, 1) := by decide +kernel
theorem dLaw_law_2540 : decode cLaw_law 2540 = .ok (.iconst 0, 1) := by decide +kernel
theorem dLaw_law_2541 : decode cLaw_law 2541 = .ok (.laload, 1) := by decide +kernel
theorem dLaw_law_2542 : decode cLaw_law 2542 = .ok (.iload 7, 2) := by decide +kernel
theorem dLaw_law_2544 : decode cLaw_law 2544 = .ok (.ifCond .eq 7, 3) := by decide +kernel
theorem dLaw_law_2547 : decode cLaw_law 2547 = .ok (.lconst 1, 1) := by decide +kernel
theorem dLaw_law_2548 : decode cLaw_law 2548 = .ok (.goto 4, 3) := by decide +kernel
theorem dLaw_law_2551 : decode cLaw_law 2551 = .ok (.lconst 0, 1) := by decide +kernel
theorem dLaw_law_2552 : decode cLaw_law 2552 = .ok (.lcmp, 1) := by decide +kernel
theorem dLaw_law_2553 : decode cLaw_law 2553 = .ok (.ifCond .eq 5, 3) := by decide +kernel
theorem dLaw_law_2556 : decode cLaw_law 2556 = .ok (.iconst 0, 1) := by decide +kernel
theorem dLaw_law_2557 : decode cLaw_law 2557 = .ok (.ireturn, 1) := by decide +kernel
theorem dLaw_law_2558 : decode cLaw_law 2558 = .ok (.goto 654, 3) := by decide +kernel
theorem dLaw_law_2561 : decode cLaw_law 2561 = .ok (.aload_n 1, 1) := by decide +kernel
theorem dLaw_law_2562 : decode cLaw_law 2562 = .ok (.aload_n 0, 1) := by decide +kernel
theorem dLaw_law_2563 : decode cLaw_law 2563 = .ok (.iload 5, 2) := by decide +kernel
theorem dLaw_law_2565 : decode cLaw_law 2565 = .ok (.iconst 1, 1) := by decide +kernel
theorem dLaw_law_2566 : decode cLaw_law 2566 = .ok (.iadd, 1) := by decide +kernel
theorem dLaw_law_2567 : decode cLaw_law 2567 = .ok (.iaload, 1) := by decide +kernel
theorem dLaw_law_2568 : decode cLaw_law 2568 = .ok (.aload_n 3, 1) := by decide +kernel
theorem dLaw_law_2569 : decode cLaw_law 2569 = .ok (.invokestatic 323, 3) := by decide +kernel
theorem dLaw_law_2572 : decode cLaw_law 2572 = .ok (.istore 6, 2) := by decide +kernel
theorem dLaw_law_2574 : decode cLaw_law 2574 = .ok (.aload_n 2, 1) := by decide +kernel
theorem dLaw_law_2575 : decode cLaw_law 2575 = .ok (.aload_n 0, 1) := by decide +kernel
theorem dLaw_law_2576 : decode cLaw_law 2576 = .ok (.iload 5, 2) := by decide +kernel
theorem dLaw_law_2578 : decode cLaw_law 2578 = .ok (.iconst 1, 1) := by decide +kernel
theorem dLaw_law_2579 : decode cLaw_law 2579 = .ok (.iadd, 1) := by decide +kernel
theorem dLaw_law_2580 : decode cLaw_law 2580 = .ok (.iaload, 1) := by decide +kernel
theorem dLaw_law_2581 : decode cLaw_law 2581 = .ok (.invokevirtual 325, 3) := by decide +kernel
theorem dLaw_law_2584 : decode cLaw_law 2584 = .ok (.istore 7, 2) := by decide +kernel
theorem dLaw_law_2586 : decode cLaw_law 2586 = .ok (.aload_n 2, 1) := by decide +kernel
theorem dLaw_law_2587 : decode cLaw_law 2587 = .ok (.invokevirtual 196, 3) := by decide +kernel
theorem dLaw_law_2590 : decode cLaw_law 2590 = .ok (.iload 6, 2) := by decide +kernel
theorem dLaw_law_2592 : decode cLaw_law 2592 = .ok (.if_icmp .eq 5, 3) := by decide +kernel
theorem dLaw_law_2595 : decode cLaw_law 2595 = .ok (.iconst 0, 1) := by decide +kernel
theorem dLaw_law_2596 : decode cLaw_law 2596 = .ok (.ireturn, 1) := by decide +kernel
theorem dLaw_law_2597 : decode cLaw_law 2597 = .ok (.iload 6, 2) := by decide +kernel
theorem dLaw_law_2599 : decode cLaw_law 2599 = .ok (.ifCond .ne 15, 3) := by decide +kernel
theorem dLaw_law_2602 : decode cLaw_law 2602 = .ok (.aload_n 3, 1) := by decide +kernel
theorem dLaw_law_2603 : decode cLaw_law 2603 = .ok (.iconst 0, 1) := by decide +kernel
theorem dLaw_law_2604 : decode cLaw_law 2604 = .ok (.laload, 1) := by decide +kernel
theorem dLaw_law_2605 : decode cLaw_law 2605 = .ok (.iload 7, 2) := by decide +kernel
theorem dLaw_law_2607 : decode cLaw_law 2607 = .ok (.i2l, 1) := by decide +kernel
theorem dLaw_law_2608 : decode cLaw_law 2608 = .ok (.lcmp, 1) := by decide +kernel
theorem dLaw_law_2609 : decode cLaw_law 2609 = .ok (.ifCond .eq 5, 3) := by decide +kernel
theorem dLaw_law_2612 : decode cLaw_law 2612 = .ok (.iconst 0, 1) := by decide +kernel
theorem dLaw_law_2613 : decode cLaw_law 2613 = .ok (.ireturn, 1) := by decide +kernel
theorem dLaw_law_2614 : decode cLaw_law 2614 = .ok (.goto 598, 3) := by decide +kernel
theorem dLaw_law_2617 : decode cLaw_law 2617 = .ok (.aload_n 1, 1) := by decide +kernel
theorem dLaw_law_2618 : decode cLaw_law 2618 = .ok (.invokevirtual 326, 3) := by decide +kernel
theorem dLaw_law_2621 : decode cLaw_law 2621 = .ok (.aload_n 2, 1) := by decide +kernel
theorem dLaw_law_2622 : decode cLaw_law 2622 = .ok (.invokevirtual 329, 3) := by decide +kernel
theorem dLaw_law_2625 : decode cLaw_law 2625 = .ok (.if_icmp .eq 587, 3) := by decide +kernel
theorem dLaw_law_2628 : decode cLaw_law 2628 = .ok (.iconst 0, 1) := by decide +kernel
theorem dLaw_law_2629 : decode cLaw_law 2629 = .ok (.ireturn, 1) := by decide +kernel
theorem dLaw_law_2630 : decode cLaw_law 2630 = .ok (.aload_n 1, 1) := by decide +kernel
theorem dLaw_law_2631 : decode cLaw_law 2631 = .ok (.aload_n 0, 1) := by decide +kernel
theorem dLaw_law_2632 : decode cLaw_law 2632 = .ok (.iload 5, 2) := by decide +kernel
theorem dLaw_law_2634 : decode cLaw_law 2634 = .ok (.iconst 1, 1) := by decide +kernel
theorem dLaw_law_2635 : decode cLaw_law 2635 = .ok (.iadd, 1) := by decide +kernel
theorem dLaw_law_2636 : decode cLaw_law 2636 = .ok (.iaload, 1) := by decide +kernel
theorem dLaw_law_2637 : decode cLaw_law 2637 = .ok (.aload_n 3, 1) := by decide +kernel
theorem dLaw_law_2638 : decode cLaw_law 2638 = .ok (.invokestatic 330, 3) := by decide +kernel
theorem dLaw_law_2641 : decode cLaw_law 2641 = .ok (.istore 6, 2) := by decide +kernel
theorem dLaw_law_2643 : decode cLaw_law 2643 = .ok (.aload_n 2, 1) := by decide +kernel
theorem dLaw_law_2644 : decode cLaw_law 2644 = .ok (.aload_n 0, 1) := by decide +kernel
theorem dLaw_law_2645 : decode cLaw_law 2645 = .ok (.iload 5, 2) := by decide +kernel
theorem dLaw_law_2647 : decode cLaw_law 2647 = .ok (.iconst 1, 1) := by decide +kernel
theorem dLaw_law_2648 : decode cLaw_law 2648 = .ok (.iadd, 1) := by decide +kernel
theorem dLaw_law_2649 : decode cLaw_law 2649 = .ok (.iaload, 1) := by decide +kernel
theorem dLaw_law_2650 : decode cLaw_law 2650 = .ok (.invokevirtual 332, 3) := by decide +kernel
theorem dLaw_law_2653 : decode cLaw_law 2653 = .ok (.istore 7, 2) := by decide +kernel
theorem dLaw_law_2655 : decode cLaw_law 2655 = .ok (.aload_n 2, 1) := by decide +kernel
theorem dLaw_law_2656 : decode cLaw_law 2656 = .ok (.invokevirtual 196, 3) := by decide +kernel
theorem dLaw_law_2659 : decode cLaw_law 2659 = .ok (.iload 6, 2) := by decide +kernel
theorem dLaw_law_2661 : decode cLaw_law 2661 = .ok (.if_icmp .eq 5, 3) := by decide +kernel
theorem dLaw_law_2664 : decode cLaw_law 2664 = .ok (.iconst 0, 1) := by decide +kernel
theorem dLaw_law_2665 : decode cLaw_law 2665 = .ok (.ireturn, 1) := by decide +kernel
theorem dLaw_law_2666 : decode cLaw_law 2666 = .ok (.iload 6, 2) := by decide +kernel
theorem dLaw_law_2668 : decode cLaw_law 2668 = .ok (.ifCond .ne 15, 3) := by decide +kernel
theorem dLaw_law_2671 : decode cLaw_law 2671 = .ok (.aload_n 3, 1) := by decide +kernel
theorem dLaw_law_2672 : decode cLaw_law 2672 = .ok (.iconst 0, 1) := by decide +kernel
theorem dLaw_law_2673 : decode cLaw_law 2673 = .ok (.laload, 1) := by decide +kernel
theorem dLaw_law_2674 : decode cLaw_law 2674 = .ok (.iload 7, 2) := by decide +kernel
theorem dLaw_law_2676 : decode cLaw_law 2676 = .ok (.i2l, 1) := by decide +kernel
theorem dLaw_law_2677 : decode cLaw_law 2677 = .ok (.lcmp, 1) := by decide +kernel
theorem dLaw_law_2678 : decode cLaw_law 2678 = .ok (.ifCond .eq 5, 3) := by decide +kernel
theorem dLaw_law_2681 : decode cLaw_law 2681 = .ok (.iconst 0, 1) := by decide +kernel
theorem dLaw_law_2682 : decode cLaw_law 2682 = .ok (.ireturn, 1) := by decide +kernel
theorem dLaw_law_2683 : decode cLaw_law 2683 = .ok (.goto 529, 3) := by decide +kernel
theorem dLaw_law_2686 : decode cLaw_law 2686 = .ok (.aload_n 1, 1) := by decide +kernel
theorem dLaw_law_2687 : decode cLaw_law 2687 = .ok (.invokevirtual 333, 3) := by decide +kernel
theorem dLaw_law_2690 : decode cLaw_law 2690 = .ok (.aload_n 2, 1) := by decide +kernel
theorem dLaw_law_2691 : decode cLaw_law 2691 = .ok (.invokevirtual 336, 3) := by decide +kernel
theorem dLaw_law_2694 : decode cLaw_law 2694 = .ok (.if_icmp .eq 518, 3) := by decide +kernel
theorem dLaw_law_2697 : decode cLaw_law 2697 = .ok (.iconst 0, 1) := by decide +kernel
theorem dLaw_law_2698 : decode cLaw_law 2698 = .ok (.ireturn, 1) := by decide +kernel
theorem dLaw_law_2699 : decode cLaw_law 2699 = .ok (.aload_n 1, 1) := by decide +kernel
theorem dLaw_law_2700 : decode cLaw_law 2700 = .ok (.aload_n 0, 1) := by decide +kernel
theorem dLaw_law_2701 : decode cLaw_law 2701 = .ok (.iload 5, 2) := by decide +kernel
theorem dLaw_law_2703 : decode cLaw_law 2703 = .ok (.iconst 1, 1) := by decide +kernel
theorem dLaw_law_2704 : decode cLaw_law 2704 = .ok (.iadd, 1) := by decide +kernel
theorem dLaw_law_2705 : decode cLaw_law 2705 = .ok (.iaload, 1) := by decide +kernel
theorem dLaw_law_2706 : decode cLaw_law 2706 = .ok (.aload_n 0, 1) := by decide +kernel
theorem dLaw_law_2707 : decode cLaw_law 2707 = .ok (.iload 5, 2) := by decide +kernel
theorem dLaw_law_2709 : decode cLaw_law 2709 = .ok (.iconst 2, 1) := by decide +kernel
theorem dLaw_law_2710 : decode cLaw_law 2710 = .ok (.iadd, 1) := by decide +kernel
theorem dLaw_law_2711 : decode cLaw_law 2711 = .ok (.iaload, 1) := by decide +kernel
theorem dLaw_law_2712 : decode cLaw_law 2712 = .ok (.i2c, 1) := by decide +kernel
theorem dLaw_law_2713 : decode cLaw_law 2713 = .ok (.aload_n 3, 1) := by decide +kernel
theorem dLaw_law_2714 : decode cLaw_law 2714 = .ok (.invokestatic 337, 3) := by decide +kernel
theorem dLaw_law_2717 : decode cLaw_law 2717 = .ok (.istore 6, 2) := by decide +kernel
theorem dLaw_law_2719 : decode cLaw_law 2719 = .ok (.aload_n 2, 1) := by decide +kernel
theorem dLaw_law_2720 : decode cLaw_law 2720 = .ok (.aload_n 0, 1) := by decide +kernel
theorem dLaw_law_2721 : decode cLaw_law 2721 = .ok (.iload 5, 2) := by decide +kernel
theorem dLaw_law_2723 : decode cLaw_law 2723 = .ok (.iconst 1, 1) := by decide +kernel
theorem dLaw_law_2724 : decode cLaw_law 2724 = .ok (.iadd, 1) := by decide +kernel
theorem dLaw_law_2725 : decode cLaw_law 2725 = .ok (.iaload, 1) := by decide +kernel
theorem dLaw_law_2726 : decode cLaw_law 2726 = .ok (.aload_n 0, 1) := by decide +kernel
theorem dLaw_law_2727 : decode cLaw_law 2727 = .ok (.iload 5, 2) := by decide +kernel
theorem dLaw_law_2729 : decode cLaw_law 2729 = .ok (.iconst 2, 1) := by decide +kernel
theorem dLaw_law_2730 : decode cLaw_law 2730 = .ok (.iadd, 1) := by decide +kernel
theorem dLaw_law_2731 : decode cLaw_law 2731 = .ok (.iaload, 1) := by decide +kernel
theorem dLaw_law_2732 : decode cLaw_law 2732 = .ok (.i2c, 1) := by decide +kernel
theorem dLaw_law_2733 : decode cLaw_law 2733 = .ok (.invokevirtual 340, 3) := by decide +kernel
theorem dLaw_law_2736 : decode cLaw_law 2736 = .ok (.istore 7, 2) := by decide +kernel
theorem dLaw_law_2738 : decode cLaw_law 2738 = .ok (.aload_n 2, 1) := by decide +kernel
theorem dLaw_law_2739 : decode cLaw_law 2739 = .ok (.invokevirtual 196, 3) := by decide +kernel
theorem dLaw_law_2742 : decode cLaw_law 2742 = .ok (.iload 6, 2) := by decide +kernel
theorem dLaw_law_2744 : decode cLaw_law 2744 = .ok (.if_icmp .eq 5, 3) := by decide +kernel
theorem dLaw_law_2747 : decode cLaw_law 2747 = .ok (.iconst 0, 1) := by decide +kernel
theorem dLaw_law_2748 : decode cLaw_law 2748 = .ok (.ireturn, 1) := by decide +kernel
theorem dLaw_law_2749 : decode cLaw_law 2749 = .ok (.iload 6, 2) := by decide +kernel
theorem dLaw_law_2751 : decode cLaw_law 2751 = .ok (.ifCond .ne 15, 3) := by decide +kernel
theorem dLaw_law_2754 : decode cLaw_law 2754 = .ok (.aload_n 3, 1) := by decide +kernel
theorem dLaw_law_2755 : decode cLaw_law 2755 = .ok (.iconst 0, 1) := by decide +kernel
theorem dLaw_law_2756 : decode cLaw_law 2756 = .ok (.laload, 1) := by decide +kernel
theorem dLaw_law_2757 : decode cLaw_law 2757 = .ok (.iload 7, 2) := by decide +kernel
theorem dLaw_law_2759 : decode cLaw_law 2759 = .ok (.i2l, 1) := by decide +kernel
theorem dLaw_law_2760 : decode cLaw_law 2760 = .ok (.lcmp, 1) := by decide +kernel
theorem dLaw_law_2761 : decode cLaw_law 2761 = .ok (.ifCond .eq 5, 3) := by decide +kernel
theorem dLaw_law_2764 : decode cLaw_law 2764 = .ok (.iconst 0, 1) := by decide +kernel
theorem dLaw_law_2765 : decode cLaw_law 2765 = .ok (.ireturn, 1) := by decide +kernel
theorem dLaw_law_2766 : decode cLaw_law 2766 = .ok (.goto 446, 3) := by decide +kernel
theorem dLaw_law_2769 : decode cLaw_law 2769 = .ok (.aload_n 1, 1) := by decide +kernel
theorem dLaw_law_2770 : decode cLaw_law 2770 = .ok (.aload_n 0, 1) := by decide +kernel
theorem dLaw_law_2771 : decode cLaw_law 2771 = .ok (.iload 5, 2) := by decide +kernel
theorem dLaw_law_2773 : decode cLaw_law 2773 = .ok (.iconst 1, 1) := by decide +kernel
theorem dLaw_law_2774 : decode cLaw_law 2774 = .ok (.iadd, 1) := by decide +kernel
theorem dLaw_law_2775 : decode cLaw_law 2775 = .ok (.iaload, 1) := by decide +kernel
theorem dLaw_law_2776 : decode cLaw_law 2776 = .ok (.aload_n 3, 1) := by decide +kernel
theorem dLaw_law_2777 : decode cLaw_law 2777 = .ok (.invokestatic 341, 3) := by decide +kernel
theorem dLaw_law_2780 : decode cLaw_law 2780 = .ok (.istore 6, 2) := by decide +kernel
theorem dLaw_law_2782 : decode cLaw_law 2782 = .ok (.aload_n 2, 1) := by decide +kernel
theorem dLaw_law_2783 : decode cLaw_law 2783 = .ok (.aload_n 0, 1) := by decide +kernel
theorem dLaw_law_2784 : decode cLaw_law 2784 = .ok (.iload 5, 2) := by decide +kernel
theorem dLaw_law_2786 : decode cLaw_law 2786 = .ok (.iconst 1, 1) := by decide +kernel
theorem dLaw_law_2787 : decode cLaw_law 2787 = .ok (.iadd, 1) := by decide +kernel
theorem dLaw_law_2788 : decode cLaw_law 2788 = .ok (.iaload, 1) := by decide +kernel
theorem dLaw_law_2789 : decode cLaw_law 2789 = .ok (.invokevirtual 343, 3) := by decide +kernel
theorem dLaw_law_2792 : decode cLaw_law 2792 = .ok (.istore 7, 2) := by decide +kernel
theorem dLaw_law_2794 : decode cLaw_law 2794 = .ok (.aload_n 2, 1) := by decide +kernel
theorem dLaw_law_2795 : decode cLaw_law 2795 = .ok (.invokevirtual 196, 3) := by decide +kernel
theorem dLaw_law_2798 : decode cLaw_law 2798 = .ok (.iload 6, 2) := by decide +kernel
theorem dLaw_law_2800 : decode cLaw_law 2800 = .ok (.if_icmp .eq 5, 3) := by decide +kernel
theorem dLaw_law_2803 : decode cLaw_law 2803 = .ok (.iconst 0, 1) := by decide +kernel
theorem dLaw_law_2804 : decode cLaw_law 2804 = .ok (.ireturn, 1) := by decide +kernel
theorem dLaw_law_2805 : decode cLaw_law 2805 = .ok (.iload 6, 2) := by decide +kernel
theorem dLaw_law_2807 : decode cLaw_law 2807 = .ok (.ifCond .ne 15, 3) := by decide +kernel
theorem dLaw_law_2810 : decode cLaw_law 2810 = .ok (.aload_n 3, 1) := by decide +kernel
theorem dLaw_law_2811 : decode cLaw_law 2811 = .ok (.iconst 0, 1) := by decide +kernel
theorem dLaw_law_2812 : decode cLaw_law 2812 = .ok (.laload, 1) := by decide +kernel
theorem dLaw_law_2813 : decode cLaw_law 2813 = .ok (.iload 7, 2) := by decide +kernel
theorem dLaw_law_2815 : decode cLaw_law 2815 = .ok (.i2l, 1) := by decide +kernel
theorem dLaw_law_2816 : decode cLaw_law 2816 = .ok (.lcmp, 1) := by decide +kernel
theorem dLaw_law_2817 : decode cLaw_law 2817 = .ok (.ifCond .eq 5, 3) := by decide +kernel
theorem dLaw_law_2820 : decode cLaw_law 2820 = .ok (.iconst 0, 1) := by decide +kernel
theorem dLaw_law_2821 : decode cLaw_law 2821 = .ok (.ireturn, 1) := by decide +kernel
theorem dLaw_law_2822 : decode cLaw_law 2822 = .ok (.goto 390, 3) := by decide +kernel
theorem dLaw_law_2825 : decode cLaw_law 2825 = .ok (.aload_n 1, 1) := by decide +kernel
theorem dLaw_law_2826 : decode cLaw_law 2826 = .ok (.aload_n 3, 1) := by decide +kernel
theorem dLaw_law_2827 : decode cLaw_law 2827 = .ok (.invokestatic 344, 3) := by decide +kernel
theorem dLaw_law_2830 : decode cLaw_law 2830 = .ok (.istore 6, 2) := by decide +kernel
theorem dLaw_law_2832 : decode cLaw_law 2832 = .ok (.aload_n 2, 1) := by decide +kernel
theorem dLaw_law_2833 : decode cLaw_law 2833 = .ok (.invokevirtual 346, 3) := by decide +kernel
theorem dLaw_law_2836 : decode cLaw_law 2836 = .ok (.istore 7, 2) := by decide +kernel
theorem dLaw_law_2838 : decode cLaw_law 2838 = .ok (.aload_n 2, 1) := by decide +kernel
theorem dLaw_law_2839 : decode cLaw_law 2839 = .ok (.invokevirtual 196, 3) := by decide +kernel
theorem dLaw_law_2842 : decode cLaw_law 2842 = .ok (.iload 6, 2) := by decide +kernel
theorem dLaw_law_2844 : decode cLaw_law 2844 = .ok (.if_icmp .eq 5, 3) := by decide +kernel
theorem dLaw_law_2847 : decode cLaw_law 2847 = .ok (.iconst 0, 1) := by decide +kernel
theorem dLaw_law_2848 : decode cLaw_law 2848 = .ok (.ireturn, 1) := by decide +kernel
theorem dLaw_law_2849 : decode cLaw_law 2849 = .ok (.iload 6, 2) := by decide +kernel
theorem dLaw_law_2851 : decode cLaw_law 2851 = .ok (.ifCond .ne 15, 3) := by decide +kernel
theorem dLaw_law_2854 : decode cLaw_law 2854 = .ok (.aload_n 3, 1) := by decide +kernel
theorem dLaw_law_2855 : decode cLaw_law 2855 = .ok (.iconst 0, 1) := by decide +kernel
theorem dLaw_law_2856 : decode cLaw_law 2856 = .ok (.laload, 1) := by decide +kernel
theorem dLaw_law_2857 : decode cLaw_law 2857 = .ok (.iload 7, 2) := by decide +kernel
theorem dLaw_law_2859 : decode cLaw_law 2859 = .ok (.i2l, 1) := by decide +kernel
theorem dLaw_law_2860 : decode cLaw_law 2860 = .ok (.lcmp, 1) := by decide +kernel
theorem dLaw_law_2861 : decode cLaw_law 2861 = .ok (.ifCond .eq 5, 3) := by decide +kernel
theorem dLaw_law_2864 : decode cLaw_law 2864 = .ok (.iconst 0, 1) := by decide +kernel
theorem dLaw_law_2865 : decode cLaw_law 2865 = .ok (.ireturn, 1) := by decide +kernel
theorem dLaw_law_2866 : decode cLaw_law 2866 = .ok (.goto 346, 3) := by decide +kernel
theorem dLaw_law_2869 : decode cLaw_law 2869 = .ok (.aload_n 1, 1) := by decide +kernel
theorem dLaw_law_2870 : decode cLaw_law 2870 = .ok (.aload_n 0, 1) := by decide +kernel
theorem dLaw_law_2871 : decode cLaw_law 2871 = .ok (.iload 5, 2) := by decide +kernel
theorem dLaw_law_2873 : decode cLaw_law 2873 = .ok (.iconst 1, 1) := by decide +kernel
theorem dLaw_law_2874 : decode cLaw_law 2874 = .ok (.iadd, 1) := by decide +kernel
theorem dLaw_law_2875 : decode cLaw_law 2875 = .ok (.iaload, 1) := by decide +kernel
theorem dLaw_law_2876 : decode cLaw_law 2876 = .ok (.aload_n 3, 1) := by decide +kernel
theorem dLaw_law_2877 : decode cLaw_law 2877 = .ok (.invokestatic 347, 3) := by decide +kernel
theorem dLaw_law_2880 : decode cLaw_law 2880 = .ok (.istore 6, 2) := by decide +kernel
theorem dLaw_law_2882 : decode cLaw_law 2882 = .ok (.aload_n 2, 1) := by decide +kernel
theorem dLaw_law_2883 : decode cLaw_law 2883 = .ok (.aload_n 0, 1) := by decide +kernel
theorem dLaw_law_2884 : decode cLaw_law 2884 = .ok (.iload 5, 2) := by decide +kernel
theorem dLaw_law_2886 : decode cLaw_law 2886 = .ok (.iconst 1, 1) := by decide +kernel
theorem dLaw_law_2887 : decode cLaw_law 2887 = .ok (.iadd, 1) := by decide +kernel
theorem dLaw_law_2888 : decode cLaw_law 2888 = .ok (.iaload, 1) := by decide +kernel
theorem dLaw_law_2889 : decode cLaw_law 2889 = .ok (.invokevirtual 349, 3) := by decide +kernel
theorem dLaw_law_2892 : decode cLaw_law 2892 = .ok (.istore 7, 2) := by decide +kernel
theorem dLaw_law_2894 : decode cLaw_law 2894 = .ok (.aload_n 2, 1) := by decide +kernel
theorem dLaw_law_2895 : decode cLaw_law 2895 = .ok (.invokevirtual 196, 3) := by decide +kernel
theorem dLaw_law_2898 : decode cLaw_law 2898 = .ok (.iload 6, 2) := by decide +kernel
theorem dLaw_law_2900 : decode cLaw_law 2900 = .ok (.if_icmp .eq 5, 3) := by decide +kernel
theorem dLaw_law_2903 : decode cLaw_law 2903 = .ok (.iconst 0, 1) := by decide +kernel
theorem dLaw_law_2904 : decode cLaw_law 2904 = .ok (.ireturn, 1) := by decide +kernel
theorem dLaw_law_2905 : decode cLaw_law 2905 = .ok (.iload 6, 2) := by decide +kernel
theorem dLaw_law_2907 : decode cLaw_law 2907 = .ok (.ifCond .ne 15, 3) := by decide +kernel
theorem dLaw_law_2910 : decode cLaw_law 2910 = .ok (.aload_n 3, 1) := by decide +kernel
theorem dLaw_law_2911 : decode cLaw_law 2911 = .ok (.iconst 0, 1) := by decide +kernel
theorem dLaw_law_2912 : decode cLaw_law 2912 = .ok (.laload, 1) := by decide +kernel
theorem dLaw_law_2913 : decode cLaw_law 2913 = .ok (.iload 7, 2) := by decide +kernel
theorem dLaw_law_2915 : decode cLaw_law 2915 = .ok (.i2l, 1) := by decide +kernel
theorem dLaw_law_2916 : decode cLaw_law 2916 = .ok (.lcmp, 1) := by decide +kernel
theorem dLaw_law_2917 : decode cLaw_law 2917 = .ok (.ifCond .eq 5, 3) := by decide +kernel
theorem dLaw_law_2920 : decode cLaw_law 2920 = .ok (.iconst 0, 1) := by decide +kernel
theorem dLaw_law_2921 : decode cLaw_law 2921 = .ok (.ireturn, 1) := by decide +kernel
theorem dLaw_law_2922 : decode cLaw_law 2922 = .ok (.goto 290, 3) := by decide +kernel
theorem dLaw_law_2925 : decode cLaw_law 2925 = .ok (.aload_n 1, 1) := by decide +kernel
theorem dLaw_law_2926 : decode cLaw_law 2926 = .ok (.aload_n 3, 1) := by decide +kernel
theorem dLaw_law_2927 : decode cLaw_law 2927 = .ok (.invokestatic 350, 3) := by decide +kernel
theorem dLaw_law_2930 : decode cLaw_law 2930 = .ok (.istore 6, 2) := by decide +kernel
theorem dLaw_law_2932 : decode cLaw_law 2932 = .ok (.aload_n 2, 1) := by decide +kernel
theorem dLaw_law_2933 : decode cLaw_law 2933 = .ok (.invokevirtual 352, 3) := by decide +kernel
theorem dLaw_law_2936 : decode cLaw_law 2936 = .ok (.istore 7, 2) := by decide +kernel
theorem dLaw_law_2938 : decode cLaw_law 2938 = .ok (.aload_n 2, 1) := by decide +kernel
theorem dLaw_law_2939 : decode cLaw_law 2939 = .ok (.invokevirtual 196, 3) := by decide +kernel
theorem dLaw_law_2942 : decode cLaw_law 2942 = .ok (.iload 6, 2) := by decide +kernel
theorem dLaw_law_2944 : decode cLaw_law 2944 = .ok (.if_icmp .eq 5, 3) := by decide +kernel
theorem dLaw_law_2947 : decode cLaw_law 2947 = .ok (.iconst 0, 1) := by decide +kernel
theorem dLaw_law_2948 : decode cLaw_law 2948 = .ok (.ireturn, 1) := by decide +kernel
theorem dLaw_law_2949 : decode cLaw_law 2949 = .ok (.iload 6, 2) := by decide +kernel
theorem dLaw_law_2951 : decode cLaw_law 2951 = .ok (.ifCond .ne 15, 3) := by decide +kernel
theorem dLaw_law_2954 : decode cLaw_law 2954 = .ok (.aload_n 3, 1) := by decide +kernel
theorem dLaw_law_2955 : decode cLaw_law 2955 = .ok (.iconst 0, 1) := by decide +kernel
theorem dLaw_law_2956 : decode cLaw_law 2956 = .ok (.laload, 1) := by decide +kernel
theorem dLaw_law_2957 : decode cLaw_law 2957 = .ok (.iload 7, 2) := by decide +kernel
theorem dLaw_law_2959 : decode cLaw_law 2959 = .ok (.i2l, 1) := by decide +kernel
theorem dLaw_law_2960 : decode cLaw_law 2960 = .ok (.lcmp, 1) := by decide +kernel
theorem dLaw_law_2961 : decode cLaw_law 2961 = .ok (.ifCond .eq 5, 3) := by decide +kernel
theorem dLaw_law_2964 : decode cLaw_law 2964 = .ok (.iconst 0, 1) := by decide +kernel
theorem dLaw_law_2965 : decode cLaw_law 2965 = .ok (.ireturn, 1) := by decide +kernel
theorem dLaw_law_2966 : decode cLaw_law 2966 = .ok (.goto 246, 3) := by decide +kernel
theorem dLaw_law_2969 : decode cLaw_law 2969 = .ok (.aload_n 1, 1) := by decide +kernel
theorem dLaw_law_2970 : decode cLaw_law 2970 = .ok (.aload_n 0, 1) := by decide +kernel
theorem dLaw_law_2971 : decode cLaw_law 2971 = .ok (.iload 5, 2) := by decide +kernel
theorem dLaw_law_2973 : decode cLaw_law 2973 = .ok (.iconst 1, 1) := by decide +kernel
theorem dLaw_law_2974 : decode cLaw_law 2974 = .ok (.iadd, 1) := by decide +kernel
theorem dLaw_law_2975 : decode cLaw_law 2975 = .ok (.iaload, 1) := by decide +kernel
theorem dLaw_law_2976 : decode cLaw_law 2976 = .ok (.aload_n 3, 1) := by decide +kernel
theorem dLaw_law_2977 : decode cLaw_law 2977 = .ok (.invokestatic 353, 3) := by decide +kernel
theorem dLaw_law_2980 : decode cLaw_law 2980 = .ok (.istore 6, 2) := by decide +kernel
theorem dLaw_law_2982 : decode cLaw_law 2982 = .ok (.aload_n 2, 1) := by decide +kernel
theorem dLaw_law_2983 : decode cLaw_law 2983 = .ok (.aload_n 0, 1) := by decide +kernel
theorem dLaw_law_2984 : decode cLaw_law 2984 = .ok (.iload 5, 2) := by decide +kernel
theorem dLaw_law_2986 : decode cLaw_law 2986 = .ok (.iconst 1, 1) := by decide +kernel
theorem dLaw_law_2987 : decode cLaw_law 2987 = .ok (.iadd, 1) := by decide +kernel
theorem dLaw_law_2988 : decode cLaw_law 2988 = .ok (.iaload, 1) := by decide +kernel
theorem dLaw_law_2989 : decode cLaw_law 2989 = .ok (.invokevirtual 355, 3) := by decide +kernel
theorem dLaw_law_2992 : decode cLaw_law 2992 = .ok (.istore 7, 2) := by decide +kernel
theorem dLaw_law_2994 : decode cLaw_law 2994 = .ok (.aload_n 2, 1) := by decide +kernel
theorem dLaw_law_2995 : decode cLaw_law 2995 = .ok (.invokevirtual 196, 3) := by decide +kernel
theorem dLaw_law_2998 : decode cLaw_law 2998 = .ok (.iload 6, 2) := by decide +kernel
theorem dLaw_law_3000 : decode cLaw_law 3000 = .ok (.if_icmp .eq 5, 3) := by decide +kernel
theorem dLaw_law_3003 : decode cLaw_law 3003 = .ok (.iconst 0, 1) := by decide +kernel
theorem dLaw_law_3004 : decode cLaw_law 3004 = .ok (.ireturn, 1) := by decide +kernel
theorem dLaw_law_3005 : decode cLaw_law 3005 = .ok (.iload 6, 2) := by decide +kernel
theorem dLaw_law_3007 : decode cLaw_law 3007 = .ok (.ifCond .ne 15, 3) := by decide +kernel
theorem dLaw_law_3010 : decode cLaw_law 3010 = .ok (.aload_n 3, 1) := by decide +kernel
theorem dLaw_law_3011 : decode cLaw_law 3011 = .ok (.iconst 0, 1) := by decide +kernel
theorem dLaw_law_3012 : decode cLaw_law 3012 = .ok (.laload, 1) := by decide +kernel
theorem dLaw_law_3013 : decode cLaw_law 3013 = .ok (.iload 7, 2) := by decide +kernel
theorem dLaw_law_3015 : decode cLaw_law 3015 = .ok (.i2l, 1) := by decide +kernel
theorem dLaw_law_3016 : decode cLaw_law 3016 = .ok (.lcmp, 1) := by decide +kernel
theorem dLaw_law_3017 : decode cLaw_law 3017 = .ok (.ifCond .eq 5, 3) := by decide +kernel
theorem dLaw_law_3020 : decode cLaw_law 3020 = .ok (.iconst 0, 1) := by decide +kernel
theorem dLaw_law_3021 : decode cLaw_law 3021 = .ok (.ireturn, 1) := by decide +kernel
theorem dLaw_law_3022 : decode cLaw_law 3022 = .ok (.goto 190, 3) := by decide +kernel
theorem dLaw_law_3025 : decode cLaw_law 3025 = .ok (.aload_n 1, 1) := by decide +kernel
theorem dLaw_law_3026 : decode cLaw_law 3026 = .ok (.aload_n 3, 1) := by decide +kernel
theorem dLaw_law_3027 : decode cLaw_law 3027 = .ok (.invokestatic 356, 3) := by decide +kernel
theorem dLaw_law_3030 : decode cLaw_law 3030 = .ok (.istore 6, 2) := by decide +kernel
theorem dLaw_law_3032 : decode cLaw_law 3032 = .ok (.aload_n 2, 1) := by decide +kernel
theorem dLaw_law_3033 : decode cLaw_law 3033 = .ok (.invokevirtual 358, 3) := by decide +kernel
theorem dLaw_law_3036 : decode cLaw_law 3036 = .ok (.lstore 7, 2) := by decide +kernel
theorem dLaw_law_3038 : decode cLaw_law 3038 = .ok (.aload_n 2, 1) := by decide +kernel
theorem dLaw_law_3039 : decode cLaw_law 3039 = .ok (.invokevirtual 196, 3) := by decide +kernel
theorem dLaw_law_3042 : decode cLaw_law 3042 = .ok (.iload 6, 2) := by decide +kernel
theorem dLaw_law_3044 : decode cLaw_law 3044 = .ok (.if_icmp .eq 5, 3) := by decide +kernel
theorem dLaw_law_3047 : decode cLaw_law 3047 = .ok (.iconst 0, 1) := by decide +kernel
theorem dLaw_law_3048 : decode cLaw_law 3048 = .ok (.ireturn, 1) := by decide +kernel
theorem dLaw_law_3049 : decode cLaw_law 3049 = .ok (.iload 6, 2) := by decide +kernel
theorem dLaw_law_3051 : decode cLaw_law 3051 = .ok (.ifCond .ne 14, 3) := by decide +kernel
theorem dLaw_law_3054 : decode cLaw_law 3054 = .ok (.aload_n 3, 1) := by decide +kernel
theorem dLaw_law_3055 : decode cLaw_law 3055 = .ok (.iconst 0, 1) := by decide +kernel
theorem dLaw_law_3056 : decode cLaw_law 3056 = .ok (.laload, 1) := by decide +kernel
theorem dLaw_law_3057 : decode cLaw_law 3057 = .ok (.lload 7, 2) := by decide +kernel
theorem dLaw_law_3059 : decode cLaw_law 3059 = .ok (.lcmp, 1) := by decide +kernel
theorem dLaw_law_3060 : decode cLaw_law 3060 = .ok (.ifCond .eq 5, 3) := by decide +kernel
theorem dLaw_law_3063 : decode cLaw_law 3063 = .ok (.iconst 0, 1) := by decide +kernel
theorem dLaw_law_3064 : decode cLaw_law 3064 = .ok (.ireturn, 1) := by decide +kernel
theorem dLaw_law_3065 : decode cLaw_law 3065 = .ok (.goto 147, 3) := by decide +kernel
theorem dLaw_law_3068 : decode cLaw_law 3068 = .ok (.aload_n 1, 1) := by decide +kernel
theorem dLaw_law_3069 : decode cLaw_law 3069 = .ok (.aload 4, 2) := by decide +kernel
theorem dLaw_law_3071 : decode cLaw_law 3071 = .ok (.invokestatic 359, 3) := by decide +kernel
theorem dLaw_law_3074 : decode cLaw_law 3074 = .ok (.istore 6, 2) := by decide +kernel
theorem dLaw_law_3076 : decode cLaw_law 3076 = .ok (.aload_n 2, 1) := by decide +kernel
theorem dLaw_law_3077 : decode cLaw_law 3077 = .ok (.invokevirtual 362, 3) := by decide +kernel
theorem dLaw_law_3080 : decode cLaw_law 3080 = .ok (.fstore 7, 2) := by decide +kernel
theorem dLaw_law_3082 : decode cLaw_law 3082 = .ok (.aload_n 2, 1) := by decide +kernel
theorem dLaw_law_3083 : decode cLaw_law 3083 = .ok (.invokevirtual 196, 3) := by decide +kernel
theorem dLaw_law_3086 : decode cLaw_law 3086 = .ok (.iload 6, 2) := by decide +kernel
theorem dLaw_law_3088 : decode cLaw_law 3088 = .ok (.if_icmp .eq 5, 3) := by decide +kernel
theorem dLaw_law_3091 : decode cLaw_law 3091 = .ok (.iconst 0, 1) := by decide +kernel
theorem dLaw_law_3092 : decode cLaw_law 3092 = .ok (.ireturn, 1) := by decide +kernel
theorem dLaw_law_3093 : decode cLaw_law 3093 = .ok (.iload 6, 2) := by decide +kernel
theorem dLaw_law_3095 : decode cLaw_law 3095 = .ok (.ifCond .ne 36, 3) := by decide +kernel
theorem dLaw_law_3098 : decode cLaw_law 3098 = .ok (.aload 4, 2) := by decide +kernel
theorem dLaw_law_3100 : decode cLaw_law 3100 = .ok (.iconst 0, 1) := by decide +kernel
theorem dLaw_law_3101 : decode cLaw_law 3101 = .ok (.daload, 1) := by decide +kernel
theorem dLaw_law_3102 : decode cLaw_law 3102 = .ok (.fload 7, 2) := by decide +kernel
theorem dLaw_law_3104 : decode cLaw_law 3104 = .ok (.f2d, 1) := by decide +kernel
theorem dLaw_law_3105 : decode cLaw_law 3105 = .ok (.dcmp .l, 1) := by decide +kernel
theorem dLaw_law_3106 : decode cLaw_law 3106 = .ok (.ifCond .eq 25, 3) := by decide +kernel
theorem dLaw_law_3109 : decode cLaw_law 3109 = .ok (.aload 4, 2) := by decide +kernel
theorem dLaw_law_3111 : decode cLaw_law 3111 = .ok (.iconst 0, 1) := by decide +kernel
theorem dLaw_law_3112 : decode cLaw_law 3112 = .ok (.daload, 1) := by decide +kernel
theorem dLaw_law_3113 : decode cLaw_law 3113 = .ok (.aload 4, 2) := by decide +kernel
theorem dLaw_law_3115 : decode cLaw_law 3115 = .ok (.iconst 0, 1) := by decide +kernel
theorem dLaw_law_3116 : decode cLaw_law 3116 = .ok (.daload, 1) := by decide +kernel
theorem dLaw_law_3117 : decode cLaw_law 3117 = .ok (.dcmp .l, 1) := by decide +kernel
theorem dLaw_law_3118 : decode cLaw_law 3118 = .ok (.ifCond .eq 11, 3) := by decide +kernel
theorem dLaw_law_3121 : decode cLaw_law 3121 = .ok (.fload 7, 2) := by decide +kernel
theorem dLaw_law_3123 : decode cLaw_law 3123 = .ok (.fload 7, 2) := by decide +kernel
theorem dLaw_law_3125 : decode cLaw_law 3125 = .ok (.fcmp .l, 1) := by decide +kernel
theorem dLaw_law_3126 : decode cLaw_law 3126 = .ok (.ifCond .ne 5, 3) := by decide +kernel
theorem dLaw_law_3129 : decode cLaw_law 3129 = .ok (.iconst 0, 1) := by decide +kernel
theorem dLaw_law_3130 : decode cLaw_law 3130 = .ok (.ireturn, 1) := by decide +kernel
theorem dLaw_law_3131 : decode cLaw_law 3131 = .ok (.goto 81, 3) := by decide +kernel
theorem dLaw_law_3134 : decode cLaw_law 3134 = .ok (.aload_n 1, 1) := by decide +kernel
theorem dLaw_law_3135 : decode cLaw_law 3135 = .ok (.aload 4, 2) := by decide +kernel
theorem dLaw_law_3137 : decode cLaw_law 3137 = .ok (.invokestatic 363, 3) := by decide +kernel
theorem dLaw_law_3140 : decode cLaw_law 3140 = .ok (.istore 6, 2) := by decide +kernel
theorem dLaw_law_3142 : decode cLaw_law 3142 = .ok (.aload_n 2, 1) := by decide +kernel
theorem dLaw_law_3143 : decode cLaw_law 3143 = .ok (.invokevirtual 365, 3) := by decide +kernel
theorem dLaw_law_3146 : decode cLaw_law 3146 = .ok (.dstore 7, 2) := by decide +kernel
theorem dLaw_law_3148 : decode cLaw_law 3148 = .ok (.aload_n 2, 1) := by decide +kernel
theorem dLaw_law_3149 : decode cLaw_law 3149 = .ok (.invokevirtual 196, 3) := by decide +kernel
theorem dLaw_law_3152 : decode cLaw_law 3152 = .ok (.iload 6, 2) := by decide +kernel
theorem dLaw_law_3154 : decode cLaw_law 3154 = .ok (.if_icmp .eq 5, 3) := by decide +kernel
theorem dLaw_law_3157 : decode cLaw_law 3157 = .ok (.iconst 0, 1) := by decide +kernel
theorem dLaw_law_3158 : decode cLaw_law 3158 = .ok (.ireturn, 1) := by decide +kernel
theorem dLaw_law_3159 : decode cLaw_law 3159 = .ok (.iload 6, 2) := by decide +kernel
theorem dLaw_law_3161 : decode cLaw_law 3161 = .ok (.ifCond .ne 35, 3) := by decide +kernel
theorem dLaw_law_3164 : decode cLaw_law 3164 = .ok (.aload 4, 2) := by decide +kernel
theorem dLaw_law_3166 : decode cLaw_law 3166 = .ok (.iconst 0, 1) := by decide +kernel
theorem dLaw_law_3167 : decode cLaw_law 3167 = .ok (.daload, 1) := by decide +kernel
theorem dLaw_law_3168 : decode cLaw_law 3168 = .ok (.dload 7, 2) := by decide +kernel
theorem dLaw_law_3170 : decode cLaw_law 3170 = .ok (.dcmp .l, 1) := by decide +kernel
theorem dLaw_law_3171 : decode cLaw_law 3171 = .ok (.ifCond .eq 25, 3) := by decide +kernel
theorem dLaw_law_3174 : decode cLaw_law 3174 = .ok (.aload 4, 2) := by decide +kernel
theorem dLaw_law_3176 : decode cLaw_law 3176 = .ok (.iconst 0, 1) := by decide +kernel
theorem dLaw_law_3177 : decode cLaw_law 3177 = .ok (.daload, 1) := by decide +kernel
theorem dLaw_law_3178 : decode cLaw_law 3178 = .ok (.aload 4, 2) := by decide +kernel
theorem dLaw_law_3180 : decode cLaw_law 3180 = .ok (.iconst 0, 1) := by decide +kernel
theorem dLaw_law_3181 : decode cLaw_law 3181 = .ok (.daload, 1) := by decide +kernel
theorem dLaw_law_3182 : decode cLaw_law 3182 = .ok (.dcmp .l, 1) := by decide +kernel
theorem dLaw_law_3183 : decode cLaw_law 3183 = .ok (.ifCond .eq 11, 3) := by decide +kernel
theorem dLaw_law_3186 : decode cLaw_law 3186 = .ok (.dload 7, 2) := by decide +kernel
theorem dLaw_law_3188 : decode cLaw_law 3188 = .ok (.dload 7, 2) := by decide +kernel
theorem dLaw_law_3190 : decode cLaw_law 3190 = .ok (.dcmp .l, 1) := by decide +kernel
theorem dLaw_law_3191 : decode cLaw_law 3191 = .ok (.ifCond .ne 5, 3) := by decide +kernel
theorem dLaw_law_3194 : decode cLaw_law 3194 = .ok (.iconst 0, 1) := by decide +kernel
theorem dLaw_law_3195 : decode cLaw_law 3195 = .ok (.ireturn, 1) := by decide +kernel
theorem dLaw_law_3196 : decode cLaw_law 3196 = .ok (.goto 16, 3) := by decide +kernel
theorem dLaw_law_3199 : decode cLaw_law 3199 = .ok (.aload_n 1, 1) := by decide +kernel
theorem dLaw_law_3200 : decode cLaw_law 3200 = .ok (.invokevirtual 366, 3) := by decide +kernel
theorem dLaw_law_3203 : decode cLaw_law 3203 = .ok (.aload_n 2, 1) := by decide +kernel
theorem dLaw_law_3204 : decode cLaw_law 3204 = .ok (.invokevirtual 369, 3) := by decide +kernel
theorem dLaw_law_3207 : decode cLaw_law 3207 = .ok (.if_icmp .eq 5, 3) := by decide +kernel
theorem dLaw_law_3210 : decode cLaw_law 3210 = .ok (.iconst 0, 1) := by decide +kernel
theorem dLaw_law_3211 : decode cLaw_law 3211 = .ok (.ireturn, 1) := by decide +kernel
theorem dLaw_law_3212 : decode cLaw_law 3212 = .ok (.iinc 5 5, 3) := by decide +kernel
theorem dLaw_law_3215 : decode cLaw_law 3215 = .ok (.goto (-3187), 3) := by decide +kernel
theorem dLaw_law_3218 : decode cLaw_law 3218 = .ok (.iconst 1, 1) := by decide +kernel
theorem dLaw_law_3219 : decode cLaw_law 3219 = .ok (.ireturn, 1) := by decide +kernel
