theorem dL_isCopied_245 : decode cL_isCopied 245 = .ok (.iload 10, 2) := by decide +kernel
theorem dL_isCopied_247 : decode cL_isCopied 247 = .ok (.iconst 2, 1) := by decide +kernel
theorem dL_isCopied_248 : decode cL_isCopied 248 = .ok (.iadd, 1) := by decide +kernel
theorem dL_isCopied_249 : decode cL_isCopied 249 = .ok (.iload 16, 2) := by decide +kernel
theorem dL_isCopied_251 : decode cL_isCopied 251 = .ok (.iadd, 1) := by decide +kernel
theorem dL_isCopied_252 : decode cL_isCopied 252 = .ok (.iload 16, 2) := by decide +kernel
theorem dL_isCopied_254 : decode cL_isCopied 254 = .ok (.aload 6, 2) := by decide +kernel
theorem dL_isCopied_256 : decode cL_isCopied 256 = .ok (.iconst 0, 1) := by decide +kernel
theorem dL_isCopied_257 : decode cL_isCopied 257 = .ok (.iaload, 1) := by decide +kernel
theorem dL_isCopied_258 : decode cL_isCopied 258 = .ok (.if_icmp .ge 13, 3) := by decide +kernel
theorem dL_isCopied_261 : decode cL_isCopied 261 = .ok (.aload_n 2, 1) := by decide +kernel
theorem dL_isCopied_262 : decode cL_isCopied 262 = .ok (.iload 11, 2) := by decide +kernel
theorem dL_isCopied_264 : decode cL_isCopied 264 = .ok (.iload 16, 2) := by decide +kernel
theorem dL_isCopied_266 : decode cL_isCopied 266 = .ok (.iadd, 1) := by decide +kernel
theorem dL_isCopied_267 : decode cL_isCopied 267 = .ok (.iaload, 1) := by decide +kernel
theorem dL_isCopied_268 : decode cL_isCopied 268 = .ok (.goto 4, 3) := by decide +kernel
theorem dL_isCopied_271 : decode cL_isCopied 271 = .ok (.iconst (-1), 1) := by decide +kernel
theorem dL_isCopied_272 : decode cL_isCopied 272 = .ok (.iastore, 1) := by decide +kernel
theorem dL_isCopied_273 : decode cL_isCopied 273 = .ok (.iinc 16 1, 3) := by decide +kernel
theorem dL_isCopied_276 : decode cL_isCopied 276 = .ok (.goto (-44), 3) := by decide +kernel
theorem dL_isCopied_279 : decode cL_isCopied 279 = .ok (.aload_n 3, 1) := by decide +kernel
theorem dL_isCopied_280 : decode cL_isCopied 280 = .ok (.iload 10, 2) := by decide +kernel
theorem dL_isCopied_282 : decode cL_isCopied 282 = .ok (.iconst 1, 1) := by decide +kernel
theorem dL_isCopied_283 : decode cL_isCopied 283 = .ok (.iadd, 1) := by decide +kernel
theorem dL_isCopied_284 : decode cL_isCopied 284 = .ok (.iload 15, 2) := by decide +kernel
theorem dL_isCopied_286 : decode cL_isCopied 286 = .ok (.ifCond .eq 8, 3) := by decide +kernel
theorem dL_isCopied_289 : decode cL_isCopied 289 = .ok (.iload 13, 2) := by decide +kernel
theorem dL_isCopied_291 : decode cL_isCopied 291 = .ok (.goto 9, 3) := by decide +kernel
theorem dL_isCopied_294 : decode cL_isCopied 294 = .ok (.aload_n 3, 1) := by decide +kernel
theorem dL_isCopied_295 : decode cL_isCopied 295 = .ok (.iload 10, 2) := by decide +kernel
theorem dL_isCopied_297 : decode cL_isCopied 297 = .ok (.iconst 1, 1) := by decide +kernel
theorem dL_isCopied_298 : decode cL_isCopied 298 = .ok (.iadd, 1) := by decide +kernel
theorem dL_isCopied_299 : decode cL_isCopied 299 = .ok (.iaload, 1) := by decide +kernel
theorem dL_isCopied_300 : decode cL_isCopied 300 = .ok (.iastore, 1) := by decide +kernel
theorem dL_isCopied_301 : decode cL_isCopied 301 = .ok (.aload_n 0, 1) := by decide +kernel
theorem dL_isCopied_302 : decode cL_isCopied 302 = .ok (.iload 9, 2) := by decide +kernel
theorem dL_isCopied_304 : decode cL_isCopied 304 = .ok (.iload 13, 2) := by decide +kernel
theorem dL_isCopied_306 : decode cL_isCopied 306 = .ok (.invokestatic 198, 3) := by decide +kernel
theorem dL_isCopied_309 : decode cL_isCopied 309 = .ok (.iload 15, 2) := by decide +kernel
theorem dL_isCopied_311 : decode cL_isCopied 311 = .ok (.ifCond .eq 8, 3) := by decide +kernel
theorem dL_isCopied_314 : decode cL_isCopied 314 = .ok (.iload 14, 2) := by decide +kernel
theorem dL_isCopied_316 : decode cL_isCopied 316 = .ok (.goto 5, 3) := by decide +kernel
theorem dL_isCopied_319 : decode cL_isCopied 319 = .ok (.bipush (-7), 2) := by decide +kernel
theorem dL_isCopied_321 : decode cL_isCopied 321 = .ok (.if_icmp .ne 7, 3) := by decide +kernel
theorem dL_isCopied_324 : decode cL_isCopied 324 = .ok (.iconst 1, 1) := by decide +kernel
theorem dL_isCopied_325 : decode cL_isCopied 325 = .ok (.goto 4, 3) := by decide +kernel
theorem dL_isCopied_328 : decode cL_isCopied 328 = .ok (.iconst 0, 1) := by decide +kernel
theorem dL_isCopied_329 : decode cL_isCopied 329 = .ok (.ireturn, 1) := by decide +kernel
theorem dL_isCopied_330 : decode cL_isCopied 330 = .ok (.iload 7, 2) := by decide +kernel
theorem dL_isCopied_332 : decode cL_isCopied 332 = .ok (.iconst 5, 1) := by decide +kernel
theorem dL_isCopied_333 : decode cL_isCopied 333 = .ok (.if_icmp .ge 112, 3) := by decide +kernel
theorem dL_isCopied_336 : decode cL_isCopied 336 = .ok (.aload_n 2, 1) := by decide +kernel
theorem dL_isCopied_337 : decode cL_isCopied 337 = .ok (.aload_n 3, 1) := by decide +kernel
theorem dL_isCopied_338 : decode cL_isCopied 338 = .ok (.aload 6, 2) := by decide +kernel
theorem dL_isCopied_340 : decode cL_isCopied 340 = .ok (.iload 9, 2) := by decide +kernel
theorem dL_isCopied_342 : decode cL_isCopied 342 = .ok (.invokestatic 129, 3) := by decide +kernel
theorem dL_isCopied_345 : decode cL_isCopied 345 = .ok (.istore 13, 2) := by decide +kernel
theorem dL_isCopied_347 : decode cL_isCopied 347 = .ok (.aload_n 3, 1) := by decide +kernel
theorem dL_isCopied_348 : decode cL_isCopied 348 = .ok (.iload 10, 2) := by decide +kernel
theorem dL_isCopied_350 : decode cL_isCopied 350 = .ok (.iconst 1, 1) := by decide +kernel
theorem dL_isCopied_351 : decode cL_isCopied 351 = .ok (.iadd, 1) := by decide +kernel
theorem dL_isCopied_352 : decode cL_isCopied 352 = .ok (.iload 7, 2) := by decide +kernel
theorem dL_isCopied_354 : decode cL_isCopied 354 = .ok (.iconst 3, 1) := by decide +kernel
theorem dL_isCopied_355 : decode cL_isCopied 355 = .ok (.if_icmp .ne 7, 3) := by decide +kernel
theorem dL_isCopied_358 : decode cL_isCopied 358 = .ok (.iconst (-1), 1) := by decide +kernel
theorem dL_isCopied_359 : decode cL_isCopied 359 = .ok (.goto 9, 3) := by decide +kernel
theorem dL_isCopied_362 : decode cL_isCopied 362 = .ok (.aload_n 3, 1) := by decide +kernel
theorem dL_isCopied_363 : decode cL_isCopied 363 = .ok (.iload 10, 2) := by decide +kernel
theorem dL_isCopied_365 : decode cL_isCopied 365 = .ok (.iconst 1, 1) := by decide +kernel
theorem dL_isCopied_366 : decode cL_isCopied 366 = .ok (.iadd, 1) := by decide +kernel
theorem dL_isCopied_367 : decode cL_isCopied 367 = .ok (.iaload, 1) := by decide +kernel
theorem dL_isCopied_368 : decode cL_isCopied 368 = .ok (.iastore, 1) := by decide +kernel
theorem dL_isCopied_369 : decode cL_isCopied 369 = .ok (.iconst 0, 1) := by decide +kernel
theorem dL_isCopied_370 : decode cL_isCopied 370 = .ok (.istore 14, 2) := by decide +kernel
theorem dL_isCopied_372 : decode cL_isCopied 372 = .ok (.iload 14, 2) := by decide +kernel
theorem dL_isCopied_374 : decode cL_isCopied 374 = .ok (.aload 6, 2) := by decide +kernel
theorem dL_isCopied_376 : decode cL_isCopied 376 = .ok (.iconst 0, 1) := by decide +kernel
theorem dL_isCopied_377 : decode cL_isCopied 377 = .ok (.iaload, 1) := by decide +kernel
theorem dL_isCopied_378 : decode cL_isCopied 378 = .ok (.if_icmp .ge 36, 3) := by decide +kernel
theorem dL_isCopied_381 : decode cL_isCopied 381 = .ok (.iload 12, 2) := by decide +kernel
theorem dL_isCopied_383 : decode cL_isCopied 383 = .ok (.ifCond .eq 31, 3) := by decide +kernel
theorem dL_isCopied_386 : decode cL_isCopied 386 = .ok (.iload 7, 2) := by decide +kernel
theorem dL_isCopied_388 : decode cL_isCopied 388 = .ok (.iconst 4, 1) := by decide +kernel
theorem dL_isCopied_389 : decode cL_isCopied 389 = .ok (.if_icmp .ne 25, 3) := by decide +kernel
theorem dL_isCopied_392 : decode cL_isCopied 392 = .ok (.aload_n 3, 1) := by decide +kernel
theorem dL_isCopied_393 : decode cL_isCopied 393 = .ok (.iload 10, 2) := by decide +kernel
theorem dL_isCopied_395 : decode cL_isCopied 395 = .ok (.iconst 2, 1) := by decide +kernel
theorem dL_isCopied_396 : decode cL_isCopied 396 = .ok (.iadd, 1) := by decide +kernel
theorem dL_isCopied_397 : decode cL_isCopied 397 = .ok (.iload 14, 2) := by decide +kernel
theorem dL_isCopied_399 : decode cL_isCopied 399 = .ok (.iadd, 1) := by decide +kernel
theorem dL_isCopied_400 : decode cL_isCopied 400 = .ok (.aload_n 2, 1) := by decide +kernel
theorem dL_isCopied_401 : decode cL_isCopied 401 = .ok (.iload 11, 2) := by decide +kernel
theorem dL_isCopied_403 : decode cL_isCopied 403 = .ok (.iload 14, 2) := by decide +kernel
theorem dL_isCopied_405 : decode cL_isCopied 405 = .ok (.iadd, 1) := by decide +kernel
theorem dL_isCopied_406 : decode cL_isCopied 406 = .ok (.iaload, 1) := by decide +kernel
theorem dL_isCopied_407 : decode cL_isCopied 407 = .ok (.iastore, 1) := by decide +kernel
theorem dL_isCopied_408 : decode cL_isCopied 408 = .ok (.iinc 14 1, 3) := by decide +kernel
theorem dL_isCopied_411 : decode cL_isCopied 411 = .ok (.goto (-39), 3) := by decide +kernel
theorem dL_isCopied_414 : decode cL_isCopied 414 = .ok (.aload_n 0, 1) := by decide +kernel
theorem dL_isCopied_415 : decode cL_isCopied 415 = .ok (.iload 7, 2) := by decide +kernel
theorem dL_isCopied_417 : decode cL_isCopied 417 = .ok (.iconst 3, 1) := by decide +kernel
theorem dL_isCopied_418 : decode cL_isCopied 418 = .ok (.isub, 1) := by decide +kernel
theorem dL_isCopied_419 : decode cL_isCopied 419 = .ok (.iload 9, 2) := by decide +kernel
theorem dL_isCopied_421 : decode cL_isCopied 421 = .ok (.invokestatic 202, 3) := by decide +kernel
theorem dL_isCopied_424 : decode cL_isCopied 424 = .ok (.iload 12, 2) := by decide +kernel
theorem dL_isCopied_426 : decode cL_isCopied 426 = .ok (.ifCond .eq 8, 3) := by decide +kernel
theorem dL_isCopied_429 : decode cL_isCopied 429 = .ok (.iload 13, 2) := by decide +kernel
theorem dL_isCopied_431 : decode cL_isCopied 431 = .ok (.goto 5, 3) := by decide +kernel
theorem dL_isCopied_434 : decode cL_isCopied 434 = .ok (.bipush (-7), 2) := by decide +kernel
theorem dL_isCopied_436 : decode cL_isCopied 436 = .ok (.if_icmp .ne 7, 3) := by decide +kernel
theorem dL_isCopied_439 : decode cL_isCopied 439 = .ok (.iconst 1, 1) := by decide +kernel
theorem dL_isCopied_440 : decode cL_isCopied 440 = .ok (.goto 4, 3) := by decide +kernel
theorem dL_isCopied_443 : decode cL_isCopied 443 = .ok (.iconst 0, 1) := by decide +kernel
theorem dL_isCopied_444 : decode cL_isCopied 444 = .ok (.ireturn, 1) := by decide +kernel
theorem dL_isCopied_445 : decode cL_isCopied 445 = .ok (.iload 8, 2) := by decide +kernel
theorem dL_isCopied_447 : decode cL_isCopied 447 = .ok (.bipush 6, 2) := by decide +kernel
theorem dL_isCopied_449 : decode cL_isCopied 449 = .ok (.idiv, 1) := by decide +kernel
theorem dL_isCopied_450 : decode cL_isCopied 450 = .ok (.aload 6, 2) := by decide +kernel
theorem dL_isCopied_452 : decode cL_isCopied 452 = .ok (.iconst 0, 1) := by decide +kernel
theorem dL_isCopied_453 : decode cL_isCopied 453 = .ok (.iaload, 1) := by decide +kernel
theorem dL_isCopied_454 : decode cL_isCopied 454 = .ok (.irem, 1) := by decide +kernel
theorem dL_isCopied_455 : decode cL_isCopied 455 = .ok (.istore 13, 2) := by decide +kernel
theorem dL_isCopied_457 : decode cL_isCopied 457 = .ok (.iload 7, 2) := by decide +kernel
theorem dL_isCopied_459 : decode cL_isCopied 459 = .ok (.iconst 5, 1) := by decide +kernel
theorem dL_isCopied_460 : decode cL_isCopied 460 = .ok (.if_icmp .ne 170, 3) := by decide +kernel
theorem dL_isCopied_463 : decode cL_isCopied 463 = .ok (.iload 8, 2) := by decide +kernel
theorem dL_isCopied_465 : decode cL_isCopied 465 = .ok (.bipush 36, 2) := by decide +kernel
theorem dL_isCopied_467 : decode cL_isCopied 467 = .ok (.idiv, 1) := by decide +kernel
theorem dL_isCopied_468 : decode cL_isCopied 468 = .ok (.bipush 10, 2) := by decide +kernel
theorem dL_isCopied_470 : decode cL_isCopied 470 = .ok (.irem, 1) := by decide +kernel
theorem dL_isCopied_471 : decode cL_isCopied 471 = .ok (.istore 14, 2) := by decide +kernel
theorem dL_isCopied_473 : decode cL_isCopied 473 = .ok (.iload 12, 2) := by decide +kernel
theorem dL_isCopied_475 : decode cL_isCopied 475 = .ok (.ifCond .eq 19, 3) := by decide +kernel
theorem dL_isCopied_478 : decode cL_isCopied 478 = .ok (.aload_n 3, 1) := by decide +kernel
theorem dL_isCopied_479 : decode cL_isCopied 479 = .ok (.iload 10, 2) := by decide +kernel
theorem dL_isCopied_481 : decode cL_isCopied 481 = .ok (.iconst 2, 1) := by decide +kernel
theorem dL_isCopied_482 : decode cL_isCopied 482 = .ok (.iadd, 1) := by decide +kernel
theorem dL_isCopied_483 : decode cL_isCopied 483 = .ok (.iload 13, 2) := by decide +kernel
theorem dL_isCopied_485 : decode cL_isCopied 485 = .ok (.iadd, 1) := by decide +kernel
theorem dL_isCopied_486 : decode cL_isCopied 486 = .ok (.iaload, 1) := by decide +kernel
theorem dL_isCopied_487 : decode cL_isCopied 487 = .ok (.ifCond .lt 7, 3) := by decide +kernel
theorem dL_isCopied_490 : decode cL_isCopied 490 = .ok (.iconst 1, 1) := by decide +kernel
theorem dL_isCopied_491 : decode cL_isCopied 491 = .ok (.goto 4, 3) := by decide +kernel
theorem dL_isCopied_494 : decode cL_isCopied 494 = .ok (.iconst 0, 1) := by decide +kernel
theorem dL_isCopied_495 : decode cL_isCopied 495 = .ok (.istore 15, 2) := by decide +kernel
theorem dL_isCopied_497 : decode cL_isCopied 497 = .ok (.iload 15, 2) := by decide +kernel
theorem dL_isCopied_499 : decode cL_isCopied 499 = .ok (.ifCond .eq 19, 3) := by decide +kernel
theorem dL_isCopied_502 : decode cL_isCopied 502 = .ok (.iconst 5, 1) := by decide +kernel
theorem dL_isCopied_503 : decode cL_isCopied 503 = .ok (.aload_n 3, 1) := by decide +kernel
theorem dL_isCopied_504 : decode cL_isCopied 504 = .ok (.iload 10, 2) := by decide +kernel
theorem dL_isCopied_506 : decode cL_isCopied 506 = .ok (.iconst 1, 1) := by decide +kernel
theorem dL_isCopied_507 : decode cL_isCopied 507 = .ok (.iadd, 1) := by decide +kernel
theorem dL_isCopied_508 : decode cL_isCopied 508 = .ok (.iaload, 1) := by decide +kernel
theorem dL_isCopied_509 : decode cL_isCopied 509 = .ok (.imul, 1) := by decide +kernel
theorem dL_isCopied_510 : decode cL_isCopied 510 = .ok (.aload_n 3, 1) := by decide +kernel
theorem dL_isCopied_511 : decode cL_isCopied 511 = .ok (.iload 10, 2) := by decide +kernel
theorem dL_isCopied_513 : decode cL_isCopied 513 = .ok (.iaload, 1) := by decide +kernel
theorem dL_isCopied_514 : decode cL_isCopied 514 = .ok (.iadd, 1) := by decide +kernel
theorem dL_isCopied_515 : decode cL_isCopied 515 = .ok (.goto 4, 3) := by decide +kernel
theorem dL_isCopied_518 : decode cL_isCopied 518 = .ok (.iconst 0, 1) := by decide +kernel
theorem dL_isCopied_519 : decode cL_isCopied 519 = .ok (.istore 16, 2) := by decide +kernel
theorem dL_isCopied_521 : decode cL_isCopied 521 = .ok (.aload 4, 2) := by decide +kernel
theorem dL_isCopied_523 : decode cL_isCopied 523 = .ok (.iload 16, 2) := by decide +kernel
theorem dL_isCopied_525 : decode cL_isCopied 525 = .ok (.laload, 1) := by decide +kernel
theorem dL_isCopied_526 : decode cL_isCopied 526 = .ok (.bipush 10, 2) := by decide +kernel
theorem dL_isCopied_528 : decode cL_isCopied 528 = .ok (.iload 13, 2) := by decide +kernel
theorem dL_isCopied_530 : decode cL_isCopied 530 = .ok (.imul, 1) := by decide +kernel
theorem dL_isCopied_531 : decode cL_isCopied 531 = .ok (.lushr, 1) := by decide +kernel
theorem dL_isCopied_532 : decode cL_isCopied 532 = .ok (.ldc2_w 205, 3) := by decide +kernel
theorem dL_isCopied_535 : decode cL_isCopied 535 = .ok (.land, 1) := by decide +kernel
theorem dL_isCopied_536 : decode cL_isCopied 536 = .ok (.l2i, 1) := by decide +kernel
theorem dL_isCopied_537 : decode cL_isCopied 537 = .ok (.istore 17, 2) := by decide +kernel
theorem dL_isCopied_539 : decode cL_isCopied 539 = .ok (.aload 4, 2) := by decide +kernel
theorem dL_isCopied_541 : decode cL_isCopied 541 = .ok (.iload 16, 2) := by decide +kernel
theorem dL_isCopied_543 : decode cL_isCopied 543 = .ok (.iload 15, 2) := by decide +kernel
theorem dL_isCopied_545 : decode cL_isCopied 545 = .ok (.ifCond .eq 48, 3) := by decide +kernel
theorem dL_isCopied_548 : decode cL_isCopied 548 = .ok (.aload 4, 2) := by decide +kernel
theorem dL_isCopied_550 : decode cL_isCopied 550 = .ok (.iload 16, 2) := by decide +kernel
theorem dL_isCopied_552 : decode cL_isCopied 552 = .ok (.laload, 1) := by decide +kernel
theorem dL_isCopied_553 : decode cL_isCopied 553 = .ok (.ldc2_w 135, 3) := by decide +kernel
theorem dL_isCopied_556 : decode cL_isCopied 556 = .ok (.bipush 10, 2) := by decide +kernel
theorem dL_isCopied_558 : decode cL_isCopied 558 = .ok (.iload 13, 2) := by decide +kernel
theorem dL_isCopied_560 : decode cL_isCopied 560 = .ok (.imul, 1) := by decide +kernel
theorem dL_isCopied_561 : decode cL_isCopied 561 = .ok (.lshl, 1) := by decide +kernel
theorem dL_isCopied_562 : decode cL_isCopied 562 = .ok (.ldc2_w 174, 3) := by decide +kernel
theorem dL_isCopied_565 : decode cL_isCopied 565 = .ok (.lxor, 1) := by decide +kernel
theorem dL_isCopied_566 : decode cL_isCopied 566 = .ok (.land, 1) := by decide +kernel
theorem dL_isCopied_567 : decode cL_isCopied 567 = .ok (.iload 14, 2) := by decide +kernel
theorem dL_isCopied_569 : decode cL_isCopied 569 = .ok (.bipush 16, 2) := by decide +kernel
theorem dL_isCopied_571 : decode cL_isCopied 571 = .ok (.aload_n 3, 1) := by decide +kernel
theorem dL_isCopied_572 : decode cL_isCopied 572 = .ok (.iload 10, 2) := by decide +kernel
theorem dL_isCopied_574 : decode cL_isCopied 574 = .ok (.iconst 2, 1) := by decide +kernel
theorem dL_isCopied_575 : decode cL_isCopied 575 = .ok (.iadd, 1) := by decide +kernel
theorem dL_isCopied_576 : decode cL_isCopied 576 = .ok (.iload 13, 2) := by decide +kernel
theorem dL_isCopied_578 : decode cL_isCopied 578 = .ok (.iadd, 1) := by decide +kernel
theorem dL_isCopied_579 : decode cL_isCopied 579 = .ok (.iaload, 1) := by decide +kernel
theorem dL_isCopied_580 : decode cL_isCopied 580 = .ok (.imul, 1) := by decide +kernel
theorem dL_isCopied_581 : decode cL_isCopied 581 = .ok (.iadd, 1) := by decide +kernel
theorem dL_isCopied_582 : decode cL_isCopied 582 = .ok (.i2l, 1) := by decide +kernel
theorem dL_isCopied_583 : decode cL_isCopied 583 = .ok (.bipush 10, 2) := by decide +kernel
theorem dL_isCopied_585 : decode cL_isCopied 585 = .ok (.iload 13, 2) := by decide +kernel
theorem dL_isCopied_587 : decode cL_isCopied 587 = .ok (.imul, 1) := by decide +kernel
theorem dL_isCopied_588 : decode cL_isCopied 588 = .ok (.lshl, 1) := by decide +kernel
theorem dL_isCopied_589 : decode cL_isCopied 589 = .ok (.lor, 1) := by decide +kernel
theorem dL_isCopied_590 : decode cL_isCopied 590 = .ok (.goto 8, 3) := by decide +kernel
theorem dL_isCopied_593 : decode cL_isCopied 593 = .ok (.aload 4, 2) := by decide +kernel
theorem dL_isCopied_595 : decode cL_isCopied 595 = .ok (.iload 16, 2) := by decide +kernel
theorem dL_isCopied_597 : decode cL_isCopied 597 = .ok (.laload, 1) := by decide +kernel
theorem dL_isCopied_598 : decode cL_isCopied 598 = .ok (.lastore, 1) := by decide +kernel
theorem dL_isCopied_599 : decode cL_isCopied 599 = .ok (.aload_n 0, 1) := by decide +kernel
theorem dL_isCopied_600 : decode cL_isCopied 600 = .ok (.iload 9, 2) := by decide +kernel
theorem dL_isCopied_602 : decode cL_isCopied 602 = .ok (.iload 13, 2) := by decide +kernel
theorem dL_isCopied_604 : decode cL_isCopied 604 = .ok (.iload 14, 2) := by decide +kernel
theorem dL_isCopied_606 : decode cL_isCopied 606 = .ok (.invokestatic 207, 3) := by decide +kernel
theorem dL_isCopied_609 : decode cL_isCopied 609 = .ok (.iload 15, 2) := by decide +kernel
theorem dL_isCopied_611 : decode cL_isCopied 611 = .ok (.ifCond .eq 8, 3) := by decide +kernel
theorem dL_isCopied_614 : decode cL_isCopied 614 = .ok (.iload 17, 2) := by decide +kernel
theorem dL_isCopied_616 : decode cL_isCopied 616 = .ok (.goto 5, 3) := by decide +kernel
theorem dL_isCopied_619 : decode cL_isCopied 619 = .ok (.bipush (-7), 2) := by decide +kernel
theorem dL_isCopied_621 : decode cL_isCopied 621 = .ok (.if_icmp .ne 7, 3) := by decide +kernel
theorem dL_isCopied_624 : decode cL_isCopied 624 = .ok (.iconst 1, 1) := by decide +kernel
theorem dL_isCopied_625 : decode cL_isCopied 625 = .ok (.goto 4, 3) := by decide +kernel
theorem dL_isCopied_628 : decode cL_isCopied 628 = .ok (.iconst 0, 1) := by decide +kernel
theorem dL_isCopied_629 : decode cL_isCopied 629 = .ok (.ireturn, 1) := by decide +kernel
theorem dL_isCopied_630 : decode cL_isCopied 630 = .ok (.iload 7, 2) := by decide +kernel
theorem dL_isCopied_632 : decode cL_isCopied 632 = .ok (.bipush 8, 2) := by decide +kernel
theorem dL_isCopied_634 : decode cL_isCopied 634 = .ok (.if_icmp .ge 219, 3) := by decide +kernel
theorem dL_isCopied_637 : decode cL_isCopied 637 = .ok (.iload 8, 2) := by decide +kernel
theorem dL_isCopied_639 : decode cL_isCopied 639 = .ok (.bipush 36, 2) := by decide +kernel
theorem dL_isCopied_641 : decode cL_isCopied 641 = .ok (.idiv, 1) := by decide +kernel
theorem dL_isCopied_642 : decode cL_isCopied 642 = .ok (.iconst 3, 1) := by decide +kernel
theorem dL_isCopied_643 : decode cL_isCopied 643 = .ok (.irem, 1) := by decide +kernel
theorem dL_isCopied_644 : decode cL_isCopied 644 = .ok (.istore 14, 2) := by decide +kernel
theorem dL_isCopied_646 : decode cL_isCopied 646 = .ok (.iload 11, 2) := by decide +kernel
theorem dL_isCopied_648 : decode cL_isCopied 648 = .ok (.iload 13, 2) := by decide +kernel
theorem dL_isCopied_650 : decode cL_isCopied 650 = .ok (.iadd, 1) := by decide +kernel
theorem dL_isCopied_651 : decode cL_isCopied 651 = .ok (.istore 11, 2) := by decide +kernel
theorem dL_isCopied_653 : decode cL_isCopied 653 = .ok (.aload_n 3, 1) := by decide +kernel
theorem dL_isCopied_654 : decode cL_isCopied 654 = .ok (.iload 10, 2) := by decide +kernel
theorem dL_isCopied_656 : decode cL_isCopied 656 = .ok (.iaload, 1) := by decide +kernel
theorem dL_isCopied_657 : decode cL_isCopied 657 = .ok (.iconst 1, 1) := by decide +kernel
theorem dL_isCopied_658 : decode cL_isCopied 658 = .ok (.if_icmp .gt 20, 3) := by decide +kernel
theorem dL_isCopied_661 : decode cL_isCopied 661 = .ok (.aload_n 3, 1) := by decide +kernel
theorem dL_isCopied_662 : decode cL_isCopied 662 = .ok (.iload 10, 2) := by decide +kernel
theorem dL_isCopied_664 : decode cL_isCopied 664 = .ok (.iconst 1, 1) := by decide +kernel
theorem dL_isCopied_665 : decode cL_isCopied 665 = .ok (.iadd, 1) := by decide +kernel
theorem dL_isCopied_666 : decode cL_isCopied 666 = .ok (.iaload, 1) := by decide +kernel
theorem dL_isCopied_667 : decode cL_isCopied 667 = .ok (.iconst 3, 1) := by decide +kernel
theorem dL_isCopied_668 : decode cL_isCopied 668 = .ok (.if_icmp .gt 10, 3) := by decide +kernel
theorem dL_isCopied_671 : decode cL_isCopied 671 = .ok (.aload_n 1, 1) := by decide +kernel
theorem dL_isCopied_672 : decode cL_isCopied 672 = .ok (.iload 11, 2) := by decide +kernel
theorem dL_isCopied_674 : decode cL_isCopied 674 = .ok (.iaload, 1) := by decide +kernel
theorem dL_isCopied_675 : decode cL_isCopied 675 = .ok (.ifCond .ne 5, 3) := by decide +kernel
theorem dL_isCopied_678 : decode cL_isCopied 678 = .ok (.iconst 1, 1) := by decide +kernel
theorem dL_isCopied_679 : decode cL_isCopied 679 = .ok (.ireturn, 1) := by decide +kernel
theorem dL_isCopied_680 : decode cL_isCopied 680 = .ok (.iload 8, 2) := by decide +kernel
theorem dL_isCopied_682 : decode cL_isCopied 682 = .ok (.bipush 108, 2) := by decide +kernel
theorem dL_isCopied_684 : decode cL_isCopied 684 = .ok (.idiv, 1) := by decide +kernel
theorem dL_isCopied_685 : decode cL_isCopied 685 = .ok (.aload_n 1, 1) := by decide +kernel
theorem dL_isCopied_686 : decode cL_isCopied 686 = .ok (.iload 11, 2) := by decide +kernel
theorem dL_isCopied_688 : decode cL_isCopied 688 = .ok (.iaload, 1) := by decide +kernel
theorem dL_isCopied_689 : decode cL_isCopied 689 = .ok (.irem, 1) := by decide +kernel
theorem dL_isCopied_690 : decode cL_isCopied 690 = .ok (.istore 15, 2) := by decide +kernel
theorem dL_isCopied_692 : decode cL_isCopied 692 = .ok (.iload 12, 2) := by decide +kernel
theorem dL_isCopied_694 : decode cL_isCopied 694 = .ok (.ifCond .eq 19, 3) := by decide +kernel
theorem dL_isCopied_697 : decode cL_isCopied 697 = .ok (.aload_n 2, 1) := by decide +kernel
theorem dL_isCopied_698 : decode cL_isCopied 698 = .ok (.aload_n 3, 1) := by decide +kernel
theorem dL_isCopied_699 : decode cL_isCopied 699 = .ok (.iload 9, 2) := by decide +kernel
theorem dL_isCopied_701 : decode cL_isCopied 701 = .ok (.iload 13, 2) := by decide +kernel
theorem dL_isCopied_703 : decode cL_isCopied 703 = .ok (.invokestatic 110, 3) := by decide +kernel
theorem dL_isCopied_706 : decode cL_isCopied 706 = .ok (.ifCond .ne 7, 3) := by decide +kernel
theorem dL_isCopied_709 : decode cL_isCopied 709 = .ok (.iconst 1, 1) := by decide +kernel
theorem dL_isCopied_710 : decode cL_isCopied 710 = .ok (.goto 4, 3) := by decide +kernel
theorem dL_isCopied_713 : decode cL_isCopied 713 = .ok (.iconst 0, 1) := by decide +kernel
theorem dL_isCopied_714 : decode cL_isCopied 714 = .ok (.istore 16, 2) := by decide +kernel
theorem dL_isCopied_716 : decode cL_isCopied 716 = .ok (.iload 16, 2) := by decide +kernel
theorem dL_isCopied_718 : decode cL_isCopied 718 = .ok (.ifCond .eq 18, 3) := by decide +kernel
theorem dL_isCopied_721 : decode cL_isCopied 721 = .ok (.bipush 12, 2) := by decide +kernel
theorem dL_isCopied_723 : decode cL_isCopied 723 = .ok (.aload_n 3, 1) := by decide +kernel
theorem dL_isCopied_724 : decode cL_isCopied 724 = .ok (.iload 10, 2) := by decide +kernel
theorem dL_isCopied_726 : decode cL_isCopied 726 = .ok (.iconst 1, 1) := by decide +kernel
theorem dL_isCopied_727 : decode cL_isCopied 727 = .ok (.iadd, 1) := by decide +kernel
theorem dL_isCopied_728 : decode cL_isCopied 728 = .ok (.iaload, 1) := by decide +kernel
theorem dL_isCopied_729 : decode cL_isCopied 729 = .ok (.imul, 1) := by decide +kernel
theorem dL_isCopied_730 : decode cL_isCopied 730 = .ok (.iload 11, 2) := by decide +kernel
theorem dL_isCopied_732 : decode cL_isCopied 732 = .ok (.iadd, 1) := by decide +kernel
theorem dL_isCopied_733 : decode cL_isCopied 733 = .ok (.goto 4, 3) := by decide +kernel
theorem dL_isCopied_736 : decode cL_isCopied 736 = .ok (.iconst 0, 1) := by decide +kernel
theorem dL_isCopied_737 : decode cL_isCopied 737 = .ok (.istore 17, 2) := by decide +kernel
theorem dL_isCopied_739 : decode cL_isCopied 739 = .ok (.iload 16, 2) := by decide +kernel
theorem dL_isCopied_741 : decode cL_isCopied 741 = .ok (.ifCond .eq 22, 3) := by decide +kernel
theorem dL_isCopied_744 : decode cL_isCopied 744 = .ok (.aload_n 2, 1) := by decide +kernel
theorem dL_isCopied_745 : decode cL_isCopied 745 = .ok (.aload 5, 2) := by decide +kernel
theorem dL_isCopied_747 : decode cL_isCopied 747 = .ok (.aload_n 3, 1) := by decide +kernel
theorem dL_isCopied_748 : decode cL_isCopied 748 = .ok (.iload 10, 2) := by decide +kernel
theorem dL_isCopied_750 : decode cL_isCopied 750 = .ok (.iconst 1, 1) := by decide +kernel
theorem dL_isCopied_751 : decode cL_isCopied 751 = .ok (.iadd, 1) := by decide +kernel
theorem dL_isCopied_752 : decode cL_isCopied 752 = .ok (.iaload, 1) := by decide +kernel
theorem dL_isCopied_753 : decode cL_isCopied 753 = .ok (.iload 11, 2) := by decide +kernel
theorem dL_isCopied_755 : decode cL_isCopied 755 = .ok (.iload 15, 2) := by decide +kernel
theorem dL_isCopied_757 : decode cL_isCopied 757 = .ok (.invokestatic 140, 3) := by decide +kernel
theorem dL_isCopied_760 : decode cL_isCopied 760 = .ok (.goto 4, 3) := by decide +kernel
theorem dL_isCopied_763 : decode cL_isCopied 763 = .ok (.iconst 0, 1) := by decide +kernel
theorem dL_isCopied_764 : decode cL_isCopied 764 = .ok (.istore 18, 2) := by decide +kernel
theorem dL_isCopied_766 : decode cL_isCopied 766 = .ok (.aload 5, 2) := by decide +kernel
theorem dL_isCopied_768 : decode cL_isCopied 768 = .ok (.iload 17, 2) := by decide +kernel
theorem dL_isCopied_770 : decode cL_isCopied 770 = .ok (.iload 16, 2) := by decide +kernel
theorem dL_isCopied_772 : decode cL_isCopied 772 = .ok (.ifCond .eq 42, 3) := by decide +kernel
theorem dL_isCopied_775 : decode cL_isCopied 775 = .ok (.aload 5, 2) := by decide +kernel
theorem dL_isCopied_777 : decode cL_isCopied 777 = .ok (.iload 17, 2) := by decide +kernel
theorem dL_isCopied_779 : decode cL_isCopied 779 = .ok (.laload, 1) := by decide +kernel
theorem dL_isCopied_780 : decode cL_isCopied 780 = .ok (.ldc2_w 114, 3) := by decide +kernel
theorem dL_isCopied_783 : decode cL_isCopied 783 = .ok (.bipush 8, 2) := by decide +kernel
theorem dL_isCopied_785 : decode cL_isCopied 785 = .ok (.iload 15, 2) := by decide +kernel
theorem dL_isCopied_787 : decode cL_isCopied 787 = .ok (.imul, 1) := by decide +kernel
theorem dL_isCopied_788 : decode cL_isCopied 788 = .ok (.lshl, 1) := by decide +kernel
theorem dL_isCopied_789 : decode cL_isCopied 789 = .ok (.ldc2_w 174, 3) := by decide +kernel
theorem dL_isCopied_792 : decode cL_isCopied 792 = .ok (.lxor, 1) := by decide +kernel
theorem dL_isCopied_793 : decode cL_isCopied 793 = .ok (.land, 1) := by decide +kernel
theorem dL_isCopied_794 : decode cL_isCopied 794 = .ok (.iload 14, 2) := by decide +kernel
theorem dL_isCopied_796 : decode cL_isCopied 796 = .ok (.iconst 4, 1) := by decide +kernel
theorem dL_isCopied_797 : decode cL_isCopied 797 = .ok (.aload_n 2, 1) := by decide +kernel
theorem dL_isCopied_798 : decode cL_isCopied 798 = .ok (.iload 11, 2) := by decide +kernel
theorem dL_isCopied_800 : decode cL_isCopied 800 = .ok (.iaload, 1) := by decide +kernel
theorem dL_isCopied_801 : decode cL_isCopied 801 = .ok (.imul, 1) := by decide +kernel
theorem dL_isCopied_802 : decode cL_isCopied 802 = .ok (.iadd, 1) := by decide +kernel
theorem dL_isCopied_803 : decode cL_isCopied 803 = .ok (.i2l, 1) := by decide +kernel
theorem dL_isCopied_804 : decode cL_isCopied 804 = .ok (.bipush 8, 2) := by decide +kernel
theorem dL_isCopied_806 : decode cL_isCopied 806 = .ok (.iload 15, 2) := by decide +kernel
theorem dL_isCopied_808 : decode cL_isCopied 808 = .ok (.imul, 1) := by decide +kernel
theorem dL_isCopied_809 : decode cL_isCopied 809 = .ok (.lshl, 1) := by decide +kernel
theorem dL_isCopied_810 : decode cL_isCopied 810 = .ok (.lor, 1) := by decide +kernel
theorem dL_isCopied_811 : decode cL_isCopied 811 = .ok (.goto 8, 3) := by decide +kernel
theorem dL_isCopied_814 : decode cL_isCopied 814 = .ok (.aload 5, 2) := by decide +kernel
theorem dL_isCopied_816 : decode cL_isCopied 816 = .ok (.iload 17, 2) := by decide +kernel
theorem dL_isCopied_818 : decode cL_isCopied 818 = .ok (.laload, 1) := by decide +kernel
theorem dL_isCopied_819 : decode cL_isCopied 819 = .ok (.lastore, 1) := by decide +kernel
theorem dL_isCopied_820 : decode cL_isCopied 820 = .ok (.aload_n 0, 1) := by decide +kernel
theorem dL_isCopied_821 : decode cL_isCopied 821 = .ok (.iload 9, 2) := by decide +kernel
theorem dL_isCopied_823 : decode cL_isCopied 823 = .ok (.iload 13, 2) := by decide +kernel
theorem dL_isCopied_825 : decode cL_isCopied 825 = .ok (.iload 15, 2) := by decide +kernel
theorem dL_isCopied_827 : decode cL_isCopied 827 = .ok (.iload 14, 2) := by decide +kernel
theorem dL_isCopied_829 : decode cL_isCopied 829 = .ok (.invokestatic 210, 3) := by decide +kernel
theorem dL_isCopied_832 : decode cL_isCopied 832 = .ok (.iload 16, 2) := by decide +kernel
theorem dL_isCopied_834 : decode cL_isCopied 834 = .ok (.ifCond .eq 8, 3) := by decide +kernel
theorem dL_isCopied_837 : decode cL_isCopied 837 = .ok (.iload 18, 2) := by decide +kernel
theorem dL_isCopied_839 : decode cL_isCopied 839 = .ok (.goto 5, 3) := by decide +kernel
theorem dL_isCopied_842 : decode cL_isCopied 842 = .ok (.bipush (-7), 2) := by decide +kernel
theorem dL_isCopied_844 : decode cL_isCopied 844 = .ok (.if_icmp .ne 7, 3) := by decide +kernel
theorem dL_isCopied_847 : decode cL_isCopied 847 = .ok (.iconst 1, 1) := by decide +kernel
theorem dL_isCopied_848 : decode cL_isCopied 848 = .ok (.goto 4, 3) := by decide +kernel
theorem dL_isCopied_851 : decode cL_isCopied 851 = .ok (.iconst 0, 1) := by decide +kernel
theorem dL_isCopied_852 : decode cL_isCopied 852 = .ok (.ireturn, 1) := by decide +kernel
theorem dL_isCopied_853 : decode cL_isCopied 853 = .ok (.iconst 0, 1) := by decide +kernel
theorem dL_isCopied_854 : decode cL_isCopied 854 = .ok (.istore 14, 2) := by decide +kernel
theorem dL_isCopied_856 : decode cL_isCopied 856 = .ok (.iconst 1, 1) := by decide +kernel
theorem dL_isCopied_857 : decode cL_isCopied 857 = .ok (.istore 15, 2) := by decide +kernel
theorem dL_isCopied_859 : decode cL_isCopied 859 = .ok (.iconst 0, 1) := by decide +kernel
theorem dL_isCopied_860 : decode cL_isCopied 860 = .ok (.istore 16, 2) := by decide +kernel
theorem dL_isCopied_862 : decode cL_isCopied 862 = .ok (.iload 16, 2) := by decide +kernel
theorem dL_isCopied_864 : decode cL_isCopied 864 = .ok (.aload 6, 2) := by decide +kernel
theorem dL_isCopied_866 : decode cL_isCopied 866 = .ok (.iconst 3, 1) := by decide +kernel
theorem dL_isCopied_867 : decode cL_isCopied 867 = .ok (.iaload, 1) := by decide +kernel
theorem dL_isCopied_868 : decode cL_isCopied 868 = .ok (.if_icmp .ge 55, 3) := by decide +kernel
theorem dL_isCopied_871 : decode cL_isCopied 871 = .ok (.iload 14, 2) := by decide +kernel
theorem dL_isCopied_873 : decode cL_isCopied 873 = .ok (.aload_n 3, 1) := by decide +kernel
theorem dL_isCopied_874 : decode cL_isCopied 874 = .ok (.bipush 8, 2) := by decide +kernel
theorem dL_isCopied_876 : decode cL_isCopied 876 = .ok (.iload 16, 2) := by decide +kernel
theorem dL_isCopied_878 : decode cL_isCopied 878 = .ok (.imul, 1) := by decide +kernel
theorem dL_isCopied_879 : decode cL_isCopied 879 = .ok (.iconst 1, 1) := by decide +kernel
theorem dL_isCopied_880 : decode cL_isCopied 880 = .ok (.iadd, 1) := by decide +kernel
theorem dL_isCopied_881 : decode cL_isCopied 881 = .ok (.iaload, 1) := by decide +kernel
theorem dL_isCopied_882 : decode cL_isCopied 882 = .ok (.ifCond .lt 7, 3) := by decide +kernel
theorem dL_isCopied_885 : decode cL_isCopied 885 = .ok (.iconst 1, 1) := by decide +kernel
theorem dL_isCopied_886 : decode cL_isCopied 886 = .ok (.goto 4, 3) := by decide +kernel
theorem dL_isCopied_889 : decode cL_isCopied 889 = .ok (.iconst 0, 1) := by decide +kernel
theorem dL_isCopied_890 : decode cL_isCopied 890 = .ok (.iadd, 1) := by decide +kernel
theorem dL_isCopied_891 : decode cL_isCopied 891 = .ok (.istore 14, 2) := by decide +kernel
theorem dL_isCopied_893 : decode cL_isCopied 893 = .ok (.iload 15, 2) := by decide +kernel
theorem dL_isCopied_895 : decode cL_isCopied 895 = .ok (.ifCond .eq 19, 3) := by decide +kernel
theorem dL_isCopied_898 : decode cL_isCopied 898 = .ok (.aload_n 2, 1) := by decide +kernel
theorem dL_isCopied_899 : decode cL_isCopied 899 = .ok (.aload_n 3, 1) := by decide +kernel
theorem dL_isCopied_900 : decode cL_isCopied 900 = .ok (.aload 6, 2) := by decide +kernel
theorem dL_isCopied_902 : decode cL_isCopied 902 = .ok (.iload 16, 2) := by decide +kernel
theorem dL_isCopied_904 : decode cL_isCopied 904 = .ok (.invokestatic 129, 3) := by decide +kernel
theorem dL_isCopied_907 : decode cL_isCopied 907 = .ok (.ifCond .ne 7, 3) := by decide +kernel
theorem dL_isCopied_910 : decode cL_isCopied 910 = .ok (.iconst 1, 1) := by decide +kernel
theorem dL_isCopied_911 : decode cL_isCopied 911 = .ok (.goto 4, 3) := by decide +kernel
theorem dL_isCopied_914 : decode cL_isCopied 914 = .ok (.iconst 0, 1) := by decide +kernel
theorem dL_isCopied_915 : decode cL_isCopied 915 = .ok (.istore 15, 2) := by decide +kernel
theorem dL_isCopied_917 : decode cL_isCopied 917 = .ok (.iinc 16 1, 3) := by decide +kernel
theorem dL_isCopied_920 : decode cL_isCopied 920 = .ok (.goto (-58), 3) := by decide +kernel
theorem dL_isCopied_923 : decode cL_isCopied 923 = .ok (.aload 6, 2) := by decide +kernel
theorem dL_isCopied_925 : decode cL_isCopied 925 = .ok (.iconst 4, 1) := by decide +kernel
theorem dL_isCopied_926 : decode cL_isCopied 926 = .ok (.dup2, 1) := by decide +kernel
theorem dL_isCopied_927 : decode cL_isCopied 927 = .ok (.iaload, 1) := by decide +kernel
theorem dL_isCopied_928 : decode cL_isCopied 928 = .ok (.iload 14, 2) := by decide +kernel
theorem dL_isCopied_930 : decode cL_isCopied 930 = .ok (.ifCond .le 12, 3) := by decide +kernel
theorem dL_isCopied_933 : decode cL_isCopied 933 = .ok (.iload 15, 2) := by decide +kernel
theorem dL_isCopied_935 : decode cL_isCopied 935 = .ok (.ifCond .eq 7, 3) := by decide +kernel
theorem dL_isCopied_938 : decode cL_isCopied 938 = .ok (.iconst 1, 1) := by decide +kernel
theorem dL_isCopied_939 : decode cL_isCopied 939 = .ok (.goto 4, 3) := by decide +kernel
theorem dL_isCopied_942 : decode cL_isCopied 942 = .ok (.iconst 0, 1) := by decide +kernel
theorem dL_isCopied_943 : decode cL_isCopied 943 = .ok (.iadd, 1) := by decide +kernel
theorem dL_isCopied_944 : decode cL_isCopied 944 = .ok (.iastore, 1) := by decide +kernel
theorem dL_isCopied_945 : decode cL_isCopied 945 = .ok (.aload_n 0, 1) := by decide +kernel
theorem dL_isCopied_946 : decode cL_isCopied 946 = .ok (.invokestatic 213, 3) := by decide +kernel
theorem dL_isCopied_949 : decode cL_isCopied 949 = .ok (.iload 14, 2) := by decide +kernel
theorem dL_isCopied_951 : decode cL_isCopied 951 = .ok (.ifCond .le 13, 3) := by decide +kernel
theorem dL_isCopied_954 : decode cL_isCopied 954 = .ok (.iload 15, 2) := by decide +kernel
theorem dL_isCopied_956 : decode cL_isCopied 956 = .ok (.ifCond .eq 8, 3) := by decide +kernel
theorem dL_isCopied_959 : decode cL_isCopied 959 = .ok (.iload 14, 2) := by decide +kernel
theorem dL_isCopied_961 : decode cL_isCopied 961 = .ok (.goto 5, 3) := by decide +kernel
theorem dL_isCopied_964 : decode cL_isCopied 964 = .ok (.bipush (-7), 2) := by decide +kernel
theorem dL_isCopied_966 : decode cL_isCopied 966 = .ok (.if_icmp .ne 7, 3) := by decide +kernel
theorem dL_isCopied_969 : decode cL_isCopied 969 = .ok (.iconst 1, 1) := by decide +kernel
theorem dL_isCopied_970 : decode cL_isCopied 970 = .ok (.goto 4, 3) := by decide +kernel
theorem dL_isCopied_973 : decode cL_isCopied 973 = .ok (.iconst 0, 1) := by decide +kernel
theorem dL_isCopied_974 : decode cL_isCopied 974 = .ok (.ireturn, 1) := by decide +kernel
theorem dL_holds_0 : decode cL_holds 0 = .ok (.new 64, 3) := by decide +kernel
theorem dL_holds_3 : decode cL_holds 3 = .ok (.dup, 1) := by decide +kernel
theorem dL_holds_4 : decode cL_holds 4 = .ok (.invokespecial 217, 3) := by decide +kernel
theorem dL_holds_7 : decode cL_holds 7 = .ok (.astore_n 1, 1) := by decide +kernel
theorem dL_holds_8 : decode cL_holds 8 = .ok (.bipush 30, 2) := by decide +kernel
theorem dL_holds_10 : decode cL_holds 10 = .ok (.newarray .long, 2) := by decide +kernel
theorem dL_holds_12 : decode cL_holds 12 = .ok (.astore_n 2, 1) := by decide +kernel
theorem dL_holds_13 : decode cL_holds 13 = .ok (.bipush 30, 2) := by decide +kernel
theorem dL_holds_15 : decode cL_holds 15 = .ok (.newarray .int, 2) := by decide +kernel
theorem dL_holds_17 : decode cL_holds 17 = .ok (.astore_n 3, 1) := by decide +kernel
theorem dL_holds_18 : decode cL_holds 18 = .ok (.bipush 30, 2) := by decide +kernel
theorem dL_holds_20 : decode cL_holds 20 = .ok (.newarray .int, 2) := by decide +kernel
theorem dL_holds_22 : decode cL_holds 22 = .ok (.astore 4, 2) := by decide +kernel
theorem dL_holds_24 : decode cL_holds 24 = .ok (.bipush 6, 2) := by decide +kernel
theorem dL_holds_26 : decode cL_holds 26 = .ok (.newarray .int, 2) := by decide +kernel
theorem dL_holds_28 : decode cL_holds 28 = .ok (.astore 5, 2) := by decide +kernel
theorem dL_holds_30 : decode cL_holds 30 = .ok (.bipush 48, 2) := by decide +kernel
theorem dL_holds_32 : decode cL_holds 32 = .ok (.newarray .int, 2) := by decide +kernel
theorem dL_holds_34 : decode cL_holds 34 = .ok (.astore 6, 2) := by decide +kernel
theorem dL_holds_36 : decode cL_holds 36 = .ok (.bipush 30, 2) := by decide +kernel
theorem dL_holds_38 : decode cL_holds 38 = .ok (.newarray .long, 2) := by decide +kernel
theorem dL_holds_40 : decode cL_holds 40 = .ok (.astore 7, 2) := by decide +kernel
theorem dL_holds_42 : decode cL_holds 42 = .ok (.bipush 48, 2) := by decide +kernel
theorem dL_holds_44 : decode cL_holds 44 = .ok (.newarray .long, 2) := by decide +kernel
theorem dL_holds_46 : decode cL_holds 46 = .ok (.astore 8, 2) := by decide +kernel
theorem dL_holds_48 : decode cL_holds 48 = .ok (.iconst 5, 1) := by decide +kernel
theorem dL_holds_49 : decode cL_holds 49 = .ok (.newarray .int, 2) := by decide +kernel
theorem dL_holds_51 : decode cL_holds 51 = .ok (.astore 9, 2) := by decide +kernel
theorem dL_holds_53 : decode cL_holds 53 = .ok (.iconst 0, 1) := by decide +kernel
theorem dL_holds_54 : decode cL_holds 54 = .ok (.istore 10, 2) := by decide +kernel
theorem dL_holds_56 : decode cL_holds 56 = .ok (.iconst 1, 1) := by decide +kernel
theorem dL_holds_57 : decode cL_holds 57 = .ok (.istore 11, 2) := by decide +kernel
theorem dL_holds_59 : decode cL_holds 59 = .ok (.aload 9, 2) := by decide +kernel
theorem dL_holds_61 : decode cL_holds 61 = .ok (.iconst 1, 1) := by decide +kernel
theorem dL_holds_62 : decode cL_holds 62 = .ok (.sipush 200, 3) := by decide +kernel
theorem dL_holds_65 : decode cL_holds 65 = .ok (.iastore, 1) := by decide +kernel
theorem dL_holds_66 : decode cL_holds 66 = .ok (.aload 9, 2) := by decide +kernel
theorem dL_holds_68 : decode cL_holds 68 = .ok (.iconst 2, 1) := by decide +kernel
theorem dL_holds_69 : decode cL_holds 69 = .ok (.iconst 3, 1) := by decide +kernel
theorem dL_holds_70 : decode cL_holds 70 = .ok (.iastore, 1) := by decide +kernel
theorem dL_holds_71 : decode cL_holds 71 = .ok (.iconst 0, 1) := by decide +kernel
theorem dL_holds_72 : decode cL_holds 72 = .ok (.istore 12, 2) := by decide +kernel
theorem dL_holds_74 : decode cL_holds 74 = .ok (.iload 12, 2) := by decide +kernel
theorem dL_holds_76 : decode cL_holds 76 = .ok (.bipush 120, 2) := by decide +kernel
theorem dL_holds_78 : decode cL_holds 78 = .ok (.if_icmp .ge 442, 3) := by decide +kernel
theorem dL_holds_81 : decode cL_holds 81 = .ok (.iload 11, 2) := by decide +kernel
theorem dL_holds_83 : decode cL_holds 83 = .ok (.ifCond .eq 437, 3) := by decide +kernel
theorem dL_holds_86 : decode cL_holds 86 = .ok (.aload_n 0, 1) := by decide +kernel
theorem dL_holds_87 : decode cL_holds 87 = .ok (.iconst 2, 1) := by decide +kernel
theorem dL_holds_88 : decode cL_holds 88 = .ok (.iload 12, 2) := by decide +kernel
theorem dL_holds_90 : decode cL_holds 90 = .ok (.imul, 1) := by decide +kernel
theorem dL_holds_91 : decode cL_holds 91 = .ok (.iconst 1, 1) := by decide +kernel
theorem dL_holds_92 : decode cL_holds 92 = .ok (.iadd, 1) := by decide +kernel
theorem dL_holds_93 : decode cL_holds 93 = .ok (.ldc 218, 2) := by decide +kernel
theorem dL_holds_95 : decode cL_holds 95 = .ok (.invokestatic 219, 3) := by decide +kernel
theorem dL_holds_98 : decode cL_holds 98 = .ok (.istore 13, 2) := by decide +kernel
theorem dL_holds_100 : decode cL_holds 100 = .ok (.iload 12, 2) := by decide +kernel
theorem dL_holds_102 : decode cL_holds 102 = .ok (.iconst 3, 1) := by decide +kernel
theorem dL_holds_103 : decode cL_holds 103 = .ok (.if_icmp .ge 7, 3) := by decide +kernel
theorem dL_holds_106 : decode cL_holds 106 = .ok (.iconst 0, 1) := by decide +kernel
theorem dL_holds_107 : decode cL_holds 107 = .ok (.goto 13, 3) := by decide +kernel
theorem dL_holds_110 : decode cL_holds 110 = .ok (.aload_n 0, 1) := by decide +kernel
theorem dL_holds_111 : decode cL_holds 111 = .ok (.iconst 2, 1) := by decide +kernel
theorem dL_holds_112 : decode cL_holds 112 = .ok (.iload 12, 2) := by decide +kernel
theorem dL_holds_114 : decode cL_holds 114 = .ok (.imul, 1) := by decide +kernel
theorem dL_holds_115 : decode cL_holds 115 = .ok (.bipush 30, 2) := by decide +kernel
theorem dL_holds_117 : decode cL_holds 117 = .ok (.invokestatic 219, 3) := by decide +kernel
theorem dL_holds_120 : decode cL_holds 120 = .ok (.istore 14, 2) := by decide +kernel
theorem dL_holds_122 : decode cL_holds 122 = .ok (.iload 14, 2) := by decide +kernel
theorem dL_holds_124 : decode cL_holds 124 = .ok (.ifCond .ne 127, 3) := by decide +kernel
theorem dL_holds_127 : decode cL_holds 127 = .ok (.aload 9, 2) := by decide +kernel
theorem dL_holds_129 : decode cL_holds 129 = .ok (.iconst 0, 1) := by decide +kernel
theorem dL_holds_130 : decode cL_holds 130 = .ok (.iaload, 1) := by decide +kernel
theorem dL_holds_131 : decode cL_holds 131 = .ok (.bipush 6, 2) := by decide +kernel
theorem dL_holds_133 : decode cL_holds 133 = .ok (.if_icmp .ge 118, 3) := by decide +kernel
theorem dL_holds_136 : decode cL_holds 136 = .ok (.aload 5, 2) := by decide +kernel
theorem dL_holds_138 : decode cL_holds 138 = .ok (.aload 9, 2) := by decide +kernel
theorem dL_holds_140 : decode cL_holds 140 = .ok (.iconst 0, 1) := by decide +kernel
theorem dL_holds_141 : decode cL_holds 141 = .ok (.iaload, 1) := by decide +kernel
theorem dL_holds_142 : decode cL_holds 142 = .ok (.iconst 1, 1) := by decide +kernel
theorem dL_holds_143 : decode cL_holds 143 = .ok (.iload 13, 2) := by decide +kernel
theorem dL_holds_145 : decode cL_holds 145 = .ok (.iload 13, 2) := by decide +kernel
theorem dL_holds_147 : decode cL_holds 147 = .ok (.iconst 5, 1) := by decide +kernel
theorem dL_holds_148 : decode cL_holds 148 = .ok (.irem, 1) := by decide +kernel
theorem dL_holds_149 : decode cL_holds 149 = .ok (.ifCond .ne 8, 3) := by decide +kernel
theorem dL_holds_152 : decode cL_holds 152 = .ok (.bipush 16, 2) := by decide +kernel
theorem dL_holds_154 : decode cL_holds 154 = .ok (.goto 5, 3) := by decide +kernel
theorem dL_holds_157 : decode cL_holds 157 = .ok (.bipush 8, 2) := by decide +kernel
theorem dL_holds_159 : decode cL_holds 159 = .ok (.irem, 1) := by decide +kernel
theorem dL_holds_160 : decode cL_holds 160 = .ok (.iadd, 1) := by decide +kernel
theorem dL_holds_161 : decode cL_holds 161 = .ok (.iastore, 1) := by decide +kernel
theorem dL_holds_162 : decode cL_holds 162 = .ok (.iload 10, 2) := by decide +kernel
theorem dL_holds_164 : decode cL_holds 164 = .ok (.aload 5, 2) := by decide +kernel
theorem dL_holds_166 : decode cL_holds 166 = .ok (.aload 9, 2) := by decide +kernel
theorem dL_holds_168 : decode cL_holds 168 = .ok (.iconst 0, 1) := by decide +kernel
theorem dL_holds_169 : decode cL_holds 169 = .ok (.iaload, 1) := by decide +kernel
theorem dL_holds_170 : decode cL_holds 170 = .ok (.iaload, 1) := by decide +kernel
theorem dL_holds_171 : decode cL_holds 171 = .ok (.iadd, 1) := by decide +kernel
theorem dL_holds_172 : decode cL_holds 172 = .ok (.istore 10, 2) := by decide +kernel
theorem dL_holds_174 : decode cL_holds 174 = .ok (.aload 9, 2) := by decide +kernel
theorem dL_holds_176 : decode cL_holds 176 = .ok (.iconst 0, 1) := by decide +kernel
theorem dL_holds_177 : decode cL_holds 177 = .ok (.dup2, 1) := by decide +kernel
theorem dL_holds_178 : decode cL_holds 178 = .ok (.iaload, 1) := by decide +kernel
theorem dL_holds_179 : decode cL_holds 179 = .ok (.iconst 1, 1) := by decide +kernel
theorem dL_holds_180 : decode cL_holds 180 = .ok (.iadd, 1) := by decide +kernel
theorem dL_holds_181 : decode cL_holds 181 = .ok (.iastore, 1) := by decide +kernel
theorem dL_holds_182 : decode cL_holds 182 = .ok (.aload_n 1, 1) := by decide +kernel
theorem dL_holds_183 : decode cL_holds 183 = .ok (.aload 5, 2) := by decide +kernel
theorem dL_holds_185 : decode cL_holds 185 = .ok (.aload 9, 2) := by decide +kernel
theorem dL_holds_187 : decode cL_holds 187 = .ok (.iconst 0, 1) := by decide +kernel
theorem dL_holds_188 : decode cL_holds 188 = .ok (.iaload, 1) := by decide +kernel
theorem dL_holds_189 : decode cL_holds 189 = .ok (.iconst 1, 1) := by decide +kernel
theorem dL_holds_190 : decode cL_holds 190 = .ok (.isub, 1) := by decide +kernel
theorem dL_holds_191 : decode cL_holds 191 = .ok (.iaload, 1) := by decide +kernel
theorem dL_holds_192 : decode cL_holds 192 = .ok (.invokevirtual 223, 3) := by decide +kernel
theorem dL_holds_195 : decode cL_holds 195 = .ok (.aload 9, 2) := by decide +kernel
theorem dL_holds_197 : decode cL_holds 197 = .ok (.iconst 0, 1) := by decide +kernel
theorem dL_holds_198 : decode cL_holds 198 = .ok (.iaload, 1) := by decide +kernel
theorem dL_holds_199 : decode cL_holds 199 = .ok (.iconst 1, 1) := by decide +kernel
theorem dL_holds_200 : decode cL_holds 200 = .ok (.isub, 1) := by decide +kernel
theorem dL_holds_201 : decode cL_holds 201 = .ok (.if_icmp .ne 44, 3) := by decide +kernel
theorem dL_holds_204 : decode cL_holds 204 = .ok (.aload_n 1, 1) := by decide +kernel
theorem dL_holds_205 : decode cL_holds 205 = .ok (.aload 9, 2) := by decide +kernel
theorem dL_holds_207 : decode cL_holds 207 = .ok (.iconst 0, 1) := by decide +kernel
theorem dL_holds_208 : decode cL_holds 208 = .ok (.iaload, 1) := by decide +kernel
theorem dL_holds_209 : decode cL_holds 209 = .ok (.invokevirtual 226, 3) := by decide +kernel
theorem dL_holds_212 : decode cL_holds 212 = .ok (.iload 10, 2) := by decide +kernel
theorem dL_holds_214 : decode cL_holds 214 = .ok (.if_icmp .ne 31, 3) := by decide +kernel
theorem dL_holds_217 : decode cL_holds 217 = .ok (.aload_n 1, 1) := by decide +kernel
theorem dL_holds_218 : decode cL_holds 218 = .ok (.aload 9, 2) := by decide +kernel
theorem dL_holds_220 : decode cL_holds 220 = .ok (.iconst 0, 1) := by decide +kernel
theorem dL_holds_221 : decode cL_holds 221 = .ok (.iaload, 1) := by decide +kernel
theorem dL_holds_222 : decode cL_holds 222 = .ok (.invokevirtual 229, 3) := by decide +kernel
theorem dL_holds_225 : decode cL_holds 225 = .ok (.iload 10, 2) := by decide +kernel
theorem dL_holds_227 : decode cL_holds 227 = .ok (.if_icmp .ne 18, 3) := by decide +kernel
theorem dL_holds_230 : decode cL_holds 230 = .ok (.aload_n 1, 1) := by decide +kernel
theorem dL_holds_231 : decode cL_holds 231 = .ok (.invokevirtual 232, 3) := by decide +kernel
theorem dL_holds_234 : decode cL_holds 234 = .ok (.aload 9, 2) := by decide +kernel
theorem dL_holds_236 : decode cL_holds 236 = .ok (.iconst 0, 1) := by decide +kernel
theorem dL_holds_237 : decode cL_holds 237 = .ok (.iaload, 1) := by decide +kernel
theorem dL_holds_238 : decode cL_holds 238 = .ok (.if_icmp .ne 7, 3) := by decide +kernel
theorem dL_holds_241 : decode cL_holds 241 = .ok (.iconst 1, 1) := by decide +kernel
theorem dL_holds_242 : decode cL_holds 242 = .ok (.goto 4, 3) := by decide +kernel
theorem dL_holds_245 : decode cL_holds 245 = .ok (.iconst 0, 1) := by decide +kernel
theorem dL_holds_246 : decode cL_holds 246 = .ok (.istore 11, 2) := by decide +kernel
theorem dL_holds_248 : decode cL_holds 248 = .ok (.goto 194, 3) := by decide +kernel
theorem dL_holds_251 : decode cL_holds 251 = .ok (.iload 14, 2) := by decide +kernel
theorem dL_holds_253 : decode cL_holds 253 = .ok (.iconst 1, 1) := by decide +kernel
theorem dL_holds_254 : decode cL_holds 254 = .ok (.if_icmp .ne 75, 3) := by decide +kernel
theorem dL_holds_257 : decode cL_holds 257 = .ok (.aload 9, 2) := by decide +kernel
theorem dL_holds_259 : decode cL_holds 259 = .ok (.iconst 1, 1) := by decide +kernel
theorem dL_holds_260 : decode cL_holds 260 = .ok (.iaload, 1) := by decide +kernel
theorem dL_holds_261 : decode cL_holds 261 = .ok (.istore 15, 2) := by decide +kernel
theorem dL_holds_263 : decode cL_holds 263 = .ok (.aload 9, 2) := by decide +kernel
theorem dL_holds_265 : decode cL_holds 265 = .ok (.iconst 1, 1) := by decide +kernel
theorem dL_holds_266 : decode cL_holds 266 = .ok (.bipush 80, 2) := by decide +kernel
theorem dL_holds_268 : decode cL_holds 268 = .ok (.iload 13, 2) := by decide +kernel
theorem dL_holds_270 : decode cL_holds 270 = .ok (.iload 13, 2) := by decide +kernel
theorem dL_holds_272 : decode cL_holds 272 = .ok (.iconst 2, 1) := by decide +kernel
theorem dL_holds_273 : decode cL_holds 273 = .ok (.irem, 1) := by decide +kernel
theorem dL_holds_274 : decode cL_holds 274 = .ok (.ifCond .ne 8, 3) := by decide +kernel
theorem dL_holds_277 : decode cL_holds 277 = .ok (.bipush 60, 2) := by decide +kernel
theorem dL_holds_279 : decode cL_holds 279 = .ok (.goto 6, 3) := by decide +kernel
theorem dL_holds_282 : decode cL_holds 282 = .ok (.sipush 421, 3) := by decide +kernel
theorem dL_holds_285 : decode cL_holds 285 = .ok (.irem, 1) := by decide +kernel
theorem dL_holds_286 : decode cL_holds 286 = .ok (.iadd, 1) := by decide +kernel
theorem dL_holds_287 : decode cL_holds 287 = .ok (.iastore, 1) := by decide +kernel
theorem dL_holds_288 : decode cL_holds 288 = .ok (.aload 9, 2) := by decide +kernel
theorem dL_holds_290 : decode cL_holds 290 = .ok (.iconst 2, 1) := by decide +kernel
theorem dL_holds_291 : decode cL_holds 291 = .ok (.iconst 1, 1) := by decide +kernel
theorem dL_holds_292 : decode cL_holds 292 = .ok (.iload 13, 2) := by decide +kernel
theorem dL_holds_294 : decode cL_holds 294 = .ok (.sipush 500, 3) := by decide +kernel
theorem dL_holds_297 : decode cL_holds 297 = .ok (.idiv, 1) := by decide +kernel
theorem dL_holds_298 : decode cL_holds 298 = .ok (.iconst 3, 1) := by decide +kernel
theorem dL_holds_299 : decode cL_holds 299 = .ok (.irem, 1) := by decide +kernel
theorem dL_holds_300 : decode cL_holds 300 = .ok (.iadd, 1) := by decide +kernel
theorem dL_holds_301 : decode cL_holds 301 = .ok (.iastore, 1) := by decide +kernel
theorem dL_holds_302 : decode cL_holds 302 = .ok (.aload_n 1, 1) := by decide +kernel
theorem dL_holds_303 : decode cL_holds 303 = .ok (.aload 9, 2) := by decide +kernel
theorem dL_holds_305 : decode cL_holds 305 = .ok (.iconst 1, 1) := by decide +kernel
theorem dL_holds_306 : decode cL_holds 306 = .ok (.iaload, 1) := by decide +kernel
theorem dL_holds_307 : decode cL_holds 307 = .ok (.aload 9, 2) := by decide +kernel
theorem dL_holds_309 : decode cL_holds 309 = .ok (.iconst 2, 1) := by decide +kernel
theorem dL_holds_310 : decode cL_holds 310 = .ok (.iaload, 1) := by decide +kernel
theorem dL_holds_311 : decode cL_holds 311 = .ok (.invokevirtual 235, 3) := by decide +kernel
theorem dL_holds_314 : decode cL_holds 314 = .ok (.iload 15, 2) := by decide +kernel
theorem dL_holds_316 : decode cL_holds 316 = .ok (.if_icmp .ne 7, 3) := by decide +kernel
theorem dL_holds_319 : decode cL_holds 319 = .ok (.iconst 1, 1) := by decide +kernel
theorem dL_holds_320 : decode cL_holds 320 = .ok (.goto 4, 3) := by decide +kernel
theorem dL_holds_323 : decode cL_holds 323 = .ok (.iconst 0, 1) := by decide +kernel
theorem dL_holds_324 : decode cL_holds 324 = .ok (.istore 11, 2) := by decide +kernel
theorem dL_holds_326 : decode cL_holds 326 = .ok (.goto 116, 3) := by decide +kernel
theorem dL_holds_329 : decode cL_holds 329 = .ok (.iload 14, 2) := by decide +kernel
theorem dL_holds_331 : decode cL_holds 331 = .ok (.bipush 16, 2) := by decide +kernel
theorem dL_holds_333 : decode cL_holds 333 = .ok (.if_icmp .ge 47, 3) := by decide +kernel
theorem dL_holds_336 : decode cL_holds 336 = .ok (.aload_n 1, 1) := by decide +kernel
theorem dL_holds_337 : decode cL_holds 337 = .ok (.aload_n 2, 1) := by decide +kernel
theorem dL_holds_338 : decode cL_holds 338 = .ok (.aload_n 3, 1) := by decide +kernel
theorem dL_holds_339 : decode cL_holds 339 = .ok (.aload 4, 2) := by decide +kernel
theorem dL_holds_341 : decode cL_holds 341 = .ok (.aload 5, 2) := by decide +kernel
theorem dL_holds_343 : decode cL_holds 343 = .ok (.aload 9, 2) := by decide +kernel
theorem dL_holds_345 : decode cL_holds 345 = .ok (.iload 14, 2) := by decide +kernel
theorem dL_holds_347 : decode cL_holds 347 = .ok (.bipush 12, 2) := by decide +kernel
theorem dL_holds_349 : decode cL_holds 349 = .ok (.if_icmp .ge 7, 3) := by decide +kernel
theorem dL_holds_352 : decode cL_holds 352 = .ok (.iconst 0, 1) := by decide +kernel
theorem dL_holds_353 : decode cL_holds 353 = .ok (.goto 17, 3) := by decide +kernel
theorem dL_holds_356 : decode cL_holds 356 = .ok (.iload 14, 2) := by decide +kernel
theorem dL_holds_358 : decode cL_holds 358 = .ok (.bipush 13, 2) := by decide +kernel
theorem dL_holds_360 : decode cL_holds 360 = .ok (.if_icmp .ge 8, 3) := by decide +kernel
theorem dL_holds_363 : decode cL_holds 363 = .ok (.bipush 8, 2) := by decide +kernel
theorem dL_holds_365 : decode cL_holds 365 = .ok (.goto 5, 3) := by decide +kernel
theorem dL_holds_368 : decode cL_holds 368 = .ok (.bipush 9, 2) := by decide +kernel
theorem dL_holds_370 : decode cL_holds 370 = .ok (.iload 13, 2) := by decide +kernel
theorem dL_holds_372 : decode cL_holds 372 = .ok (.invokestatic 238, 3) := by decide +kernel
theorem dL_holds_375 : decode cL_holds 375 = .ok (.istore 11, 2) := by decide +kernel
theorem dL_holds_377 : decode cL_holds 377 = .ok (.goto 65, 3) := by decide +kernel
theorem dL_holds_380 : decode cL_holds 380 = .ok (.aload_n 1, 1) := by decide +kernel
theorem dL_holds_381 : decode cL_holds 381 = .ok (.aload_n 3, 1) := by decide +kernel
theorem dL_holds_382 : decode cL_holds 382 = .ok (.aload 4, 2) := by decide +kernel
theorem dL_holds_384 : decode cL_holds 384 = .ok (.aload 6, 2) := by decide +kernel
theorem dL_holds_386 : decode cL_holds 386 = .ok (.aload 7, 2) := by decide +kernel
theorem dL_holds_388 : decode cL_holds 388 = .ok (.aload 8, 2) := by decide +kernel
theorem dL_holds_390 : decode cL_holds 390 = .ok (.aload 9, 2) := by decide +kernel
theorem dL_holds_392 : decode cL_holds 392 = .ok (.iload 14, 2) := by decide +kernel
theorem dL_holds_394 : decode cL_holds 394 = .ok (.bipush 18, 2) := by decide +kernel
theorem dL_holds_396 : decode cL_holds 396 = .ok (.if_icmp .ge 7, 3) := by decide +kernel
theorem dL_holds_399 : decode cL_holds 399 = .ok (.iconst 0, 1) := by decide +kernel
theorem dL_holds_400 : decode cL_holds 400 = .ok (.goto 35, 3) := by decide +kernel
theorem dL_holds_403 : decode cL_holds 403 = .ok (.iload 14, 2) := by decide +kernel
theorem dL_holds_405 : decode cL_holds 405 = .ok (.bipush 17, 2) := by decide +kernel
theorem dL_holds_407 : decode cL_holds 407 = .ok (.isub, 1) := by decide +kernel
theorem dL_holds_408 : decode cL_holds 408 = .ok (.bipush 7, 2) := by decide +kernel
theorem dL_holds_410 : decode cL_holds 410 = .ok (.if_icmp .le 20, 3) := by decide +kernel
theorem dL_holds_413 : decode cL_holds 413 = .ok (.iload 14, 2) := by decide +kernel
theorem dL_holds_415 : decode cL_holds 415 = .ok (.iconst 2, 1) := by decide +kernel
theorem dL_holds_416 : decode cL_holds 416 = .ok (.irem, 1) := by decide +kernel
theorem dL_holds_417 : decode cL_holds 417 = .ok (.ifCond .ne 8, 3) := by decide +kernel
theorem dL_holds_420 : decode cL_holds 420 = .ok (.bipush 8, 2) := by decide +kernel
theorem dL_holds_422 : decode cL_holds 422 = .ok (.goto 13, 3) := by decide +kernel
theorem dL_holds_425 : decode cL_holds 425 = .ok (.bipush 6, 2) := by decide +kernel
theorem dL_holds_427 : decode cL_holds 427 = .ok (.goto 8, 3) := by decide +kernel
theorem dL_holds_430 : decode cL_holds 430 = .ok (.iload 14, 2) := by decide +kernel
theorem dL_holds_432 : decode cL_holds 432 = .ok (.bipush 17, 2) := by decide +kernel
theorem dL_holds_434 : decode cL_holds 434 = .ok (.isub, 1) := by decide +kernel
theorem dL_holds_435 : decode cL_holds 435 = .ok (.iload 13, 2) := by decide +kernel
theorem dL_holds_437 : decode cL_holds 437 = .ok (.invokestatic 242, 3) := by decide +kernel
theorem dL_holds_440 : decode cL_holds 440 = .ok (.istore 11, 2) := by decide +kernel
theorem dL_holds_442 : decode cL_holds 442 = .ok (.iload 11, 2) := by decide +kernel
theorem dL_holds_444 : decode cL_holds 444 = .ok (.ifCond .eq 67, 3) := by decide +kernel
theorem dL_holds_447 : decode cL_holds 447 = .ok (.iload 12, 2) := by decide +kernel
theorem dL_holds_449 : decode cL_holds 449 = .ok (.iconst 4, 1) := by decide +kernel
theorem dL_holds_450 : decode cL_holds 450 = .ok (.irem, 1) := by decide +kernel
theorem dL_holds_451 : decode cL_holds 451 = .ok (.iconst 3, 1) := by decide +kernel
theorem dL_holds_452 : decode cL_holds 452 = .ok (.if_icmp .lt 23, 3) := by decide +kernel
theorem dL_holds_455 : decode cL_holds 455 = .ok (.aload_n 1, 1) := by decide +kernel
theorem dL_holds_456 : decode cL_holds 456 = .ok (.aload_n 3, 1) := by decide +kernel
theorem dL_holds_457 : decode cL_holds 457 = .ok (.aload 4, 2) := by decide +kernel
theorem dL_holds_459 : decode cL_holds 459 = .ok (.aload 6, 2) := by decide +kernel
theorem dL_holds_461 : decode cL_holds 461 = .ok (.aload 7, 2) := by decide +kernel
theorem dL_holds_463 : decode cL_holds 463 = .ok (.aload 8, 2) := by decide +kernel
theorem dL_holds_465 : decode cL_holds 465 = .ok (.aload 9, 2) := by decide +kernel
theorem dL_holds_467 : decode cL_holds 467 = .ok (.iload 13, 2) := by decide +kernel
theorem dL_holds_469 : decode cL_holds 469 = .ok (.invokestatic 246, 3) := by decide +kernel
theorem dL_holds_472 : decode cL_holds 472 = .ok (.ifCond .eq 39, 3) := by decide +kernel
theorem dL_holds_475 : decode cL_holds 475 = .ok (.iload 12, 2) := by decide +kernel
theorem dL_holds_477 : decode cL_holds 477 = .ok (.bipush 6, 2) := by decide +kernel
theorem dL_holds_479 : decode cL_holds 479 = .ok (.irem, 1) := by decide +kernel
theorem dL_holds_480 : decode cL_holds 480 = .ok (.iconst 5, 1) := by decide +kernel
theorem dL_holds_481 : decode cL_holds 481 = .ok (.if_icmp .lt 26, 3) := by decide +kernel
theorem dL_holds_484 : decode cL_holds 484 = .ok (.aload_n 1, 1) := by decide +kernel
theorem dL_holds_485 : decode cL_holds 485 = .ok (.aload_n 2, 1) := by decide +kernel
theorem dL_holds_486 : decode cL_holds 486 = .ok (.aload_n 3, 1) := by decide +kernel
theorem dL_holds_487 : decode cL_holds 487 = .ok (.aload 5, 2) := by decide +kernel
theorem dL_holds_489 : decode cL_holds 489 = .ok (.aload 9, 2) := by decide +kernel
theorem dL_holds_491 : decode cL_holds 491 = .ok (.iload 13, 2) := by decide +kernel
theorem dL_holds_493 : decode cL_holds 493 = .ok (.bipush 7, 2) := by decide +kernel
theorem dL_holds_495 : decode cL_holds 495 = .ok (.idiv, 1) := by decide +kernel
theorem dL_holds_496 : decode cL_holds 496 = .ok (.bipush 6, 2) := by decide +kernel
theorem dL_holds_498 : decode cL_holds 498 = .ok (.irem, 1) := by decide +kernel
theorem dL_holds_499 : decode cL_holds 499 = .ok (.iload 13, 2) := by decide +kernel
theorem dL_holds_501 : decode cL_holds 501 = .ok (.invokestatic 250, 3) := by decide +kernel
theorem dL_holds_504 : decode cL_holds 504 = .ok (.ifCond .eq 7, 3) := by decide +kernel
theorem dL_holds_507 : decode cL_holds 507 = .ok (.iconst 1, 1) := by decide +kernel
theorem dL_holds_508 : decode cL_holds 508 = .ok (.goto 4, 3) := by decide +kernel
theorem dL_holds_511 : decode cL_holds 511 = .ok (.iconst 0, 1) := by decide +kernel
theorem dL_holds_512 : decode cL_holds 512 = .ok (.istore 11, 2) := by decide +kernel
theorem dL_holds_514 : decode cL_holds 514 = .ok (.iinc 12 1, 3) := by decide +kernel
theorem dL_holds_517 : decode cL_holds 517 = .ok (.goto (-443), 3) := by decide +kernel
theorem dL_holds_520 : decode cL_holds 520 = .ok (.iconst 0, 1) := by decide +kernel
theorem dL_holds_521 : decode cL_holds 521 = .ok (.istore 12, 2) := by decide +kernel
theorem dL_holds_523 : decode cL_holds 523 = .ok (.iload 12, 2) := by decide +kernel
theorem dL_holds_525 : decode cL_holds 525 = .ok (.bipush 6, 2) := by decide +kernel
theorem dL_holds_527 : decode cL_holds 527 = .ok (.if_icmp .ge 30, 3) := by decide +kernel
theorem dL_holds_530 : decode cL_holds 530 = .ok (.iload 11, 2) := by decide +kernel
theorem dL_holds_532 : decode cL_holds 532 = .ok (.ifCond .eq 25, 3) := by decide +kernel
theorem dL_holds_535 : decode cL_holds 535 = .ok (.aload_n 1, 1) := by decide +kernel
theorem dL_holds_536 : decode cL_holds 536 = .ok (.aload_n 2, 1) := by decide +kernel
theorem dL_holds_537 : decode cL_holds 537 = .ok (.aload_n 3, 1) := by decide +kernel
theorem dL_holds_538 : decode cL_holds 538 = .ok (.aload 5, 2) := by decide +kernel
theorem dL_holds_540 : decode cL_holds 540 = .ok (.aload 9, 2) := by decide +kernel
theorem dL_holds_542 : decode cL_holds 542 = .ok (.iload 12, 2) := by decide +kernel
theorem dL_holds_544 : decode cL_holds 544 = .ok (.iload 12, 2) := by decide +kernel
theorem dL_holds_546 : decode cL_holds 546 = .ok (.invokestatic 250, 3) := by decide +kernel
theorem dL_holds_549 : decode cL_holds 549 = .ok (.istore 11, 2) := by decide +kernel
theorem dL_holds_551 : decode cL_holds 551 = .ok (.iinc 12 1, 3) := by decide +kernel
theorem dL_holds_554 : decode cL_holds 554 = .ok (.goto (-31), 3) := by decide +kernel
theorem dL_holds_557 : decode cL_holds 557 = .ok (.iload 11, 2) := by decide +kernel
theorem dL_holds_559 : decode cL_holds 559 = .ok (.ireturn, 1) := by decide +kernel
theorem dL_isHeld_0 : decode cL_isHeld 0 = .ok (.aload_n 0, 1) := by decide +kernel
theorem dL_isHeld_1 : decode cL_isHeld 1 = .ok (.invokestatic 254, 3) := by decide +kernel
theorem dL_isHeld_4 : decode cL_isHeld 4 = .ok (.ireturn, 1) := by decide +kernel
theorem dL_isHeld_5 : decode cL_isHeld 5 = .ok (.astore_n 1, 1) := by decide +kernel
theorem dL_isHeld_6 : decode cL_isHeld 6 = .ok (.iconst 0, 1) := by decide +kernel
theorem dL_isHeld_7 : decode cL_isHeld 7 = .ok (.ireturn, 1) := by decide +kernel
theorem dL_isHeld_8 : decode cL_isHeld 8 = .ok (.astore_n 1, 1) := by decide +kernel
theorem dL_isHeld_9 : decode cL_isHeld 9 = .ok (.iconst 0, 1) := by decide +kernel
theorem dL_isHeld_10 : decode cL_isHeld 10 = .ok (.ireturn, 1) := by decide +kernel
theorem dL_isHeld_11 : decode cL_isHeld 11 = .ok (.astore_n 1, 1) := by decide +kernel
theorem dL_isHeld_12 : decode cL_isHeld 12 = .ok (.iconst 0, 1) := by decide +kernel
theorem dL_isHeld_13 : decode cL_isHeld 13 = .ok (.ireturn, 1) := by decide +kernel
theorem dL_law_0 : decode cL_law 0 = .ok (.aload_n 0, 1) := by decide +kernel
theorem dL_law_1 : decode cL_law 1 = .ok (.invokestatic 260, 3) := by decide +kernel
theorem dL_law_4 : decode cL_law 4 = .ok (.ireturn, 1) := by decide +kernel
