/-! the law's decode rows -/
theorem dl_324 : decode code 324 = .ok (.iconst 2, 1) := by decide +kernel
theorem dl_325 : decode code 325 = .ok (.iadd, 1) := by decide +kernel
theorem dl_326 : decode code 326 = .ok (.iaload, 1) := by decide +kernel
theorem dl_327 : decode code 327 = .ok (.invokevirtual 40, 3) := by decide +kernel
theorem dl_330 : decode code 330 = .ok (.aload_n 2, 1) := by decide +kernel
theorem dl_331 : decode code 331 = .ok (.aload_n 0, 1) := by decide +kernel
theorem dl_332 : decode code 332 = .ok (.iload_n 3, 1) := by decide +kernel
theorem dl_333 : decode code 333 = .ok (.iconst 1, 1) := by decide +kernel
theorem dl_334 : decode code 334 = .ok (.iadd, 1) := by decide +kernel
theorem dl_335 : decode code 335 = .ok (.iaload, 1) := by decide +kernel
theorem dl_336 : decode code 336 = .ok (.aload_n 0, 1) := by decide +kernel
theorem dl_337 : decode code 337 = .ok (.iload_n 3, 1) := by decide +kernel
theorem dl_338 : decode code 338 = .ok (.iconst 2, 1) := by decide +kernel
theorem dl_339 : decode code 339 = .ok (.iadd, 1) := by decide +kernel
theorem dl_340 : decode code 340 = .ok (.iaload, 1) := by decide +kernel
theorem dl_341 : decode code 341 = .ok (.invokevirtual 43, 3) := by decide +kernel
theorem dl_344 : decode code 344 = .ok (.if_icmp .eq 760, 3) := by decide +kernel
theorem dl_349 : decode code 349 = .ok (.aload_n 1, 1) := by decide +kernel
theorem dl_350 : decode code 350 = .ok (.invokevirtual 44, 3) := by decide +kernel
theorem dl_353 : decode code 353 = .ok (.aload_n 2, 1) := by decide +kernel
theorem dl_354 : decode code 354 = .ok (.invokevirtual 47, 3) := by decide +kernel
theorem dl_357 : decode code 357 = .ok (.if_icmp .eq 747, 3) := by decide +kernel
theorem dl_362 : decode code 362 = .ok (.aload_n 1, 1) := by decide +kernel
theorem dl_363 : decode code 363 = .ok (.aload_n 0, 1) := by decide +kernel
theorem dl_364 : decode code 364 = .ok (.iload_n 3, 1) := by decide +kernel
theorem dl_365 : decode code 365 = .ok (.iconst 1, 1) := by decide +kernel
theorem dl_366 : decode code 366 = .ok (.iadd, 1) := by decide +kernel
theorem dl_367 : decode code 367 = .ok (.iaload, 1) := by decide +kernel
theorem dl_368 : decode code 368 = .ok (.aload_n 0, 1) := by decide +kernel
theorem dl_369 : decode code 369 = .ok (.iload_n 3, 1) := by decide +kernel
theorem dl_370 : decode code 370 = .ok (.iconst 2, 1) := by decide +kernel
theorem dl_371 : decode code 371 = .ok (.iadd, 1) := by decide +kernel
theorem dl_372 : decode code 372 = .ok (.iaload, 1) := by decide +kernel
theorem dl_373 : decode code 373 = .ok (.invokevirtual 48, 3) := by decide +kernel
theorem dl_376 : decode code 376 = .ok (.aload_n 2, 1) := by decide +kernel
theorem dl_377 : decode code 377 = .ok (.aload_n 0, 1) := by decide +kernel
theorem dl_378 : decode code 378 = .ok (.iload_n 3, 1) := by decide +kernel
theorem dl_379 : decode code 379 = .ok (.iconst 1, 1) := by decide +kernel
theorem dl_380 : decode code 380 = .ok (.iadd, 1) := by decide +kernel
theorem dl_381 : decode code 381 = .ok (.iaload, 1) := by decide +kernel
theorem dl_382 : decode code 382 = .ok (.aload_n 0, 1) := by decide +kernel
theorem dl_383 : decode code 383 = .ok (.iload_n 3, 1) := by decide +kernel
theorem dl_384 : decode code 384 = .ok (.iconst 2, 1) := by decide +kernel
theorem dl_385 : decode code 385 = .ok (.iadd, 1) := by decide +kernel
theorem dl_386 : decode code 386 = .ok (.iaload, 1) := by decide +kernel
theorem dl_387 : decode code 387 = .ok (.invokevirtual 51, 3) := by decide +kernel
theorem dl_390 : decode code 390 = .ok (.if_icmp .eq 714, 3) := by decide +kernel
theorem dl_395 : decode code 395 = .ok (.aload_n 1, 1) := by decide +kernel
theorem dl_396 : decode code 396 = .ok (.aload_n 0, 1) := by decide +kernel
theorem dl_397 : decode code 397 = .ok (.iload_n 3, 1) := by decide +kernel
theorem dl_398 : decode code 398 = .ok (.iconst 1, 1) := by decide +kernel
theorem dl_399 : decode code 399 = .ok (.iadd, 1) := by decide +kernel
theorem dl_400 : decode code 400 = .ok (.iaload, 1) := by decide +kernel
theorem dl_401 : decode code 401 = .ok (.invokevirtual 52, 3) := by decide +kernel
theorem dl_404 : decode code 404 = .ok (.aload_n 2, 1) := by decide +kernel
theorem dl_405 : decode code 405 = .ok (.aload_n 0, 1) := by decide +kernel
theorem dl_406 : decode code 406 = .ok (.iload_n 3, 1) := by decide +kernel
theorem dl_407 : decode code 407 = .ok (.iconst 1, 1) := by decide +kernel
theorem dl_408 : decode code 408 = .ok (.iadd, 1) := by decide +kernel
theorem dl_409 : decode code 409 = .ok (.iaload, 1) := by decide +kernel
theorem dl_410 : decode code 410 = .ok (.invokevirtual 55, 3) := by decide +kernel
theorem dl_413 : decode code 413 = .ok (.if_icmp .eq 691, 3) := by decide +kernel
theorem dl_418 : decode code 418 = .ok (.aload_n 1, 1) := by decide +kernel
theorem dl_419 : decode code 419 = .ok (.aload_n 0, 1) := by decide +kernel
theorem dl_420 : decode code 420 = .ok (.iload_n 3, 1) := by decide +kernel
theorem dl_421 : decode code 421 = .ok (.iconst 1, 1) := by decide +kernel
theorem dl_422 : decode code 422 = .ok (.iadd, 1) := by decide +kernel
theorem dl_423 : decode code 423 = .ok (.iaload, 1) := by decide +kernel
theorem dl_424 : decode code 424 = .ok (.invokevirtual 56, 3) := by decide +kernel
theorem dl_427 : decode code 427 = .ok (.aload_n 2, 1) := by decide +kernel
theorem dl_428 : decode code 428 = .ok (.aload_n 0, 1) := by decide +kernel
theorem dl_429 : decode code 429 = .ok (.iload_n 3, 1) := by decide +kernel
theorem dl_430 : decode code 430 = .ok (.iconst 1, 1) := by decide +kernel
theorem dl_431 : decode code 431 = .ok (.iadd, 1) := by decide +kernel
theorem dl_432 : decode code 432 = .ok (.iaload, 1) := by decide +kernel
theorem dl_433 : decode code 433 = .ok (.invokevirtual 59, 3) := by decide +kernel
theorem dl_436 : decode code 436 = .ok (.if_icmp .eq 668, 3) := by decide +kernel
theorem dl_441 : decode code 441 = .ok (.aload_n 1, 1) := by decide +kernel
theorem dl_442 : decode code 442 = .ok (.aload_n 0, 1) := by decide +kernel
theorem dl_443 : decode code 443 = .ok (.iload_n 3, 1) := by decide +kernel
theorem dl_444 : decode code 444 = .ok (.iconst 1, 1) := by decide +kernel
theorem dl_445 : decode code 445 = .ok (.iadd, 1) := by decide +kernel
theorem dl_446 : decode code 446 = .ok (.iaload, 1) := by decide +kernel
theorem dl_447 : decode code 447 = .ok (.invokevirtual 60, 3) := by decide +kernel
theorem dl_450 : decode code 450 = .ok (.aload_n 2, 1) := by decide +kernel
theorem dl_451 : decode code 451 = .ok (.aload_n 0, 1) := by decide +kernel
theorem dl_452 : decode code 452 = .ok (.iload_n 3, 1) := by decide +kernel
theorem dl_453 : decode code 453 = .ok (.iconst 1, 1) := by decide +kernel
theorem dl_454 : decode code 454 = .ok (.iadd, 1) := by decide +kernel
theorem dl_455 : decode code 455 = .ok (.iaload, 1) := by decide +kernel
theorem dl_456 : decode code 456 = .ok (.invokevirtual 63, 3) := by decide +kernel
theorem dl_459 : decode code 459 = .ok (.if_icmp .eq 645, 3) := by decide +kernel
theorem dl_464 : decode code 464 = .ok (.aload_n 1, 1) := by decide +kernel
theorem dl_465 : decode code 465 = .ok (.invokevirtual 64, 3) := by decide +kernel
theorem dl_468 : decode code 468 = .ok (.aload_n 2, 1) := by decide +kernel
theorem dl_469 : decode code 469 = .ok (.invokevirtual 67, 3) := by decide +kernel
theorem dl_472 : decode code 472 = .ok (.if_icmp .eq 632, 3) := by decide +kernel
theorem dl_477 : decode code 477 = .ok (.aload_n 1, 1) := by decide +kernel
theorem dl_478 : decode code 478 = .ok (.aload_n 0, 1) := by decide +kernel
theorem dl_479 : decode code 479 = .ok (.iload_n 3, 1) := by decide +kernel
theorem dl_480 : decode code 480 = .ok (.iconst 1, 1) := by decide +kernel
theorem dl_481 : decode code 481 = .ok (.iadd, 1) := by decide +kernel
theorem dl_482 : decode code 482 = .ok (.iaload, 1) := by decide +kernel
theorem dl_483 : decode code 483 = .ok (.invokevirtual 68, 3) := by decide +kernel
theorem dl_486 : decode code 486 = .ok (.aload_n 2, 1) := by decide +kernel
theorem dl_487 : decode code 487 = .ok (.aload_n 0, 1) := by decide +kernel
theorem dl_488 : decode code 488 = .ok (.iload_n 3, 1) := by decide +kernel
theorem dl_489 : decode code 489 = .ok (.iconst 1, 1) := by decide +kernel
theorem dl_490 : decode code 490 = .ok (.iadd, 1) := by decide +kernel
theorem dl_491 : decode code 491 = .ok (.iaload, 1) := by decide +kernel
