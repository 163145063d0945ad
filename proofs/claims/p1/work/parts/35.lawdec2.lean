theorem d_LW_law_361 : decode b_LW_law 361 = .ok (.iconst 2, 1) := by decide +kernel
theorem d_LW_law_362 : decode b_LW_law 362 = .ok (.iadd, 1) := by decide +kernel
theorem d_LW_law_363 : decode b_LW_law 363 = .ok (.iaload, 1) := by decide +kernel
theorem d_LW_law_364 : decode b_LW_law 364 = .ok (.i2l, 1) := by decide +kernel
theorem d_LW_law_365 : decode b_LW_law 365 = .ok (.ldc2_w 70, 3) := by decide +kernel
theorem d_LW_law_368 : decode b_LW_law 368 = .ok (.land, 1) := by decide +kernel
theorem d_LW_law_369 : decode b_LW_law 369 = .ok (.lor, 1) := by decide +kernel
theorem d_LW_law_370 : decode b_LW_law 370 = .ok (.invokevirtual 72, 3) := by decide +kernel
theorem d_LW_law_373 : decode b_LW_law 373 = .ok (.aload_n 2, 1) := by decide +kernel
theorem d_LW_law_374 : decode b_LW_law 374 = .ok (.aload_n 0, 1) := by decide +kernel
theorem d_LW_law_375 : decode b_LW_law 375 = .ok (.iload_n 3, 1) := by decide +kernel
theorem d_LW_law_376 : decode b_LW_law 376 = .ok (.iconst 1, 1) := by decide +kernel
theorem d_LW_law_377 : decode b_LW_law 377 = .ok (.iadd, 1) := by decide +kernel
theorem d_LW_law_378 : decode b_LW_law 378 = .ok (.iaload, 1) := by decide +kernel
theorem d_LW_law_379 : decode b_LW_law 379 = .ok (.i2l, 1) := by decide +kernel
theorem d_LW_law_380 : decode b_LW_law 380 = .ok (.bipush 32, 2) := by decide +kernel
theorem d_LW_law_382 : decode b_LW_law 382 = .ok (.lshl, 1) := by decide +kernel
theorem d_LW_law_383 : decode b_LW_law 383 = .ok (.aload_n 0, 1) := by decide +kernel
theorem d_LW_law_384 : decode b_LW_law 384 = .ok (.iload_n 3, 1) := by decide +kernel
theorem d_LW_law_385 : decode b_LW_law 385 = .ok (.iconst 2, 1) := by decide +kernel
theorem d_LW_law_386 : decode b_LW_law 386 = .ok (.iadd, 1) := by decide +kernel
theorem d_LW_law_387 : decode b_LW_law 387 = .ok (.iaload, 1) := by decide +kernel
theorem d_LW_law_388 : decode b_LW_law 388 = .ok (.i2l, 1) := by decide +kernel
theorem d_LW_law_389 : decode b_LW_law 389 = .ok (.ldc2_w 70, 3) := by decide +kernel
theorem d_LW_law_392 : decode b_LW_law 392 = .ok (.land, 1) := by decide +kernel
theorem d_LW_law_393 : decode b_LW_law 393 = .ok (.lor, 1) := by decide +kernel
theorem d_LW_law_394 : decode b_LW_law 394 = .ok (.invokevirtual 76, 3) := by decide +kernel
theorem d_LW_law_397 : decode b_LW_law 397 = .ok (.if_icmp .eq 211, 3) := by decide +kernel
theorem d_LW_law_400 : decode b_LW_law 400 = .ok (.iconst 0, 1) := by decide +kernel
theorem d_LW_law_401 : decode b_LW_law 401 = .ok (.ireturn, 1) := by decide +kernel
theorem d_LW_law_402 : decode b_LW_law 402 = .ok (.aload_n 1, 1) := by decide +kernel
theorem d_LW_law_403 : decode b_LW_law 403 = .ok (.aload_n 0, 1) := by decide +kernel
theorem d_LW_law_404 : decode b_LW_law 404 = .ok (.iload_n 3, 1) := by decide +kernel
theorem d_LW_law_405 : decode b_LW_law 405 = .ok (.iconst 1, 1) := by decide +kernel
theorem d_LW_law_406 : decode b_LW_law 406 = .ok (.iadd, 1) := by decide +kernel
theorem d_LW_law_407 : decode b_LW_law 407 = .ok (.iaload, 1) := by decide +kernel
theorem d_LW_law_408 : decode b_LW_law 408 = .ok (.aload_n 0, 1) := by decide +kernel
theorem d_LW_law_409 : decode b_LW_law 409 = .ok (.iload_n 3, 1) := by decide +kernel
theorem d_LW_law_410 : decode b_LW_law 410 = .ok (.iconst 2, 1) := by decide +kernel
theorem d_LW_law_411 : decode b_LW_law 411 = .ok (.iadd, 1) := by decide +kernel
theorem d_LW_law_412 : decode b_LW_law 412 = .ok (.iaload, 1) := by decide +kernel
theorem d_LW_law_413 : decode b_LW_law 413 = .ok (.invokevirtual 77, 3) := by decide +kernel
theorem d_LW_law_416 : decode b_LW_law 416 = .ok (.aload_n 2, 1) := by decide +kernel
theorem d_LW_law_417 : decode b_LW_law 417 = .ok (.aload_n 0, 1) := by decide +kernel
theorem d_LW_law_418 : decode b_LW_law 418 = .ok (.iload_n 3, 1) := by decide +kernel
theorem d_LW_law_419 : decode b_LW_law 419 = .ok (.iconst 1, 1) := by decide +kernel
theorem d_LW_law_420 : decode b_LW_law 420 = .ok (.iadd, 1) := by decide +kernel
theorem d_LW_law_421 : decode b_LW_law 421 = .ok (.iaload, 1) := by decide +kernel
theorem d_LW_law_422 : decode b_LW_law 422 = .ok (.aload_n 0, 1) := by decide +kernel
theorem d_LW_law_423 : decode b_LW_law 423 = .ok (.iload_n 3, 1) := by decide +kernel
theorem d_LW_law_424 : decode b_LW_law 424 = .ok (.iconst 2, 1) := by decide +kernel
theorem d_LW_law_425 : decode b_LW_law 425 = .ok (.iadd, 1) := by decide +kernel
theorem d_LW_law_426 : decode b_LW_law 426 = .ok (.iaload, 1) := by decide +kernel
theorem d_LW_law_427 : decode b_LW_law 427 = .ok (.invokevirtual 80, 3) := by decide +kernel
theorem d_LW_law_430 : decode b_LW_law 430 = .ok (.if_icmp .eq 178, 3) := by decide +kernel
theorem d_LW_law_433 : decode b_LW_law 433 = .ok (.iconst 0, 1) := by decide +kernel
theorem d_LW_law_434 : decode b_LW_law 434 = .ok (.ireturn, 1) := by decide +kernel
theorem d_LW_law_435 : decode b_LW_law 435 = .ok (.aload_n 1, 1) := by decide +kernel
theorem d_LW_law_436 : decode b_LW_law 436 = .ok (.aload_n 0, 1) := by decide +kernel
theorem d_LW_law_437 : decode b_LW_law 437 = .ok (.iload_n 3, 1) := by decide +kernel
theorem d_LW_law_438 : decode b_LW_law 438 = .ok (.iconst 1, 1) := by decide +kernel
theorem d_LW_law_439 : decode b_LW_law 439 = .ok (.iadd, 1) := by decide +kernel
theorem d_LW_law_440 : decode b_LW_law 440 = .ok (.iaload, 1) := by decide +kernel
theorem d_LW_law_441 : decode b_LW_law 441 = .ok (.invokevirtual 81, 3) := by decide +kernel
theorem d_LW_law_444 : decode b_LW_law 444 = .ok (.aload_n 2, 1) := by decide +kernel
theorem d_LW_law_445 : decode b_LW_law 445 = .ok (.aload_n 0, 1) := by decide +kernel
theorem d_LW_law_446 : decode b_LW_law 446 = .ok (.iload_n 3, 1) := by decide +kernel
theorem d_LW_law_447 : decode b_LW_law 447 = .ok (.iconst 1, 1) := by decide +kernel
theorem d_LW_law_448 : decode b_LW_law 448 = .ok (.iadd, 1) := by decide +kernel
theorem d_LW_law_449 : decode b_LW_law 449 = .ok (.iaload, 1) := by decide +kernel
theorem d_LW_law_450 : decode b_LW_law 450 = .ok (.invokevirtual 84, 3) := by decide +kernel
theorem d_LW_law_453 : decode b_LW_law 453 = .ok (.lcmp, 1) := by decide +kernel
theorem d_LW_law_454 : decode b_LW_law 454 = .ok (.ifCond .eq 154, 3) := by decide +kernel
theorem d_LW_law_457 : decode b_LW_law 457 = .ok (.iconst 0, 1) := by decide +kernel
theorem d_LW_law_458 : decode b_LW_law 458 = .ok (.ireturn, 1) := by decide +kernel
theorem d_LW_law_459 : decode b_LW_law 459 = .ok (.aload_n 1, 1) := by decide +kernel
theorem d_LW_law_460 : decode b_LW_law 460 = .ok (.aload_n 0, 1) := by decide +kernel
theorem d_LW_law_461 : decode b_LW_law 461 = .ok (.iload_n 3, 1) := by decide +kernel
theorem d_LW_law_462 : decode b_LW_law 462 = .ok (.iconst 1, 1) := by decide +kernel
theorem d_LW_law_463 : decode b_LW_law 463 = .ok (.iadd, 1) := by decide +kernel
theorem d_LW_law_464 : decode b_LW_law 464 = .ok (.iaload, 1) := by decide +kernel
theorem d_LW_law_465 : decode b_LW_law 465 = .ok (.aload_n 0, 1) := by decide +kernel
theorem d_LW_law_466 : decode b_LW_law 466 = .ok (.iload_n 3, 1) := by decide +kernel
theorem d_LW_law_467 : decode b_LW_law 467 = .ok (.iconst 2, 1) := by decide +kernel
theorem d_LW_law_468 : decode b_LW_law 468 = .ok (.iadd, 1) := by decide +kernel
theorem d_LW_law_469 : decode b_LW_law 469 = .ok (.iaload, 1) := by decide +kernel
theorem d_LW_law_470 : decode b_LW_law 470 = .ok (.i2l, 1) := by decide +kernel
theorem d_LW_law_471 : decode b_LW_law 471 = .ok (.bipush 32, 2) := by decide +kernel
theorem d_LW_law_473 : decode b_LW_law 473 = .ok (.lshl, 1) := by decide +kernel
theorem d_LW_law_474 : decode b_LW_law 474 = .ok (.aload_n 0, 1) := by decide +kernel
theorem d_LW_law_475 : decode b_LW_law 475 = .ok (.iload_n 3, 1) := by decide +kernel
theorem d_LW_law_476 : decode b_LW_law 476 = .ok (.iconst 3, 1) := by decide +kernel
theorem d_LW_law_477 : decode b_LW_law 477 = .ok (.iadd, 1) := by decide +kernel
theorem d_LW_law_478 : decode b_LW_law 478 = .ok (.iaload, 1) := by decide +kernel
theorem d_LW_law_479 : decode b_LW_law 479 = .ok (.i2l, 1) := by decide +kernel
theorem d_LW_law_480 : decode b_LW_law 480 = .ok (.ldc2_w 70, 3) := by decide +kernel
theorem d_LW_law_483 : decode b_LW_law 483 = .ok (.land, 1) := by decide +kernel
theorem d_LW_law_484 : decode b_LW_law 484 = .ok (.lor, 1) := by decide +kernel
theorem d_LW_law_485 : decode b_LW_law 485 = .ok (.invokevirtual 85, 3) := by decide +kernel
