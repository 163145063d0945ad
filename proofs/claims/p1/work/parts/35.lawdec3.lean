theorem d_LW_law_488 : decode b_LW_law 488 = .ok (.aload_n 2, 1) := by decide +kernel
theorem d_LW_law_489 : decode b_LW_law 489 = .ok (.aload_n 0, 1) := by decide +kernel
theorem d_LW_law_490 : decode b_LW_law 490 = .ok (.iload_n 3, 1) := by decide +kernel
theorem d_LW_law_491 : decode b_LW_law 491 = .ok (.iconst 1, 1) := by decide +kernel
theorem d_LW_law_492 : decode b_LW_law 492 = .ok (.iadd, 1) := by decide +kernel
theorem d_LW_law_493 : decode b_LW_law 493 = .ok (.iaload, 1) := by decide +kernel
theorem d_LW_law_494 : decode b_LW_law 494 = .ok (.aload_n 0, 1) := by decide +kernel
theorem d_LW_law_495 : decode b_LW_law 495 = .ok (.iload_n 3, 1) := by decide +kernel
theorem d_LW_law_496 : decode b_LW_law 496 = .ok (.iconst 2, 1) := by decide +kernel
theorem d_LW_law_497 : decode b_LW_law 497 = .ok (.iadd, 1) := by decide +kernel
theorem d_LW_law_498 : decode b_LW_law 498 = .ok (.iaload, 1) := by decide +kernel
theorem d_LW_law_499 : decode b_LW_law 499 = .ok (.i2l, 1) := by decide +kernel
theorem d_LW_law_500 : decode b_LW_law 500 = .ok (.bipush 32, 2) := by decide +kernel
theorem d_LW_law_502 : decode b_LW_law 502 = .ok (.lshl, 1) := by decide +kernel
theorem d_LW_law_503 : decode b_LW_law 503 = .ok (.aload_n 0, 1) := by decide +kernel
theorem d_LW_law_504 : decode b_LW_law 504 = .ok (.iload_n 3, 1) := by decide +kernel
theorem d_LW_law_505 : decode b_LW_law 505 = .ok (.iconst 3, 1) := by decide +kernel
theorem d_LW_law_506 : decode b_LW_law 506 = .ok (.iadd, 1) := by decide +kernel
theorem d_LW_law_507 : decode b_LW_law 507 = .ok (.iaload, 1) := by decide +kernel
theorem d_LW_law_508 : decode b_LW_law 508 = .ok (.i2l, 1) := by decide +kernel
theorem d_LW_law_509 : decode b_LW_law 509 = .ok (.ldc2_w 70, 3) := by decide +kernel
theorem d_LW_law_512 : decode b_LW_law 512 = .ok (.land, 1) := by decide +kernel
theorem d_LW_law_513 : decode b_LW_law 513 = .ok (.lor, 1) := by decide +kernel
theorem d_LW_law_514 : decode b_LW_law 514 = .ok (.invokevirtual 89, 3) := by decide +kernel
theorem d_LW_law_517 : decode b_LW_law 517 = .ok (.if_icmp .eq 91, 3) := by decide +kernel
theorem d_LW_law_520 : decode b_LW_law 520 = .ok (.iconst 0, 1) := by decide +kernel
theorem d_LW_law_521 : decode b_LW_law 521 = .ok (.ireturn, 1) := by decide +kernel
theorem d_LW_law_522 : decode b_LW_law 522 = .ok (.aload_n 1, 1) := by decide +kernel
theorem d_LW_law_523 : decode b_LW_law 523 = .ok (.invokevirtual 90, 3) := by decide +kernel
theorem d_LW_law_526 : decode b_LW_law 526 = .ok (.aload_n 2, 1) := by decide +kernel
theorem d_LW_law_527 : decode b_LW_law 527 = .ok (.invokevirtual 93, 3) := by decide +kernel
theorem d_LW_law_530 : decode b_LW_law 530 = .ok (.if_icmp .eq 78, 3) := by decide +kernel
theorem d_LW_law_533 : decode b_LW_law 533 = .ok (.iconst 0, 1) := by decide +kernel
theorem d_LW_law_534 : decode b_LW_law 534 = .ok (.ireturn, 1) := by decide +kernel
theorem d_LW_law_535 : decode b_LW_law 535 = .ok (.aload_n 1, 1) := by decide +kernel
theorem d_LW_law_536 : decode b_LW_law 536 = .ok (.aload_n 0, 1) := by decide +kernel
theorem d_LW_law_537 : decode b_LW_law 537 = .ok (.iload_n 3, 1) := by decide +kernel
theorem d_LW_law_538 : decode b_LW_law 538 = .ok (.iconst 1, 1) := by decide +kernel
theorem d_LW_law_539 : decode b_LW_law 539 = .ok (.iadd, 1) := by decide +kernel
theorem d_LW_law_540 : decode b_LW_law 540 = .ok (.iaload, 1) := by decide +kernel
theorem d_LW_law_541 : decode b_LW_law 541 = .ok (.i2l, 1) := by decide +kernel
theorem d_LW_law_542 : decode b_LW_law 542 = .ok (.bipush 32, 2) := by decide +kernel
theorem d_LW_law_544 : decode b_LW_law 544 = .ok (.lshl, 1) := by decide +kernel
theorem d_LW_law_545 : decode b_LW_law 545 = .ok (.aload_n 0, 1) := by decide +kernel
theorem d_LW_law_546 : decode b_LW_law 546 = .ok (.iload_n 3, 1) := by decide +kernel
theorem d_LW_law_547 : decode b_LW_law 547 = .ok (.iconst 2, 1) := by decide +kernel
theorem d_LW_law_548 : decode b_LW_law 548 = .ok (.iadd, 1) := by decide +kernel
theorem d_LW_law_549 : decode b_LW_law 549 = .ok (.iaload, 1) := by decide +kernel
theorem d_LW_law_550 : decode b_LW_law 550 = .ok (.i2l, 1) := by decide +kernel
theorem d_LW_law_551 : decode b_LW_law 551 = .ok (.ldc2_w 70, 3) := by decide +kernel
theorem d_LW_law_554 : decode b_LW_law 554 = .ok (.land, 1) := by decide +kernel
theorem d_LW_law_555 : decode b_LW_law 555 = .ok (.lor, 1) := by decide +kernel
theorem d_LW_law_556 : decode b_LW_law 556 = .ok (.aload_n 0, 1) := by decide +kernel
theorem d_LW_law_557 : decode b_LW_law 557 = .ok (.iload_n 3, 1) := by decide +kernel
theorem d_LW_law_558 : decode b_LW_law 558 = .ok (.iconst 3, 1) := by decide +kernel
theorem d_LW_law_559 : decode b_LW_law 559 = .ok (.iadd, 1) := by decide +kernel
theorem d_LW_law_560 : decode b_LW_law 560 = .ok (.iaload, 1) := by decide +kernel
theorem d_LW_law_561 : decode b_LW_law 561 = .ok (.aload_n 0, 1) := by decide +kernel
theorem d_LW_law_562 : decode b_LW_law 562 = .ok (.iload_n 3, 1) := by decide +kernel
theorem d_LW_law_563 : decode b_LW_law 563 = .ok (.iconst 4, 1) := by decide +kernel
theorem d_LW_law_564 : decode b_LW_law 564 = .ok (.iadd, 1) := by decide +kernel
theorem d_LW_law_565 : decode b_LW_law 565 = .ok (.iaload, 1) := by decide +kernel
theorem d_LW_law_566 : decode b_LW_law 566 = .ok (.invokevirtual 94, 3) := by decide +kernel
theorem d_LW_law_569 : decode b_LW_law 569 = .ok (.aload_n 2, 1) := by decide +kernel
theorem d_LW_law_570 : decode b_LW_law 570 = .ok (.aload_n 0, 1) := by decide +kernel
theorem d_LW_law_571 : decode b_LW_law 571 = .ok (.iload_n 3, 1) := by decide +kernel
theorem d_LW_law_572 : decode b_LW_law 572 = .ok (.iconst 1, 1) := by decide +kernel
theorem d_LW_law_573 : decode b_LW_law 573 = .ok (.iadd, 1) := by decide +kernel
theorem d_LW_law_574 : decode b_LW_law 574 = .ok (.iaload, 1) := by decide +kernel
theorem d_LW_law_575 : decode b_LW_law 575 = .ok (.i2l, 1) := by decide +kernel
theorem d_LW_law_576 : decode b_LW_law 576 = .ok (.bipush 32, 2) := by decide +kernel
theorem d_LW_law_578 : decode b_LW_law 578 = .ok (.lshl, 1) := by decide +kernel
theorem d_LW_law_579 : decode b_LW_law 579 = .ok (.aload_n 0, 1) := by decide +kernel
theorem d_LW_law_580 : decode b_LW_law 580 = .ok (.iload_n 3, 1) := by decide +kernel
theorem d_LW_law_581 : decode b_LW_law 581 = .ok (.iconst 2, 1) := by decide +kernel
theorem d_LW_law_582 : decode b_LW_law 582 = .ok (.iadd, 1) := by decide +kernel
theorem d_LW_law_583 : decode b_LW_law 583 = .ok (.iaload, 1) := by decide +kernel
theorem d_LW_law_584 : decode b_LW_law 584 = .ok (.i2l, 1) := by decide +kernel
theorem d_LW_law_585 : decode b_LW_law 585 = .ok (.ldc2_w 70, 3) := by decide +kernel
theorem d_LW_law_588 : decode b_LW_law 588 = .ok (.land, 1) := by decide +kernel
theorem d_LW_law_589 : decode b_LW_law 589 = .ok (.lor, 1) := by decide +kernel
theorem d_LW_law_590 : decode b_LW_law 590 = .ok (.aload_n 0, 1) := by decide +kernel
theorem d_LW_law_591 : decode b_LW_law 591 = .ok (.iload_n 3, 1) := by decide +kernel
theorem d_LW_law_592 : decode b_LW_law 592 = .ok (.iconst 3, 1) := by decide +kernel
theorem d_LW_law_593 : decode b_LW_law 593 = .ok (.iadd, 1) := by decide +kernel
theorem d_LW_law_594 : decode b_LW_law 594 = .ok (.iaload, 1) := by decide +kernel
theorem d_LW_law_595 : decode b_LW_law 595 = .ok (.aload_n 0, 1) := by decide +kernel
theorem d_LW_law_596 : decode b_LW_law 596 = .ok (.iload_n 3, 1) := by decide +kernel
theorem d_LW_law_597 : decode b_LW_law 597 = .ok (.iconst 4, 1) := by decide +kernel
theorem d_LW_law_598 : decode b_LW_law 598 = .ok (.iadd, 1) := by decide +kernel
theorem d_LW_law_599 : decode b_LW_law 599 = .ok (.iaload, 1) := by decide +kernel
theorem d_LW_law_600 : decode b_LW_law 600 = .ok (.invokevirtual 98, 3) := by decide +kernel
theorem d_LW_law_603 : decode b_LW_law 603 = .ok (.if_icmp .eq 5, 3) := by decide +kernel
theorem d_LW_law_606 : decode b_LW_law 606 = .ok (.iconst 0, 1) := by decide +kernel
theorem d_LW_law_607 : decode b_LW_law 607 = .ok (.ireturn, 1) := by decide +kernel
theorem d_LW_law_608 : decode b_LW_law 608 = .ok (.iinc 3 5, 3) := by decide +kernel
theorem d_LW_law_611 : decode b_LW_law 611 = .ok (.goto (-583), 3) := by decide +kernel
theorem d_LW_law_614 : decode b_LW_law 614 = .ok (.iconst 1, 1) := by decide +kernel
theorem d_LW_law_615 : decode b_LW_law 615 = .ok (.ireturn, 1) := by decide +kernel
