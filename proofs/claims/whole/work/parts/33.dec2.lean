/-! the law's decode rows -/
theorem dl_492 : decode code 492 = .ok (.invokevirtual 71, 3) := by decide +kernel
theorem dl_495 : decode code 495 = .ok (.if_icmp .eq 609, 3) := by decide +kernel
theorem dl_500 : decode code 500 = .ok (.aload_n 1, 1) := by decide +kernel
theorem dl_501 : decode code 501 = .ok (.aload_n 0, 1) := by decide +kernel
theorem dl_502 : decode code 502 = .ok (.iload_n 3, 1) := by decide +kernel
theorem dl_503 : decode code 503 = .ok (.iconst 1, 1) := by decide +kernel
theorem dl_504 : decode code 504 = .ok (.iadd, 1) := by decide +kernel
theorem dl_505 : decode code 505 = .ok (.iaload, 1) := by decide +kernel
theorem dl_506 : decode code 506 = .ok (.invokevirtual 72, 3) := by decide +kernel
theorem dl_509 : decode code 509 = .ok (.aload_n 2, 1) := by decide +kernel
theorem dl_510 : decode code 510 = .ok (.aload_n 0, 1) := by decide +kernel
theorem dl_511 : decode code 511 = .ok (.iload_n 3, 1) := by decide +kernel
theorem dl_512 : decode code 512 = .ok (.iconst 1, 1) := by decide +kernel
theorem dl_513 : decode code 513 = .ok (.iadd, 1) := by decide +kernel
theorem dl_514 : decode code 514 = .ok (.iaload, 1) := by decide +kernel
theorem dl_515 : decode code 515 = .ok (.invokevirtual 75, 3) := by decide +kernel
theorem dl_518 : decode code 518 = .ok (.if_icmp .eq 586, 3) := by decide +kernel
theorem dl_523 : decode code 523 = .ok (.aload_n 1, 1) := by decide +kernel
theorem dl_524 : decode code 524 = .ok (.aload_n 0, 1) := by decide +kernel
theorem dl_525 : decode code 525 = .ok (.iload_n 3, 1) := by decide +kernel
theorem dl_526 : decode code 526 = .ok (.iconst 1, 1) := by decide +kernel
theorem dl_527 : decode code 527 = .ok (.iadd, 1) := by decide +kernel
theorem dl_528 : decode code 528 = .ok (.iaload, 1) := by decide +kernel
theorem dl_529 : decode code 529 = .ok (.aload_n 0, 1) := by decide +kernel
theorem dl_530 : decode code 530 = .ok (.iload_n 3, 1) := by decide +kernel
theorem dl_531 : decode code 531 = .ok (.iconst 2, 1) := by decide +kernel
theorem dl_532 : decode code 532 = .ok (.iadd, 1) := by decide +kernel
theorem dl_533 : decode code 533 = .ok (.iaload, 1) := by decide +kernel
theorem dl_534 : decode code 534 = .ok (.invokevirtual 76, 3) := by decide +kernel
theorem dl_537 : decode code 537 = .ok (.aload_n 2, 1) := by decide +kernel
theorem dl_538 : decode code 538 = .ok (.aload_n 0, 1) := by decide +kernel
theorem dl_539 : decode code 539 = .ok (.iload_n 3, 1) := by decide +kernel
theorem dl_540 : decode code 540 = .ok (.iconst 1, 1) := by decide +kernel
theorem dl_541 : decode code 541 = .ok (.iadd, 1) := by decide +kernel
theorem dl_542 : decode code 542 = .ok (.iaload, 1) := by decide +kernel
theorem dl_543 : decode code 543 = .ok (.aload_n 0, 1) := by decide +kernel
theorem dl_544 : decode code 544 = .ok (.iload_n 3, 1) := by decide +kernel
theorem dl_545 : decode code 545 = .ok (.iconst 2, 1) := by decide +kernel
theorem dl_546 : decode code 546 = .ok (.iadd, 1) := by decide +kernel
theorem dl_547 : decode code 547 = .ok (.iaload, 1) := by decide +kernel
theorem dl_548 : decode code 548 = .ok (.invokevirtual 79, 3) := by decide +kernel
theorem dl_551 : decode code 551 = .ok (.if_icmp .eq 553, 3) := by decide +kernel
theorem dl_556 : decode code 556 = .ok (.aload_n 1, 1) := by decide +kernel
theorem dl_557 : decode code 557 = .ok (.aload_n 0, 1) := by decide +kernel
theorem dl_558 : decode code 558 = .ok (.iload_n 3, 1) := by decide +kernel
theorem dl_559 : decode code 559 = .ok (.iconst 1, 1) := by decide +kernel
theorem dl_560 : decode code 560 = .ok (.iadd, 1) := by decide +kernel
theorem dl_561 : decode code 561 = .ok (.iaload, 1) := by decide +kernel
theorem dl_562 : decode code 562 = .ok (.invokevirtual 80, 3) := by decide +kernel
theorem dl_565 : decode code 565 = .ok (.aload_n 2, 1) := by decide +kernel
theorem dl_566 : decode code 566 = .ok (.aload_n 0, 1) := by decide +kernel
theorem dl_567 : decode code 567 = .ok (.iload_n 3, 1) := by decide +kernel
theorem dl_568 : decode code 568 = .ok (.iconst 1, 1) := by decide +kernel
theorem dl_569 : decode code 569 = .ok (.iadd, 1) := by decide +kernel
theorem dl_570 : decode code 570 = .ok (.iaload, 1) := by decide +kernel
theorem dl_571 : decode code 571 = .ok (.invokevirtual 83, 3) := by decide +kernel
theorem dl_574 : decode code 574 = .ok (.if_icmp .eq 530, 3) := by decide +kernel
theorem dl_579 : decode code 579 = .ok (.aload_n 1, 1) := by decide +kernel
theorem dl_580 : decode code 580 = .ok (.invokevirtual 84, 3) := by decide +kernel
theorem dl_583 : decode code 583 = .ok (.aload_n 2, 1) := by decide +kernel
theorem dl_584 : decode code 584 = .ok (.invokevirtual 87, 3) := by decide +kernel
theorem dl_587 : decode code 587 = .ok (.if_icmp .eq 517, 3) := by decide +kernel
theorem dl_592 : decode code 592 = .ok (.aload_n 1, 1) := by decide +kernel
theorem dl_593 : decode code 593 = .ok (.aload_n 0, 1) := by decide +kernel
theorem dl_594 : decode code 594 = .ok (.iload_n 3, 1) := by decide +kernel
theorem dl_595 : decode code 595 = .ok (.iconst 1, 1) := by decide +kernel
theorem dl_596 : decode code 596 = .ok (.iadd, 1) := by decide +kernel
theorem dl_597 : decode code 597 = .ok (.iaload, 1) := by decide +kernel
theorem dl_598 : decode code 598 = .ok (.invokevirtual 88, 3) := by decide +kernel
theorem dl_601 : decode code 601 = .ok (.aload_n 2, 1) := by decide +kernel
theorem dl_602 : decode code 602 = .ok (.aload_n 0, 1) := by decide +kernel
theorem dl_603 : decode code 603 = .ok (.iload_n 3, 1) := by decide +kernel
theorem dl_604 : decode code 604 = .ok (.iconst 1, 1) := by decide +kernel
theorem dl_605 : decode code 605 = .ok (.iadd, 1) := by decide +kernel
theorem dl_606 : decode code 606 = .ok (.iaload, 1) := by decide +kernel
theorem dl_607 : decode code 607 = .ok (.invokevirtual 91, 3) := by decide +kernel
theorem dl_610 : decode code 610 = .ok (.if_icmp .eq 494, 3) := by decide +kernel
theorem dl_615 : decode code 615 = .ok (.aload_n 1, 1) := by decide +kernel
theorem dl_616 : decode code 616 = .ok (.aload_n 0, 1) := by decide +kernel
theorem dl_617 : decode code 617 = .ok (.iload_n 3, 1) := by decide +kernel
theorem dl_618 : decode code 618 = .ok (.iconst 1, 1) := by decide +kernel
theorem dl_619 : decode code 619 = .ok (.iadd, 1) := by decide +kernel
theorem dl_620 : decode code 620 = .ok (.iaload, 1) := by decide +kernel
theorem dl_621 : decode code 621 = .ok (.invokevirtual 92, 3) := by decide +kernel
theorem dl_624 : decode code 624 = .ok (.aload_n 2, 1) := by decide +kernel
theorem dl_625 : decode code 625 = .ok (.aload_n 0, 1) := by decide +kernel
theorem dl_626 : decode code 626 = .ok (.iload_n 3, 1) := by decide +kernel
theorem dl_627 : decode code 627 = .ok (.iconst 1, 1) := by decide +kernel
theorem dl_628 : decode code 628 = .ok (.iadd, 1) := by decide +kernel
theorem dl_629 : decode code 629 = .ok (.iaload, 1) := by decide +kernel
theorem dl_630 : decode code 630 = .ok (.invokevirtual 95, 3) := by decide +kernel
theorem dl_633 : decode code 633 = .ok (.if_icmp .eq 471, 3) := by decide +kernel
theorem dl_638 : decode code 638 = .ok (.aload_n 1, 1) := by decide +kernel
theorem dl_639 : decode code 639 = .ok (.aload_n 0, 1) := by decide +kernel
theorem dl_640 : decode code 640 = .ok (.iload_n 3, 1) := by decide +kernel
theorem dl_641 : decode code 641 = .ok (.iconst 1, 1) := by decide +kernel
theorem dl_642 : decode code 642 = .ok (.iadd, 1) := by decide +kernel
theorem dl_643 : decode code 643 = .ok (.iaload, 1) := by decide +kernel
theorem dl_644 : decode code 644 = .ok (.aload_n 0, 1) := by decide +kernel
theorem dl_645 : decode code 645 = .ok (.iload_n 3, 1) := by decide +kernel
theorem dl_646 : decode code 646 = .ok (.iconst 2, 1) := by decide +kernel
theorem dl_647 : decode code 647 = .ok (.iadd, 1) := by decide +kernel
theorem dl_648 : decode code 648 = .ok (.iaload, 1) := by decide +kernel
theorem dl_649 : decode code 649 = .ok (.invokevirtual 96, 3) := by decide +kernel
theorem dl_652 : decode code 652 = .ok (.aload_n 2, 1) := by decide +kernel
theorem dl_653 : decode code 653 = .ok (.aload_n 0, 1) := by decide +kernel
theorem dl_654 : decode code 654 = .ok (.iload_n 3, 1) := by decide +kernel
theorem dl_655 : decode code 655 = .ok (.iconst 1, 1) := by decide +kernel
theorem dl_656 : decode code 656 = .ok (.iadd, 1) := by decide +kernel
theorem dl_657 : decode code 657 = .ok (.iaload, 1) := by decide +kernel
