/-! the law's instructions, 3 -/
theorem kw_d_464 : decode code 464 = .ok (.iload_n 3, 1) := by decide +kernel
theorem kw_d_465 : decode code 465 = .ok (.iconst 3, 1) := by decide +kernel
theorem kw_d_466 : decode code 466 = .ok (.iadd, 1) := by decide +kernel
theorem kw_d_467 : decode code 467 = .ok (.iaload, 1) := by decide +kernel
theorem kw_d_468 : decode code 468 = .ok (.aload_n 0, 1) := by decide +kernel
theorem kw_d_469 : decode code 469 = .ok (.iload_n 3, 1) := by decide +kernel
theorem kw_d_470 : decode code 470 = .ok (.iconst 4, 1) := by decide +kernel
theorem kw_d_471 : decode code 471 = .ok (.iadd, 1) := by decide +kernel
theorem kw_d_472 : decode code 472 = .ok (.iaload, 1) := by decide +kernel
theorem kw_d_473 : decode code 473 = .ok (.invokevirtual 55, 3) := by decide +kernel
theorem kw_d_476 : decode code 476 = .ok (.if_icmp .eq 376, 3) := by decide +kernel
theorem kw_d_479 : decode code 479 = .ok (.iconst 0, 1) := by decide +kernel
theorem kw_d_480 : decode code 480 = .ok (.ireturn, 1) := by decide +kernel
theorem kw_d_481 : decode code 481 = .ok (.aload_n 1, 1) := by decide +kernel
theorem kw_d_482 : decode code 482 = .ok (.aload_n 0, 1) := by decide +kernel
theorem kw_d_483 : decode code 483 = .ok (.iload_n 3, 1) := by decide +kernel
theorem kw_d_484 : decode code 484 = .ok (.iconst 1, 1) := by decide +kernel
theorem kw_d_485 : decode code 485 = .ok (.iadd, 1) := by decide +kernel
theorem kw_d_486 : decode code 486 = .ok (.iaload, 1) := by decide +kernel
theorem kw_d_487 : decode code 487 = .ok (.aload_n 0, 1) := by decide +kernel
theorem kw_d_488 : decode code 488 = .ok (.iload_n 3, 1) := by decide +kernel
theorem kw_d_489 : decode code 489 = .ok (.iconst 2, 1) := by decide +kernel
theorem kw_d_490 : decode code 490 = .ok (.iadd, 1) := by decide +kernel
theorem kw_d_491 : decode code 491 = .ok (.iaload, 1) := by decide +kernel
theorem kw_d_492 : decode code 492 = .ok (.aload_n 0, 1) := by decide +kernel
theorem kw_d_493 : decode code 493 = .ok (.iload_n 3, 1) := by decide +kernel
theorem kw_d_494 : decode code 494 = .ok (.iconst 3, 1) := by decide +kernel
theorem kw_d_495 : decode code 495 = .ok (.iadd, 1) := by decide +kernel
theorem kw_d_496 : decode code 496 = .ok (.iaload, 1) := by decide +kernel
theorem kw_d_497 : decode code 497 = .ok (.invokevirtual 56, 3) := by decide +kernel
theorem kw_d_500 : decode code 500 = .ok (.aload_n 2, 1) := by decide +kernel
theorem kw_d_501 : decode code 501 = .ok (.aload_n 0, 1) := by decide +kernel
theorem kw_d_502 : decode code 502 = .ok (.iload_n 3, 1) := by decide +kernel
theorem kw_d_503 : decode code 503 = .ok (.iconst 1, 1) := by decide +kernel
theorem kw_d_504 : decode code 504 = .ok (.iadd, 1) := by decide +kernel
theorem kw_d_505 : decode code 505 = .ok (.iaload, 1) := by decide +kernel
theorem kw_d_506 : decode code 506 = .ok (.aload_n 0, 1) := by decide +kernel
theorem kw_d_507 : decode code 507 = .ok (.iload_n 3, 1) := by decide +kernel
theorem kw_d_508 : decode code 508 = .ok (.iconst 2, 1) := by decide +kernel
theorem kw_d_509 : decode code 509 = .ok (.iadd, 1) := by decide +kernel
theorem kw_d_510 : decode code 510 = .ok (.iaload, 1) := by decide +kernel
theorem kw_d_511 : decode code 511 = .ok (.aload_n 0, 1) := by decide +kernel
theorem kw_d_512 : decode code 512 = .ok (.iload_n 3, 1) := by decide +kernel
theorem kw_d_513 : decode code 513 = .ok (.iconst 3, 1) := by decide +kernel
theorem kw_d_514 : decode code 514 = .ok (.iadd, 1) := by decide +kernel
theorem kw_d_515 : decode code 515 = .ok (.iaload, 1) := by decide +kernel
theorem kw_d_516 : decode code 516 = .ok (.invokevirtual 59, 3) := by decide +kernel
theorem kw_d_519 : decode code 519 = .ok (.if_icmp .eq 333, 3) := by decide +kernel
theorem kw_d_522 : decode code 522 = .ok (.iconst 0, 1) := by decide +kernel
theorem kw_d_523 : decode code 523 = .ok (.ireturn, 1) := by decide +kernel
theorem kw_d_524 : decode code 524 = .ok (.aload_n 1, 1) := by decide +kernel
theorem kw_d_525 : decode code 525 = .ok (.aload_n 0, 1) := by decide +kernel
theorem kw_d_526 : decode code 526 = .ok (.iload_n 3, 1) := by decide +kernel
theorem kw_d_527 : decode code 527 = .ok (.iconst 1, 1) := by decide +kernel
theorem kw_d_528 : decode code 528 = .ok (.iadd, 1) := by decide +kernel
theorem kw_d_529 : decode code 529 = .ok (.iaload, 1) := by decide +kernel
theorem kw_d_530 : decode code 530 = .ok (.aload_n 0, 1) := by decide +kernel
theorem kw_d_531 : decode code 531 = .ok (.iload_n 3, 1) := by decide +kernel
theorem kw_d_532 : decode code 532 = .ok (.iconst 2, 1) := by decide +kernel
theorem kw_d_533 : decode code 533 = .ok (.iadd, 1) := by decide +kernel
theorem kw_d_534 : decode code 534 = .ok (.iaload, 1) := by decide +kernel
theorem kw_d_535 : decode code 535 = .ok (.aload_n 0, 1) := by decide +kernel
theorem kw_d_536 : decode code 536 = .ok (.iload_n 3, 1) := by decide +kernel
theorem kw_d_537 : decode code 537 = .ok (.iconst 3, 1) := by decide +kernel
theorem kw_d_538 : decode code 538 = .ok (.iadd, 1) := by decide +kernel
theorem kw_d_539 : decode code 539 = .ok (.iaload, 1) := by decide +kernel
theorem kw_d_540 : decode code 540 = .ok (.invokevirtual 60, 3) := by decide +kernel
theorem kw_d_543 : decode code 543 = .ok (.aload_n 2, 1) := by decide +kernel
theorem kw_d_544 : decode code 544 = .ok (.aload_n 0, 1) := by decide +kernel
theorem kw_d_545 : decode code 545 = .ok (.iload_n 3, 1) := by decide +kernel
theorem kw_d_546 : decode code 546 = .ok (.iconst 1, 1) := by decide +kernel
theorem kw_d_547 : decode code 547 = .ok (.iadd, 1) := by decide +kernel
theorem kw_d_548 : decode code 548 = .ok (.iaload, 1) := by decide +kernel
theorem kw_d_549 : decode code 549 = .ok (.aload_n 0, 1) := by decide +kernel
theorem kw_d_550 : decode code 550 = .ok (.iload_n 3, 1) := by decide +kernel
theorem kw_d_551 : decode code 551 = .ok (.iconst 2, 1) := by decide +kernel
theorem kw_d_552 : decode code 552 = .ok (.iadd, 1) := by decide +kernel
theorem kw_d_553 : decode code 553 = .ok (.iaload, 1) := by decide +kernel
theorem kw_d_554 : decode code 554 = .ok (.aload_n 0, 1) := by decide +kernel
theorem kw_d_555 : decode code 555 = .ok (.iload_n 3, 1) := by decide +kernel
theorem kw_d_556 : decode code 556 = .ok (.iconst 3, 1) := by decide +kernel
theorem kw_d_557 : decode code 557 = .ok (.iadd, 1) := by decide +kernel
theorem kw_d_558 : decode code 558 = .ok (.iaload, 1) := by decide +kernel
theorem kw_d_559 : decode code 559 = .ok (.invokevirtual 63, 3) := by decide +kernel
theorem kw_d_562 : decode code 562 = .ok (.if_icmp .eq 290, 3) := by decide +kernel
theorem kw_d_565 : decode code 565 = .ok (.iconst 0, 1) := by decide +kernel
theorem kw_d_566 : decode code 566 = .ok (.ireturn, 1) := by decide +kernel
theorem kw_d_567 : decode code 567 = .ok (.aload_n 1, 1) := by decide +kernel
theorem kw_d_568 : decode code 568 = .ok (.aload_n 0, 1) := by decide +kernel
theorem kw_d_569 : decode code 569 = .ok (.iload_n 3, 1) := by decide +kernel
theorem kw_d_570 : decode code 570 = .ok (.iconst 1, 1) := by decide +kernel
theorem kw_d_571 : decode code 571 = .ok (.iadd, 1) := by decide +kernel
theorem kw_d_572 : decode code 572 = .ok (.iaload, 1) := by decide +kernel
theorem kw_d_573 : decode code 573 = .ok (.aload_n 0, 1) := by decide +kernel
theorem kw_d_574 : decode code 574 = .ok (.iload_n 3, 1) := by decide +kernel
theorem kw_d_575 : decode code 575 = .ok (.iconst 2, 1) := by decide +kernel
theorem kw_d_576 : decode code 576 = .ok (.iadd, 1) := by decide +kernel
theorem kw_d_577 : decode code 577 = .ok (.iaload, 1) := by decide +kernel
theorem kw_d_578 : decode code 578 = .ok (.invokevirtual 64, 3) := by decide +kernel
theorem kw_d_581 : decode code 581 = .ok (.aload_n 2, 1) := by decide +kernel
theorem kw_d_582 : decode code 582 = .ok (.aload_n 0, 1) := by decide +kernel
theorem kw_d_583 : decode code 583 = .ok (.iload_n 3, 1) := by decide +kernel
theorem kw_d_584 : decode code 584 = .ok (.iconst 1, 1) := by decide +kernel
theorem kw_d_585 : decode code 585 = .ok (.iadd, 1) := by decide +kernel
theorem kw_d_586 : decode code 586 = .ok (.iaload, 1) := by decide +kernel
theorem kw_d_587 : decode code 587 = .ok (.aload_n 0, 1) := by decide +kernel
theorem kw_d_588 : decode code 588 = .ok (.iload_n 3, 1) := by decide +kernel
theorem kw_d_589 : decode code 589 = .ok (.iconst 2, 1) := by decide +kernel
theorem kw_d_590 : decode code 590 = .ok (.iadd, 1) := by decide +kernel
theorem kw_d_591 : decode code 591 = .ok (.iaload, 1) := by decide +kernel
theorem kw_d_592 : decode code 592 = .ok (.invokevirtual 68, 3) := by decide +kernel
theorem kw_d_595 : decode code 595 = .ok (.if_icmp .eq 257, 3) := by decide +kernel
theorem kw_d_598 : decode code 598 = .ok (.iconst 0, 1) := by decide +kernel
theorem kw_d_599 : decode code 599 = .ok (.ireturn, 1) := by decide +kernel
theorem kw_d_600 : decode code 600 = .ok (.aload_n 1, 1) := by decide +kernel
theorem kw_d_601 : decode code 601 = .ok (.aload_n 0, 1) := by decide +kernel
theorem kw_d_602 : decode code 602 = .ok (.iload_n 3, 1) := by decide +kernel
theorem kw_d_603 : decode code 603 = .ok (.iconst 1, 1) := by decide +kernel
theorem kw_d_604 : decode code 604 = .ok (.iadd, 1) := by decide +kernel
theorem kw_d_605 : decode code 605 = .ok (.iaload, 1) := by decide +kernel
theorem kw_d_606 : decode code 606 = .ok (.aload_n 0, 1) := by decide +kernel
theorem kw_d_607 : decode code 607 = .ok (.iload_n 3, 1) := by decide +kernel
theorem kw_d_608 : decode code 608 = .ok (.iconst 2, 1) := by decide +kernel
theorem kw_d_609 : decode code 609 = .ok (.iadd, 1) := by decide +kernel
theorem kw_d_610 : decode code 610 = .ok (.iaload, 1) := by decide +kernel
theorem kw_d_611 : decode code 611 = .ok (.invokevirtual 69, 3) := by decide +kernel
theorem kw_d_614 : decode code 614 = .ok (.aload_n 2, 1) := by decide +kernel
theorem kw_d_615 : decode code 615 = .ok (.aload_n 0, 1) := by decide +kernel
theorem kw_d_616 : decode code 616 = .ok (.iload_n 3, 1) := by decide +kernel
theorem kw_d_617 : decode code 617 = .ok (.iconst 1, 1) := by decide +kernel
theorem kw_d_618 : decode code 618 = .ok (.iadd, 1) := by decide +kernel
theorem kw_d_619 : decode code 619 = .ok (.iaload, 1) := by decide +kernel
theorem kw_d_620 : decode code 620 = .ok (.aload_n 0, 1) := by decide +kernel
theorem kw_d_621 : decode code 621 = .ok (.iload_n 3, 1) := by decide +kernel
theorem kw_d_622 : decode code 622 = .ok (.iconst 2, 1) := by decide +kernel
theorem kw_d_623 : decode code 623 = .ok (.iadd, 1) := by decide +kernel
theorem kw_d_624 : decode code 624 = .ok (.iaload, 1) := by decide +kernel
theorem kw_d_625 : decode code 625 = .ok (.invokevirtual 72, 3) := by decide +kernel
theorem kw_d_628 : decode code 628 = .ok (.if_icmp .eq 224, 3) := by decide +kernel
theorem kw_d_631 : decode code 631 = .ok (.iconst 0, 1) := by decide +kernel
theorem kw_d_632 : decode code 632 = .ok (.ireturn, 1) := by decide +kernel
theorem kw_d_633 : decode code 633 = .ok (.aload_n 1, 1) := by decide +kernel
theorem kw_d_634 : decode code 634 = .ok (.aload_n 0, 1) := by decide +kernel
theorem kw_d_635 : decode code 635 = .ok (.iload_n 3, 1) := by decide +kernel
theorem kw_d_636 : decode code 636 = .ok (.iconst 1, 1) := by decide +kernel
theorem kw_d_637 : decode code 637 = .ok (.iadd, 1) := by decide +kernel
theorem kw_d_638 : decode code 638 = .ok (.iaload, 1) := by decide +kernel
theorem kw_d_639 : decode code 639 = .ok (.aload_n 0, 1) := by decide +kernel
theorem kw_d_640 : decode code 640 = .ok (.iload_n 3, 1) := by decide +kernel
theorem kw_d_641 : decode code 641 = .ok (.iconst 2, 1) := by decide +kernel
