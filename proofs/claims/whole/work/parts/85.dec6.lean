/-! the law, decoded (by program) -/
theorem d_494 : decode code 494 = .ok (.iload_n 3, 1) := by decide +kernel
theorem d_495 : decode code 495 = .ok (.iconst 1, 1) := by decide +kernel
theorem d_496 : decode code 496 = .ok (.iadd, 1) := by decide +kernel
theorem d_497 : decode code 497 = .ok (.iaload, 1) := by decide +kernel
theorem d_498 : decode code 498 = .ok (.aload_n 0, 1) := by decide +kernel
theorem d_499 : decode code 499 = .ok (.iload_n 3, 1) := by decide +kernel
theorem d_500 : decode code 500 = .ok (.iconst 2, 1) := by decide +kernel
theorem d_501 : decode code 501 = .ok (.iadd, 1) := by decide +kernel
theorem d_502 : decode code 502 = .ok (.iaload, 1) := by decide +kernel
theorem d_503 : decode code 503 = .ok (.ifCond .eq 7, 3) := by decide +kernel
theorem d_506 : decode code 506 = .ok (.iconst 1, 1) := by decide +kernel
theorem d_507 : decode code 507 = .ok (.goto 4, 3) := by decide +kernel
theorem d_510 : decode code 510 = .ok (.iconst 0, 1) := by decide +kernel
theorem d_511 : decode code 511 = .ok (.invokevirtual 74, 3) := by decide +kernel
theorem d_514 : decode code 514 = .ok (.aload_n 2, 1) := by decide +kernel
theorem d_515 : decode code 515 = .ok (.aload_n 0, 1) := by decide +kernel
theorem d_516 : decode code 516 = .ok (.iload_n 3, 1) := by decide +kernel
theorem d_517 : decode code 517 = .ok (.iconst 1, 1) := by decide +kernel
theorem d_518 : decode code 518 = .ok (.iadd, 1) := by decide +kernel
theorem d_519 : decode code 519 = .ok (.iaload, 1) := by decide +kernel
theorem d_520 : decode code 520 = .ok (.aload_n 0, 1) := by decide +kernel
theorem d_521 : decode code 521 = .ok (.iload_n 3, 1) := by decide +kernel
theorem d_522 : decode code 522 = .ok (.iconst 2, 1) := by decide +kernel
theorem d_523 : decode code 523 = .ok (.iadd, 1) := by decide +kernel
theorem d_524 : decode code 524 = .ok (.iaload, 1) := by decide +kernel
theorem d_525 : decode code 525 = .ok (.ifCond .eq 7, 3) := by decide +kernel
theorem d_528 : decode code 528 = .ok (.iconst 1, 1) := by decide +kernel
theorem d_529 : decode code 529 = .ok (.goto 4, 3) := by decide +kernel
theorem d_532 : decode code 532 = .ok (.iconst 0, 1) := by decide +kernel
theorem d_533 : decode code 533 = .ok (.invokevirtual 77, 3) := by decide +kernel
theorem d_536 : decode code 536 = .ok (.if_icmp .eq 87, 3) := by decide +kernel
theorem d_539 : decode code 539 = .ok (.iconst 0, 1) := by decide +kernel
theorem d_540 : decode code 540 = .ok (.ireturn, 1) := by decide +kernel
theorem d_541 : decode code 541 = .ok (.aload_n 1, 1) := by decide +kernel
theorem d_542 : decode code 542 = .ok (.invokevirtual 78, 3) := by decide +kernel
theorem d_545 : decode code 545 = .ok (.aload_n 2, 1) := by decide +kernel
theorem d_546 : decode code 546 = .ok (.invokevirtual 81, 3) := by decide +kernel
theorem d_549 : decode code 549 = .ok (.if_icmp .eq 74, 3) := by decide +kernel
theorem d_552 : decode code 552 = .ok (.iconst 0, 1) := by decide +kernel
theorem d_553 : decode code 553 = .ok (.ireturn, 1) := by decide +kernel
theorem d_554 : decode code 554 = .ok (.aload_n 1, 1) := by decide +kernel
theorem d_555 : decode code 555 = .ok (.aload_n 0, 1) := by decide +kernel
theorem d_556 : decode code 556 = .ok (.iload_n 3, 1) := by decide +kernel
theorem d_557 : decode code 557 = .ok (.iconst 1, 1) := by decide +kernel
theorem d_558 : decode code 558 = .ok (.iadd, 1) := by decide +kernel
theorem d_559 : decode code 559 = .ok (.iaload, 1) := by decide +kernel
theorem d_560 : decode code 560 = .ok (.invokevirtual 82, 3) := by decide +kernel
theorem d_563 : decode code 563 = .ok (.aload_n 2, 1) := by decide +kernel
theorem d_564 : decode code 564 = .ok (.aload_n 0, 1) := by decide +kernel
theorem d_565 : decode code 565 = .ok (.iload_n 3, 1) := by decide +kernel
