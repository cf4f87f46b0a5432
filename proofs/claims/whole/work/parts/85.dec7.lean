/-! the law, decoded (by program) -/
theorem d_566 : decode code 566 = .ok (.iconst 1, 1) := by decide +kernel
theorem d_567 : decode code 567 = .ok (.iadd, 1) := by decide +kernel
theorem d_568 : decode code 568 = .ok (.iaload, 1) := by decide +kernel
theorem d_569 : decode code 569 = .ok (.invokevirtual 85, 3) := by decide +kernel
theorem d_572 : decode code 572 = .ok (.if_icmp .eq 51, 3) := by decide +kernel
theorem d_575 : decode code 575 = .ok (.iconst 0, 1) := by decide +kernel
theorem d_576 : decode code 576 = .ok (.ireturn, 1) := by decide +kernel
theorem d_577 : decode code 577 = .ok (.aload_n 1, 1) := by decide +kernel
theorem d_578 : decode code 578 = .ok (.aload_n 0, 1) := by decide +kernel
theorem d_579 : decode code 579 = .ok (.iload_n 3, 1) := by decide +kernel
theorem d_580 : decode code 580 = .ok (.iconst 1, 1) := by decide +kernel
theorem d_581 : decode code 581 = .ok (.iadd, 1) := by decide +kernel
theorem d_582 : decode code 582 = .ok (.iaload, 1) := by decide +kernel
theorem d_583 : decode code 583 = .ok (.invokevirtual 86, 3) := by decide +kernel
theorem d_586 : decode code 586 = .ok (.aload_n 2, 1) := by decide +kernel
theorem d_587 : decode code 587 = .ok (.aload_n 0, 1) := by decide +kernel
theorem d_588 : decode code 588 = .ok (.iload_n 3, 1) := by decide +kernel
theorem d_589 : decode code 589 = .ok (.iconst 1, 1) := by decide +kernel
theorem d_590 : decode code 590 = .ok (.iadd, 1) := by decide +kernel
theorem d_591 : decode code 591 = .ok (.iaload, 1) := by decide +kernel
theorem d_592 : decode code 592 = .ok (.invokevirtual 89, 3) := by decide +kernel
theorem d_595 : decode code 595 = .ok (.if_icmp .eq 28, 3) := by decide +kernel
theorem d_598 : decode code 598 = .ok (.iconst 0, 1) := by decide +kernel
theorem d_599 : decode code 599 = .ok (.ireturn, 1) := by decide +kernel
theorem d_600 : decode code 600 = .ok (.aload_n 1, 1) := by decide +kernel
theorem d_601 : decode code 601 = .ok (.aload_n 0, 1) := by decide +kernel
theorem d_602 : decode code 602 = .ok (.iload_n 3, 1) := by decide +kernel
theorem d_603 : decode code 603 = .ok (.iconst 1, 1) := by decide +kernel
theorem d_604 : decode code 604 = .ok (.iadd, 1) := by decide +kernel
theorem d_605 : decode code 605 = .ok (.iaload, 1) := by decide +kernel
theorem d_606 : decode code 606 = .ok (.invokevirtual 90, 3) := by decide +kernel
theorem d_609 : decode code 609 = .ok (.aload_n 2, 1) := by decide +kernel
theorem d_610 : decode code 610 = .ok (.aload_n 0, 1) := by decide +kernel
theorem d_611 : decode code 611 = .ok (.iload_n 3, 1) := by decide +kernel
theorem d_612 : decode code 612 = .ok (.iconst 1, 1) := by decide +kernel
theorem d_613 : decode code 613 = .ok (.iadd, 1) := by decide +kernel
theorem d_614 : decode code 614 = .ok (.iaload, 1) := by decide +kernel
theorem d_615 : decode code 615 = .ok (.invokevirtual 93, 3) := by decide +kernel
theorem d_618 : decode code 618 = .ok (.if_icmp .eq 5, 3) := by decide +kernel
theorem d_621 : decode code 621 = .ok (.iconst 0, 1) := by decide +kernel
theorem d_622 : decode code 622 = .ok (.ireturn, 1) := by decide +kernel
theorem d_623 : decode code 623 = .ok (.iinc 3 4, 3) := by decide +kernel
theorem d_626 : decode code 626 = .ok (.goto (-608), 3) := by decide +kernel
theorem d_629 : decode code 629 = .ok (.iconst 1, 1) := by decide +kernel
theorem d_630 : decode code 630 = .ok (.ireturn, 1) := by decide +kernel
