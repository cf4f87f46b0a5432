/-! the law, decoded (by program) -/
theorem d_422 : decode code 422 = .ok (.iconst 1, 1) := by decide +kernel
theorem d_423 : decode code 423 = .ok (.iadd, 1) := by decide +kernel
theorem d_424 : decode code 424 = .ok (.iaload, 1) := by decide +kernel
theorem d_425 : decode code 425 = .ok (.invokevirtual 61, 3) := by decide +kernel
theorem d_428 : decode code 428 = .ok (.if_icmp .eq 195, 3) := by decide +kernel
theorem d_431 : decode code 431 = .ok (.iconst 0, 1) := by decide +kernel
theorem d_432 : decode code 432 = .ok (.ireturn, 1) := by decide +kernel
theorem d_433 : decode code 433 = .ok (.aload_n 1, 1) := by decide +kernel
theorem d_434 : decode code 434 = .ok (.invokevirtual 62, 3) := by decide +kernel
theorem d_437 : decode code 437 = .ok (.aload_n 2, 1) := by decide +kernel
theorem d_438 : decode code 438 = .ok (.invokevirtual 65, 3) := by decide +kernel
theorem d_441 : decode code 441 = .ok (.if_icmp .eq 182, 3) := by decide +kernel
theorem d_444 : decode code 444 = .ok (.iconst 0, 1) := by decide +kernel
theorem d_445 : decode code 445 = .ok (.ireturn, 1) := by decide +kernel
theorem d_446 : decode code 446 = .ok (.aload_n 1, 1) := by decide +kernel
theorem d_447 : decode code 447 = .ok (.aload_n 0, 1) := by decide +kernel
theorem d_448 : decode code 448 = .ok (.iload_n 3, 1) := by decide +kernel
theorem d_449 : decode code 449 = .ok (.iconst 1, 1) := by decide +kernel
theorem d_450 : decode code 450 = .ok (.iadd, 1) := by decide +kernel
theorem d_451 : decode code 451 = .ok (.iaload, 1) := by decide +kernel
theorem d_452 : decode code 452 = .ok (.invokevirtual 66, 3) := by decide +kernel
theorem d_455 : decode code 455 = .ok (.aload_n 2, 1) := by decide +kernel
theorem d_456 : decode code 456 = .ok (.aload_n 0, 1) := by decide +kernel
theorem d_457 : decode code 457 = .ok (.iload_n 3, 1) := by decide +kernel
theorem d_458 : decode code 458 = .ok (.iconst 1, 1) := by decide +kernel
theorem d_459 : decode code 459 = .ok (.iadd, 1) := by decide +kernel
theorem d_460 : decode code 460 = .ok (.iaload, 1) := by decide +kernel
theorem d_461 : decode code 461 = .ok (.invokevirtual 69, 3) := by decide +kernel
theorem d_464 : decode code 464 = .ok (.if_icmp .eq 159, 3) := by decide +kernel
theorem d_467 : decode code 467 = .ok (.iconst 0, 1) := by decide +kernel
theorem d_468 : decode code 468 = .ok (.ireturn, 1) := by decide +kernel
theorem d_469 : decode code 469 = .ok (.aload_n 1, 1) := by decide +kernel
theorem d_470 : decode code 470 = .ok (.aload_n 0, 1) := by decide +kernel
theorem d_471 : decode code 471 = .ok (.iload_n 3, 1) := by decide +kernel
theorem d_472 : decode code 472 = .ok (.iconst 1, 1) := by decide +kernel
theorem d_473 : decode code 473 = .ok (.iadd, 1) := by decide +kernel
theorem d_474 : decode code 474 = .ok (.iaload, 1) := by decide +kernel
theorem d_475 : decode code 475 = .ok (.invokevirtual 70, 3) := by decide +kernel
theorem d_478 : decode code 478 = .ok (.aload_n 2, 1) := by decide +kernel
theorem d_479 : decode code 479 = .ok (.aload_n 0, 1) := by decide +kernel
theorem d_480 : decode code 480 = .ok (.iload_n 3, 1) := by decide +kernel
theorem d_481 : decode code 481 = .ok (.iconst 1, 1) := by decide +kernel
theorem d_482 : decode code 482 = .ok (.iadd, 1) := by decide +kernel
theorem d_483 : decode code 483 = .ok (.iaload, 1) := by decide +kernel
theorem d_484 : decode code 484 = .ok (.invokevirtual 73, 3) := by decide +kernel
theorem d_487 : decode code 487 = .ok (.if_icmp .eq 136, 3) := by decide +kernel
theorem d_490 : decode code 490 = .ok (.iconst 0, 1) := by decide +kernel
theorem d_491 : decode code 491 = .ok (.ireturn, 1) := by decide +kernel
theorem d_492 : decode code 492 = .ok (.aload_n 1, 1) := by decide +kernel
theorem d_493 : decode code 493 = .ok (.aload_n 0, 1) := by decide +kernel
