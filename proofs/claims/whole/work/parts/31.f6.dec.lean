/-! the law's instructions -/
theorem d_law_492 : decode code 492 = .ok (.iaload, 1) := by decide +kernel
theorem d_law_493 : decode code 493 = .ok (.aload_n 3, 1) := by decide +kernel
theorem d_law_494 : decode code 494 = .ok (.invokestatic 86, 3) := by decide +kernel
theorem d_law_497 : decode code 497 = .ok (.istore 5, 2) := by decide +kernel
theorem d_law_499 : decode code 499 = .ok (.aload_n 2, 1) := by decide +kernel
theorem d_law_500 : decode code 500 = .ok (.aload_n 0, 1) := by decide +kernel
theorem d_law_501 : decode code 501 = .ok (.iload 4, 2) := by decide +kernel
theorem d_law_503 : decode code 503 = .ok (.iconst 1, 1) := by decide +kernel
theorem d_law_504 : decode code 504 = .ok (.iadd, 1) := by decide +kernel
theorem d_law_505 : decode code 505 = .ok (.iaload, 1) := by decide +kernel
theorem d_law_506 : decode code 506 = .ok (.invokevirtual 91, 3) := by decide +kernel
theorem d_law_509 : decode code 509 = .ok (.istore 6, 2) := by decide +kernel
theorem d_law_511 : decode code 511 = .ok (.aload_n 2, 1) := by decide +kernel
theorem d_law_512 : decode code 512 = .ok (.invokevirtual 92, 3) := by decide +kernel
theorem d_law_515 : decode code 515 = .ok (.iload 5, 2) := by decide +kernel
theorem d_law_517 : decode code 517 = .ok (.if_icmp .eq 5, 3) := by decide +kernel
theorem d_law_522 : decode code 522 = .ok (.iload 5, 2) := by decide +kernel
theorem d_law_524 : decode code 524 = .ok (.ifCond .ne 15, 3) := by decide +kernel
theorem d_law_527 : decode code 527 = .ok (.aload_n 3, 1) := by decide +kernel
theorem d_law_528 : decode code 528 = .ok (.iconst 0, 1) := by decide +kernel
theorem d_law_529 : decode code 529 = .ok (.laload, 1) := by decide +kernel
theorem d_law_530 : decode code 530 = .ok (.iload 6, 2) := by decide +kernel
theorem d_law_532 : decode code 532 = .ok (.i2l, 1) := by decide +kernel
theorem d_law_533 : decode code 533 = .ok (.lcmp, 1) := by decide +kernel
theorem d_law_534 : decode code 534 = .ok (.ifCond .eq 5, 3) := by decide +kernel
theorem d_law_539 : decode code 539 = .ok (.goto 84, 3) := by decide +kernel
theorem d_law_542 : decode code 542 = .ok (.aload_n 1, 1) := by decide +kernel
theorem d_law_543 : decode code 543 = .ok (.aload_n 0, 1) := by decide +kernel
theorem d_law_544 : decode code 544 = .ok (.iload 4, 2) := by decide +kernel
theorem d_law_546 : decode code 546 = .ok (.iconst 1, 1) := by decide +kernel
theorem d_law_547 : decode code 547 = .ok (.iadd, 1) := by decide +kernel
theorem d_law_548 : decode code 548 = .ok (.iaload, 1) := by decide +kernel
theorem d_law_549 : decode code 549 = .ok (.aload_n 3, 1) := by decide +kernel
theorem d_law_550 : decode code 550 = .ok (.invokestatic 95, 3) := by decide +kernel
theorem d_law_553 : decode code 553 = .ok (.istore 5, 2) := by decide +kernel
theorem d_law_555 : decode code 555 = .ok (.aload_n 2, 1) := by decide +kernel
theorem d_law_556 : decode code 556 = .ok (.aload_n 0, 1) := by decide +kernel
theorem d_law_557 : decode code 557 = .ok (.iload 4, 2) := by decide +kernel
theorem d_law_559 : decode code 559 = .ok (.iconst 1, 1) := by decide +kernel
theorem d_law_560 : decode code 560 = .ok (.iadd, 1) := by decide +kernel
theorem d_law_561 : decode code 561 = .ok (.iaload, 1) := by decide +kernel
theorem d_law_562 : decode code 562 = .ok (.invokevirtual 97, 3) := by decide +kernel
theorem d_law_565 : decode code 565 = .ok (.istore 6, 2) := by decide +kernel
theorem d_law_567 : decode code 567 = .ok (.aload_n 2, 1) := by decide +kernel
theorem d_law_568 : decode code 568 = .ok (.invokevirtual 92, 3) := by decide +kernel
theorem d_law_571 : decode code 571 = .ok (.iload 5, 2) := by decide +kernel
theorem d_law_573 : decode code 573 = .ok (.if_icmp .eq 5, 3) := by decide +kernel
theorem d_law_578 : decode code 578 = .ok (.iload 5, 2) := by decide +kernel
theorem d_law_580 : decode code 580 = .ok (.ifCond .ne 15, 3) := by decide +kernel
theorem d_law_583 : decode code 583 = .ok (.aload_n 3, 1) := by decide +kernel
