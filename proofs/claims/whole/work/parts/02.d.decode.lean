theorem dX12_init_490 : decode cX12_init 490 = .ok (.bipush 6, 2) := by decide +kernel
theorem dX12_init_492 : decode cX12_init 492 = .ok (.iconst 0, 1) := by decide +kernel
theorem dX12_init_493 : decode cX12_init 493 = .ok (.iastore, 1) := by decide +kernel
theorem dX12_init_494 : decode cX12_init 494 = .ok (.dup, 1) := by decide +kernel
theorem dX12_init_495 : decode cX12_init 495 = .ok (.bipush 7, 2) := by decide +kernel
theorem dX12_init_497 : decode cX12_init 497 = .ok (.iconst 3, 1) := by decide +kernel
theorem dX12_init_498 : decode cX12_init 498 = .ok (.iastore, 1) := by decide +kernel
theorem dX12_init_499 : decode cX12_init 499 = .ok (.putfield 28, 3) := by decide +kernel
theorem dX12_init_502 : decode cX12_init 502 = .ok (.aload_n 0, 1) := by decide +kernel
theorem dX12_init_503 : decode cX12_init 503 = .ok (.bipush 8, 2) := by decide +kernel
theorem dX12_init_505 : decode cX12_init 505 = .ok (.newarray .int, 2) := by decide +kernel
theorem dX12_init_507 : decode cX12_init 507 = .ok (.putfield 31, 3) := by decide +kernel
theorem dX12_init_510 : decode cX12_init 510 = .ok (.aload_n 0, 1) := by decide +kernel
theorem dX12_init_511 : decode cX12_init 511 = .ok (.bipush 36, 2) := by decide +kernel
theorem dX12_init_513 : decode cX12_init 513 = .ok (.newarray .int, 2) := by decide +kernel
theorem dX12_init_515 : decode cX12_init 515 = .ok (.putfield 34, 3) := by decide +kernel
theorem dX12_init_518 : decode cX12_init 518 = .ok (.aload_n 0, 1) := by decide +kernel
theorem dX12_init_519 : decode cX12_init 519 = .ok (.bipush 36, 2) := by decide +kernel
theorem dX12_init_521 : decode cX12_init 521 = .ok (.newarray .int, 2) := by decide +kernel
theorem dX12_init_523 : decode cX12_init 523 = .ok (.putfield 37, 3) := by decide +kernel
theorem dX12_init_526 : decode cX12_init 526 = .ok (.aload_n 0, 1) := by decide +kernel
theorem dX12_init_527 : decode cX12_init 527 = .ok (.sipush 600, 3) := by decide +kernel
theorem dX12_init_530 : decode cX12_init 530 = .ok (.newarray .int, 2) := by decide +kernel
theorem dX12_init_532 : decode cX12_init 532 = .ok (.putfield 40, 3) := by decide +kernel
theorem dX12_init_535 : decode cX12_init 535 = .ok (.aload_n 0, 1) := by decide +kernel
theorem dX12_init_536 : decode cX12_init 536 = .ok (.bipush 10, 2) := by decide +kernel
theorem dX12_init_538 : decode cX12_init 538 = .ok (.newarray .int, 2) := by decide +kernel
theorem dX12_init_540 : decode cX12_init 540 = .ok (.putfield 43, 3) := by decide +kernel
theorem dX12_init_543 : decode cX12_init 543 = .ok (.aload_n 0, 1) := by decide +kernel
theorem dX12_init_544 : decode cX12_init 544 = .ok (.bipush 36, 2) := by decide +kernel
theorem dX12_init_546 : decode cX12_init 546 = .ok (.newarray .int, 2) := by decide +kernel
theorem dX12_init_548 : decode cX12_init 548 = .ok (.putfield 46, 3) := by decide +kernel
theorem dX12_init_551 : decode cX12_init 551 = .ok (.aload_n 0, 1) := by decide +kernel
theorem dX12_init_552 : decode cX12_init 552 = .ok (.bipush 36, 2) := by decide +kernel
theorem dX12_init_554 : decode cX12_init 554 = .ok (.newarray .int, 2) := by decide +kernel
theorem dX12_init_556 : decode cX12_init 556 = .ok (.putfield 49, 3) := by decide +kernel
theorem dX12_init_559 : decode cX12_init 559 = .ok (.aload_n 0, 1) := by decide +kernel
theorem dX12_init_560 : decode cX12_init 560 = .ok (.bipush 121, 2) := by decide +kernel
theorem dX12_init_562 : decode cX12_init 562 = .ok (.newarray .int, 2) := by decide +kernel
theorem dX12_init_564 : decode cX12_init 564 = .ok (.putfield 52, 3) := by decide +kernel
theorem dX12_init_567 : decode cX12_init 567 = .ok (.aload_n 0, 1) := by decide +kernel
theorem dX12_init_568 : decode cX12_init 568 = .ok (.bipush 121, 2) := by decide +kernel
theorem dX12_init_570 : decode cX12_init 570 = .ok (.newarray .int, 2) := by decide +kernel
theorem dX12_init_572 : decode cX12_init 572 = .ok (.putfield 55, 3) := by decide +kernel
theorem dX12_init_575 : decode cX12_init 575 = .ok (.aload_n 0, 1) := by decide +kernel
theorem dX12_init_576 : decode cX12_init 576 = .ok (.bipush 36, 2) := by decide +kernel
theorem dX12_init_578 : decode cX12_init 578 = .ok (.newarray .int, 2) := by decide +kernel
theorem dX12_init_580 : decode cX12_init 580 = .ok (.putfield 58, 3) := by decide +kernel
theorem dX12_init_583 : decode cX12_init 583 = .ok (.aload_n 0, 1) := by decide +kernel
theorem dX12_init_584 : decode cX12_init 584 = .ok (.sipush 18432, 3) := by decide +kernel
theorem dX12_init_587 : decode cX12_init 587 = .ok (.newarray .int, 2) := by decide +kernel
theorem dX12_init_589 : decode cX12_init 589 = .ok (.putfield 61, 3) := by decide +kernel
theorem dX12_init_592 : decode cX12_init 592 = .ok (.aload_n 0, 1) := by decide +kernel
theorem dX12_init_593 : decode cX12_init 593 = .ok (.sipush 1000, 3) := by decide +kernel
theorem dX12_init_596 : decode cX12_init 596 = .ok (.newarray .int, 2) := by decide +kernel
theorem dX12_init_598 : decode cX12_init 598 = .ok (.putfield 64, 3) := by decide +kernel
theorem dX12_init_601 : decode cX12_init 601 = .ok (.aload_n 0, 1) := by decide +kernel
theorem dX12_init_602 : decode cX12_init 602 = .ok (.bipush 36, 2) := by decide +kernel
theorem dX12_init_604 : decode cX12_init 604 = .ok (.newarray .int, 2) := by decide +kernel
theorem dX12_init_606 : decode cX12_init 606 = .ok (.putfield 67, 3) := by decide +kernel
theorem dX12_init_609 : decode cX12_init 609 = .ok (.aload_n 0, 1) := by decide +kernel
theorem dX12_init_610 : decode cX12_init 610 = .ok (.sipush 144, 3) := by decide +kernel
theorem dX12_init_613 : decode cX12_init 613 = .ok (.newarray .long, 2) := by decide +kernel
theorem dX12_init_615 : decode cX12_init 615 = .ok (.putfield 70, 3) := by decide +kernel
theorem dX12_init_618 : decode cX12_init 618 = .ok (.aload_n 0, 1) := by decide +kernel
theorem dX12_init_619 : decode cX12_init 619 = .ok (.sipush 144, 3) := by decide +kernel
theorem dX12_init_622 : decode cX12_init 622 = .ok (.newarray .long, 2) := by decide +kernel
theorem dX12_init_624 : decode cX12_init 624 = .ok (.putfield 74, 3) := by decide +kernel
theorem dX12_init_627 : decode cX12_init 627 = .ok (.aload_n 0, 1) := by decide +kernel
theorem dX12_init_628 : decode cX12_init 628 = .ok (.iconst 2, 1) := by decide +kernel
theorem dX12_init_629 : decode cX12_init 629 = .ok (.newarray .boolean, 2) := by decide +kernel
theorem dX12_init_631 : decode cX12_init 631 = .ok (.putfield 77, 3) := by decide +kernel
theorem dX12_init_634 : decode cX12_init 634 = .ok (.aload_n 0, 1) := by decide +kernel
theorem dX12_init_635 : decode cX12_init 635 = .ok (.iconst 4, 1) := by decide +kernel
theorem dX12_init_636 : decode cX12_init 636 = .ok (.newarray .int, 2) := by decide +kernel
theorem dX12_init_638 : decode cX12_init 638 = .ok (.dup, 1) := by decide +kernel
theorem dX12_init_639 : decode cX12_init 639 = .ok (.iconst 0, 1) := by decide +kernel
theorem dX12_init_640 : decode cX12_init 640 = .ok (.bipush (-4), 2) := by decide +kernel
theorem dX12_init_642 : decode cX12_init 642 = .ok (.iastore, 1) := by decide +kernel
theorem dX12_init_643 : decode cX12_init 643 = .ok (.dup, 1) := by decide +kernel
theorem dX12_init_644 : decode cX12_init 644 = .ok (.iconst 1, 1) := by decide +kernel
theorem dX12_init_645 : decode cX12_init 645 = .ok (.bipush (-4), 2) := by decide +kernel
theorem dX12_init_647 : decode cX12_init 647 = .ok (.iastore, 1) := by decide +kernel
theorem dX12_init_648 : decode cX12_init 648 = .ok (.dup, 1) := by decide +kernel
theorem dX12_init_649 : decode cX12_init 649 = .ok (.iconst 2, 1) := by decide +kernel
theorem dX12_init_650 : decode cX12_init 650 = .ok (.bipush (-4), 2) := by decide +kernel
theorem dX12_init_652 : decode cX12_init 652 = .ok (.iastore, 1) := by decide +kernel
theorem dX12_init_653 : decode cX12_init 653 = .ok (.dup, 1) := by decide +kernel
theorem dX12_init_654 : decode cX12_init 654 = .ok (.iconst 3, 1) := by decide +kernel
theorem dX12_init_655 : decode cX12_init 655 = .ok (.bipush (-4), 2) := by decide +kernel
theorem dX12_init_657 : decode cX12_init 657 = .ok (.iastore, 1) := by decide +kernel
theorem dX12_init_658 : decode cX12_init 658 = .ok (.putfield 81, 3) := by decide +kernel
theorem dX12_init_661 : decode cX12_init 661 = .ok (.aload_n 0, 1) := by decide +kernel
theorem dX12_init_662 : decode cX12_init 662 = .ok (.iconst 4, 1) := by decide +kernel
theorem dX12_init_663 : decode cX12_init 663 = .ok (.newarray .int, 2) := by decide +kernel
theorem dX12_init_665 : decode cX12_init 665 = .ok (.putfield 84, 3) := by decide +kernel
theorem dX12_init_668 : decode cX12_init 668 = .ok (.aload_n 0, 1) := by decide +kernel
theorem dX12_init_669 : decode cX12_init 669 = .ok (.sipush 192, 3) := by decide +kernel
theorem dX12_init_672 : decode cX12_init 672 = .ok (.newarray .int, 2) := by decide +kernel
theorem dX12_init_674 : decode cX12_init 674 = .ok (.putfield 87, 3) := by decide +kernel
theorem dX12_init_677 : decode cX12_init 677 = .ok (.return_, 1) := by decide +kernel
theorem dX12_in_0 : decode cX12_in 0 = .ok (.lload_n 0, 1) := by decide +kernel
theorem dX12_in_1 : decode cX12_in 1 = .ok (.lload_n 2, 1) := by decide +kernel
theorem dX12_in_2 : decode cX12_in 2 = .ok (.lcmp, 1) := by decide +kernel
theorem dX12_in_3 : decode cX12_in 3 = .ok (.ifCond .lt 14, 3) := by decide +kernel
theorem dX12_in_6 : decode cX12_in 6 = .ok (.lload_n 0, 1) := by decide +kernel
theorem dX12_in_7 : decode cX12_in 7 = .ok (.lload 4, 2) := by decide +kernel
theorem dX12_in_9 : decode cX12_in 9 = .ok (.lcmp, 1) := by decide +kernel
theorem dX12_in_10 : decode cX12_in 10 = .ok (.ifCond .gt 7, 3) := by decide +kernel
theorem dX12_in_13 : decode cX12_in 13 = .ok (.iconst 1, 1) := by decide +kernel
theorem dX12_in_14 : decode cX12_in 14 = .ok (.goto 4, 3) := by decide +kernel
theorem dX12_in_17 : decode cX12_in 17 = .ok (.iconst 0, 1) := by decide +kernel
theorem dX12_in_18 : decode cX12_in 18 = .ok (.ireturn, 1) := by decide +kernel
theorem dX12_feed_0 : decode cX12_feed 0 = .ok (.aload_n 0, 1) := by decide +kernel
theorem dX12_feed_1 : decode cX12_feed 1 = .ok (.getfield 90, 3) := by decide +kernel
theorem dX12_feed_4 : decode cX12_feed 4 = .ok (.bipush 8, 2) := by decide +kernel
theorem dX12_feed_6 : decode cX12_feed 6 = .ok (.iadd, 1) := by decide +kernel
theorem dX12_feed_7 : decode cX12_feed 7 = .ok (.sipush 320, 3) := by decide +kernel
theorem dX12_feed_10 : decode cX12_feed 10 = .ok (.if_icmp .le 6, 3) := by decide +kernel
theorem dX12_feed_13 : decode cX12_feed 13 = .ok (.bipush (-3), 2) := by decide +kernel
theorem dX12_feed_15 : decode cX12_feed 15 = .ok (.ireturn, 1) := by decide +kernel
theorem dX12_feed_16 : decode cX12_feed 16 = .ok (.bipush 56, 2) := by decide +kernel
theorem dX12_feed_18 : decode cX12_feed 18 = .ok (.istore_n 3, 1) := by decide +kernel
theorem dX12_feed_19 : decode cX12_feed 19 = .ok (.iload_n 3, 1) := by decide +kernel
theorem dX12_feed_20 : decode cX12_feed 20 = .ok (.ifCond .lt 36, 3) := by decide +kernel
theorem dX12_feed_23 : decode cX12_feed 23 = .ok (.aload_n 0, 1) := by decide +kernel
theorem dX12_feed_24 : decode cX12_feed 24 = .ok (.getfield 7, 3) := by decide +kernel
theorem dX12_feed_27 : decode cX12_feed 27 = .ok (.aload_n 0, 1) := by decide +kernel
theorem dX12_feed_28 : decode cX12_feed 28 = .ok (.getfield 90, 3) := by decide +kernel
theorem dX12_feed_31 : decode cX12_feed 31 = .ok (.lload_n 1, 1) := by decide +kernel
theorem dX12_feed_32 : decode cX12_feed 32 = .ok (.iload_n 3, 1) := by decide +kernel
theorem dX12_feed_33 : decode cX12_feed 33 = .ok (.lshr, 1) := by decide +kernel
theorem dX12_feed_34 : decode cX12_feed 34 = .ok (.l2i, 1) := by decide +kernel
theorem dX12_feed_35 : decode cX12_feed 35 = .ok (.sipush 255, 3) := by decide +kernel
theorem dX12_feed_38 : decode cX12_feed 38 = .ok (.iand, 1) := by decide +kernel
theorem dX12_feed_39 : decode cX12_feed 39 = .ok (.iastore, 1) := by decide +kernel
theorem dX12_feed_40 : decode cX12_feed 40 = .ok (.aload_n 0, 1) := by decide +kernel
theorem dX12_feed_41 : decode cX12_feed 41 = .ok (.dup, 1) := by decide +kernel
theorem dX12_feed_42 : decode cX12_feed 42 = .ok (.getfield 90, 3) := by decide +kernel
theorem dX12_feed_45 : decode cX12_feed 45 = .ok (.iconst 1, 1) := by decide +kernel
theorem dX12_feed_46 : decode cX12_feed 46 = .ok (.iadd, 1) := by decide +kernel
theorem dX12_feed_47 : decode cX12_feed 47 = .ok (.putfield 90, 3) := by decide +kernel
theorem dX12_feed_50 : decode cX12_feed 50 = .ok (.iinc 3 (-8), 3) := by decide +kernel
theorem dX12_feed_53 : decode cX12_feed 53 = .ok (.goto (-34), 3) := by decide +kernel
theorem dX12_feed_56 : decode cX12_feed 56 = .ok (.aload_n 0, 1) := by decide +kernel
theorem dX12_feed_57 : decode cX12_feed 57 = .ok (.getfield 90, 3) := by decide +kernel
theorem dX12_feed_60 : decode cX12_feed 60 = .ok (.ireturn, 1) := by decide +kernel
theorem dX12_end_0 : decode cX12_end 0 = .ok (.iload_n 1, 1) := by decide +kernel
theorem dX12_end_1 : decode cX12_end 1 = .ok (.i2l, 1) := by decide +kernel
theorem dX12_end_2 : decode cX12_end 2 = .ok (.lconst 0, 1) := by decide +kernel
theorem dX12_end_3 : decode cX12_end 3 = .ok (.aload_n 0, 1) := by decide +kernel
theorem dX12_end_4 : decode cX12_end 4 = .ok (.getfield 90, 3) := by decide +kernel
theorem dX12_end_7 : decode cX12_end 7 = .ok (.i2l, 1) := by decide +kernel
theorem dX12_end_8 : decode cX12_end 8 = .ok (.invokestatic 94, 3) := by decide +kernel
theorem dX12_end_11 : decode cX12_end 11 = .ok (.ifCond .ne 5, 3) := by decide +kernel
theorem dX12_end_14 : decode cX12_end 14 = .ok (.iconst (-1), 1) := by decide +kernel
theorem dX12_end_15 : decode cX12_end 15 = .ok (.ireturn, 1) := by decide +kernel
theorem dX12_end_16 : decode cX12_end 16 = .ok (.aload_n 0, 1) := by decide +kernel
theorem dX12_end_17 : decode cX12_end 17 = .ok (.getfield 90, 3) := by decide +kernel
theorem dX12_end_20 : decode cX12_end 20 = .ok (.istore_n 2, 1) := by decide +kernel
theorem dX12_end_21 : decode cX12_end 21 = .ok (.aload_n 0, 1) := by decide +kernel
theorem dX12_end_22 : decode cX12_end 22 = .ok (.iload_n 1, 1) := by decide +kernel
theorem dX12_end_23 : decode cX12_end 23 = .ok (.putfield 90, 3) := by decide +kernel
theorem dX12_end_26 : decode cX12_end 26 = .ok (.iload_n 2, 1) := by decide +kernel
theorem dX12_end_27 : decode cX12_end 27 = .ok (.ireturn, 1) := by decide +kernel
theorem dX12_byteAt_0 : decode cX12_byteAt 0 = .ok (.iload_n 1, 1) := by decide +kernel
theorem dX12_byteAt_1 : decode cX12_byteAt 1 = .ok (.aload_n 0, 1) := by decide +kernel
theorem dX12_byteAt_2 : decode cX12_byteAt 2 = .ok (.getfield 90, 3) := by decide +kernel
theorem dX12_byteAt_5 : decode cX12_byteAt 5 = .ok (.if_icmp .ge 12, 3) := by decide +kernel
theorem dX12_byteAt_8 : decode cX12_byteAt 8 = .ok (.aload_n 0, 1) := by decide +kernel
theorem dX12_byteAt_9 : decode cX12_byteAt 9 = .ok (.getfield 7, 3) := by decide +kernel
theorem dX12_byteAt_12 : decode cX12_byteAt 12 = .ok (.iload_n 1, 1) := by decide +kernel
theorem dX12_byteAt_13 : decode cX12_byteAt 13 = .ok (.iaload, 1) := by decide +kernel
theorem dX12_byteAt_14 : decode cX12_byteAt 14 = .ok (.goto 5, 3) := by decide +kernel
theorem dX12_byteAt_17 : decode cX12_byteAt 17 = .ok (.bipush (-4), 2) := by decide +kernel
theorem dX12_byteAt_19 : decode cX12_byteAt 19 = .ok (.ireturn, 1) := by decide +kernel
theorem dX12_fails_0 : decode cX12_fails 0 = .ok (.aload_n 0, 1) := by decide +kernel
theorem dX12_fails_1 : decode cX12_fails 1 = .ok (.getfield 98, 3) := by decide +kernel
theorem dX12_fails_4 : decode cX12_fails 4 = .ok (.ifCond .ne 16, 3) := by decide +kernel
theorem dX12_fails_7 : decode cX12_fails 7 = .ok (.aload_n 0, 1) := by decide +kernel
theorem dX12_fails_8 : decode cX12_fails 8 = .ok (.iload_n 1, 1) := by decide +kernel
theorem dX12_fails_9 : decode cX12_fails 9 = .ok (.putfield 98, 3) := by decide +kernel
theorem dX12_fails_12 : decode cX12_fails 12 = .ok (.aload_n 0, 1) := by decide +kernel
theorem dX12_fails_13 : decode cX12_fails 13 = .ok (.aload_n 0, 1) := by decide +kernel
theorem dX12_fails_14 : decode cX12_fails 14 = .ok (.getfield 101, 3) := by decide +kernel
theorem dX12_fails_17 : decode cX12_fails 17 = .ok (.putfield 104, 3) := by decide +kernel
theorem dX12_fails_20 : decode cX12_fails 20 = .ok (.return_, 1) := by decide +kernel
theorem dX12_nameHere_0 : decode cX12_nameHere 0 = .ok (.iconst 0, 1) := by decide +kernel
theorem dX12_nameHere_1 : decode cX12_nameHere 1 = .ok (.istore_n 1, 1) := by decide +kernel
theorem dX12_nameHere_2 : decode cX12_nameHere 2 = .ok (.iload_n 1, 1) := by decide +kernel
theorem dX12_nameHere_3 : decode cX12_nameHere 3 = .ok (.bipush 10, 2) := by decide +kernel
theorem dX12_nameHere_5 : decode cX12_nameHere 5 = .ok (.if_icmp .ge 113, 3) := by decide +kernel
theorem dX12_nameHere_8 : decode cX12_nameHere 8 = .ok (.aload_n 0, 1) := by decide +kernel
theorem dX12_nameHere_9 : decode cX12_nameHere 9 = .ok (.getfield 107, 3) := by decide +kernel
theorem dX12_nameHere_12 : decode cX12_nameHere 12 = .ok (.iconst 1, 1) := by decide +kernel
theorem dX12_nameHere_13 : decode cX12_nameHere 13 = .ok (.if_icmp .ne 105, 3) := by decide +kernel
theorem dX12_nameHere_16 : decode cX12_nameHere 16 = .ok (.aload_n 0, 1) := by decide +kernel
theorem dX12_nameHere_17 : decode cX12_nameHere 17 = .ok (.getfield 110, 3) := by decide +kernel
theorem dX12_nameHere_20 : decode cX12_nameHere 20 = .ok (.aload_n 0, 1) := by decide +kernel
theorem dX12_nameHere_21 : decode cX12_nameHere 21 = .ok (.getfield 101, 3) := by decide +kernel
theorem dX12_nameHere_24 : decode cX12_nameHere 24 = .ok (.isub, 1) := by decide +kernel
theorem dX12_nameHere_25 : decode cX12_nameHere 25 = .ok (.aload_n 0, 1) := by decide +kernel
theorem dX12_nameHere_26 : decode cX12_nameHere 26 = .ok (.getfield 13, 3) := by decide +kernel
theorem dX12_nameHere_29 : decode cX12_nameHere 29 = .ok (.iload_n 1, 1) := by decide +kernel
theorem dX12_nameHere_30 : decode cX12_nameHere 30 = .ok (.iconst 1, 1) := by decide +kernel
theorem dX12_nameHere_31 : decode cX12_nameHere 31 = .ok (.iadd, 1) := by decide +kernel
theorem dX12_nameHere_32 : decode cX12_nameHere 32 = .ok (.iaload, 1) := by decide +kernel
theorem dX12_nameHere_33 : decode cX12_nameHere 33 = .ok (.aload_n 0, 1) := by decide +kernel
theorem dX12_nameHere_34 : decode cX12_nameHere 34 = .ok (.getfield 13, 3) := by decide +kernel
theorem dX12_nameHere_37 : decode cX12_nameHere 37 = .ok (.iload_n 1, 1) := by decide +kernel
theorem dX12_nameHere_38 : decode cX12_nameHere 38 = .ok (.iaload, 1) := by decide +kernel
theorem dX12_nameHere_39 : decode cX12_nameHere 39 = .ok (.isub, 1) := by decide +kernel
theorem dX12_nameHere_40 : decode cX12_nameHere 40 = .ok (.if_icmp .ne 7, 3) := by decide +kernel
theorem dX12_nameHere_43 : decode cX12_nameHere 43 = .ok (.iconst 1, 1) := by decide +kernel
theorem dX12_nameHere_44 : decode cX12_nameHere 44 = .ok (.goto 4, 3) := by decide +kernel
theorem dX12_nameHere_47 : decode cX12_nameHere 47 = .ok (.iconst 0, 1) := by decide +kernel
theorem dX12_nameHere_48 : decode cX12_nameHere 48 = .ok (.istore_n 2, 1) := by decide +kernel
theorem dX12_nameHere_49 : decode cX12_nameHere 49 = .ok (.iconst 0, 1) := by decide +kernel
theorem dX12_nameHere_50 : decode cX12_nameHere 50 = .ok (.istore_n 3, 1) := by decide +kernel
theorem dX12_nameHere_51 : decode cX12_nameHere 51 = .ok (.iload_n 2, 1) := by decide +kernel
theorem dX12_nameHere_52 : decode cX12_nameHere 52 = .ok (.ifCond .eq 54, 3) := by decide +kernel
theorem dX12_nameHere_55 : decode cX12_nameHere 55 = .ok (.iload_n 3, 1) := by decide +kernel
theorem dX12_nameHere_56 : decode cX12_nameHere 56 = .ok (.aload_n 0, 1) := by decide +kernel
theorem dX12_nameHere_57 : decode cX12_nameHere 57 = .ok (.getfield 110, 3) := by decide +kernel
theorem dX12_nameHere_60 : decode cX12_nameHere 60 = .ok (.aload_n 0, 1) := by decide +kernel
theorem dX12_nameHere_61 : decode cX12_nameHere 61 = .ok (.getfield 101, 3) := by decide +kernel
theorem dX12_nameHere_64 : decode cX12_nameHere 64 = .ok (.isub, 1) := by decide +kernel
theorem dX12_nameHere_65 : decode cX12_nameHere 65 = .ok (.if_icmp .ge 41, 3) := by decide +kernel
theorem dX12_nameHere_68 : decode cX12_nameHere 68 = .ok (.aload_n 0, 1) := by decide +kernel
theorem dX12_nameHere_69 : decode cX12_nameHere 69 = .ok (.aload_n 0, 1) := by decide +kernel
theorem dX12_nameHere_70 : decode cX12_nameHere 70 = .ok (.getfield 101, 3) := by decide +kernel
theorem dX12_nameHere_73 : decode cX12_nameHere 73 = .ok (.iload_n 3, 1) := by decide +kernel
theorem dX12_nameHere_74 : decode cX12_nameHere 74 = .ok (.iadd, 1) := by decide +kernel
theorem dX12_nameHere_75 : decode cX12_nameHere 75 = .ok (.invokevirtual 113, 3) := by decide +kernel
theorem dX12_nameHere_78 : decode cX12_nameHere 78 = .ok (.aload_n 0, 1) := by decide +kernel
theorem dX12_nameHere_79 : decode cX12_nameHere 79 = .ok (.getfield 16, 3) := by decide +kernel
theorem dX12_nameHere_82 : decode cX12_nameHere 82 = .ok (.aload_n 0, 1) := by decide +kernel
theorem dX12_nameHere_83 : decode cX12_nameHere 83 = .ok (.getfield 13, 3) := by decide +kernel
theorem dX12_nameHere_86 : decode cX12_nameHere 86 = .ok (.iload_n 1, 1) := by decide +kernel
theorem dX12_nameHere_87 : decode cX12_nameHere 87 = .ok (.iaload, 1) := by decide +kernel
theorem dX12_nameHere_88 : decode cX12_nameHere 88 = .ok (.iload_n 3, 1) := by decide +kernel
theorem dX12_nameHere_89 : decode cX12_nameHere 89 = .ok (.iadd, 1) := by decide +kernel
theorem dX12_nameHere_90 : decode cX12_nameHere 90 = .ok (.iaload, 1) := by decide +kernel
theorem dX12_nameHere_91 : decode cX12_nameHere 91 = .ok (.if_icmp .ne 7, 3) := by decide +kernel
theorem dX12_nameHere_94 : decode cX12_nameHere 94 = .ok (.iconst 1, 1) := by decide +kernel
theorem dX12_nameHere_95 : decode cX12_nameHere 95 = .ok (.goto 4, 3) := by decide +kernel
theorem dX12_nameHere_98 : decode cX12_nameHere 98 = .ok (.iconst 0, 1) := by decide +kernel
theorem dX12_nameHere_99 : decode cX12_nameHere 99 = .ok (.istore_n 2, 1) := by decide +kernel
theorem dX12_nameHere_100 : decode cX12_nameHere 100 = .ok (.iinc 3 1, 3) := by decide +kernel
theorem dX12_nameHere_103 : decode cX12_nameHere 103 = .ok (.goto (-52), 3) := by decide +kernel
theorem dX12_nameHere_106 : decode cX12_nameHere 106 = .ok (.iload_n 2, 1) := by decide +kernel
theorem dX12_nameHere_107 : decode cX12_nameHere 107 = .ok (.ifCond .eq 5, 3) := by decide +kernel
theorem dX12_nameHere_110 : decode cX12_nameHere 110 = .ok (.iload_n 1, 1) := by decide +kernel
theorem dX12_nameHere_111 : decode cX12_nameHere 111 = .ok (.ireturn, 1) := by decide +kernel
theorem dX12_nameHere_112 : decode cX12_nameHere 112 = .ok (.iinc 1 1, 3) := by decide +kernel
theorem dX12_nameHere_115 : decode cX12_nameHere 115 = .ok (.goto (-113), 3) := by decide +kernel
theorem dX12_nameHere_118 : decode cX12_nameHere 118 = .ok (.bipush (-4), 2) := by decide +kernel
theorem dX12_nameHere_120 : decode cX12_nameHere 120 = .ok (.ireturn, 1) := by decide +kernel
theorem dX12_next_0 : decode cX12_next 0 = .ok (.aload_n 0, 1) := by decide +kernel
theorem dX12_next_1 : decode cX12_next 1 = .ok (.getfield 98, 3) := by decide +kernel
theorem dX12_next_4 : decode cX12_next 4 = .ok (.ifCond .le 4, 3) := by decide +kernel
theorem dX12_next_7 : decode cX12_next 7 = .ok (.return_, 1) := by decide +kernel
theorem dX12_next_8 : decode cX12_next 8 = .ok (.aload_n 0, 1) := by decide +kernel
theorem dX12_next_9 : decode cX12_next 9 = .ok (.aload_n 0, 1) := by decide +kernel
theorem dX12_next_10 : decode cX12_next 10 = .ok (.getfield 110, 3) := by decide +kernel
theorem dX12_next_13 : decode cX12_next 13 = .ok (.invokevirtual 113, 3) := by decide +kernel
theorem dX12_next_16 : decode cX12_next 16 = .ok (.bipush 32, 2) := by decide +kernel
theorem dX12_next_18 : decode cX12_next 18 = .ok (.if_icmp .ne 16, 3) := by decide +kernel
theorem dX12_next_21 : decode cX12_next 21 = .ok (.aload_n 0, 1) := by decide +kernel
theorem dX12_next_22 : decode cX12_next 22 = .ok (.dup, 1) := by decide +kernel
theorem dX12_next_23 : decode cX12_next 23 = .ok (.getfield 110, 3) := by decide +kernel
theorem dX12_next_26 : decode cX12_next 26 = .ok (.iconst 1, 1) := by decide +kernel
theorem dX12_next_27 : decode cX12_next 27 = .ok (.iadd, 1) := by decide +kernel
theorem dX12_next_28 : decode cX12_next 28 = .ok (.putfield 110, 3) := by decide +kernel
theorem dX12_next_31 : decode cX12_next 31 = .ok (.goto (-23), 3) := by decide +kernel
theorem dX12_next_34 : decode cX12_next 34 = .ok (.aload_n 0, 1) := by decide +kernel
theorem dX12_next_35 : decode cX12_next 35 = .ok (.aload_n 0, 1) := by decide +kernel
theorem dX12_next_36 : decode cX12_next 36 = .ok (.getfield 110, 3) := by decide +kernel
theorem dX12_next_39 : decode cX12_next 39 = .ok (.putfield 101, 3) := by decide +kernel
theorem dX12_next_42 : decode cX12_next 42 = .ok (.aload_n 0, 1) := by decide +kernel
theorem dX12_next_43 : decode cX12_next 43 = .ok (.aload_n 0, 1) := by decide +kernel
theorem dX12_next_44 : decode cX12_next 44 = .ok (.getfield 110, 3) := by decide +kernel
theorem dX12_next_47 : decode cX12_next 47 = .ok (.invokevirtual 113, 3) := by decide +kernel
theorem dX12_next_50 : decode cX12_next 50 = .ok (.istore_n 1, 1) := by decide +kernel
theorem dX12_next_51 : decode cX12_next 51 = .ok (.aload_n 0, 1) := by decide +kernel
theorem dX12_next_52 : decode cX12_next 52 = .ok (.iconst 0, 1) := by decide +kernel
theorem dX12_next_53 : decode cX12_next 53 = .ok (.putfield 117, 3) := by decide +kernel
theorem dX12_next_56 : decode cX12_next 56 = .ok (.iload_n 1, 1) := by decide +kernel
theorem dX12_next_57 : decode cX12_next 57 = .ok (.bipush (-4), 2) := by decide +kernel
theorem dX12_next_59 : decode cX12_next 59 = .ok (.if_icmp .ne 11, 3) := by decide +kernel
theorem dX12_next_62 : decode cX12_next 62 = .ok (.aload_n 0, 1) := by decide +kernel
theorem dX12_next_63 : decode cX12_next 63 = .ok (.iconst 0, 1) := by decide +kernel
theorem dX12_next_64 : decode cX12_next 64 = .ok (.putfield 107, 3) := by decide +kernel
theorem dX12_next_67 : decode cX12_next 67 = .ok (.goto 202, 3) := by decide +kernel
theorem dX12_next_70 : decode cX12_next 70 = .ok (.iload_n 1, 1) := by decide +kernel
theorem dX12_next_71 : decode cX12_next 71 = .ok (.i2l, 1) := by decide +kernel
theorem dX12_next_72 : decode cX12_next 72 = .ok (.ldc2_w 120, 3) := by decide +kernel
theorem dX12_next_75 : decode cX12_next 75 = .ok (.ldc2_w 122, 3) := by decide +kernel
theorem dX12_next_78 : decode cX12_next 78 = .ok (.invokestatic 94, 3) := by decide +kernel
theorem dX12_next_81 : decode cX12_next 81 = .ok (.ifCond .eq 45, 3) := by decide +kernel
theorem dX12_next_84 : decode cX12_next 84 = .ok (.aload_n 0, 1) := by decide +kernel
theorem dX12_next_85 : decode cX12_next 85 = .ok (.aload_n 0, 1) := by decide +kernel
theorem dX12_next_86 : decode cX12_next 86 = .ok (.getfield 110, 3) := by decide +kernel
theorem dX12_next_89 : decode cX12_next 89 = .ok (.invokevirtual 113, 3) := by decide +kernel
theorem dX12_next_92 : decode cX12_next 92 = .ok (.i2l, 1) := by decide +kernel
theorem dX12_next_93 : decode cX12_next 93 = .ok (.ldc2_w 120, 3) := by decide +kernel
theorem dX12_next_96 : decode cX12_next 96 = .ok (.ldc2_w 122, 3) := by decide +kernel
theorem dX12_next_99 : decode cX12_next 99 = .ok (.invokestatic 94, 3) := by decide +kernel
theorem dX12_next_102 : decode cX12_next 102 = .ok (.ifCond .eq 16, 3) := by decide +kernel
theorem dX12_next_105 : decode cX12_next 105 = .ok (.aload_n 0, 1) := by decide +kernel
theorem dX12_next_106 : decode cX12_next 106 = .ok (.dup, 1) := by decide +kernel
theorem dX12_next_107 : decode cX12_next 107 = .ok (.getfield 110, 3) := by decide +kernel
theorem dX12_next_110 : decode cX12_next 110 = .ok (.iconst 1, 1) := by decide +kernel
theorem dX12_next_111 : decode cX12_next 111 = .ok (.iadd, 1) := by decide +kernel
theorem dX12_next_112 : decode cX12_next 112 = .ok (.putfield 110, 3) := by decide +kernel
theorem dX12_next_115 : decode cX12_next 115 = .ok (.goto (-31), 3) := by decide +kernel
theorem dX12_next_118 : decode cX12_next 118 = .ok (.aload_n 0, 1) := by decide +kernel
theorem dX12_next_119 : decode cX12_next 119 = .ok (.iconst 1, 1) := by decide +kernel
theorem dX12_next_120 : decode cX12_next 120 = .ok (.putfield 107, 3) := by decide +kernel
theorem dX12_next_123 : decode cX12_next 123 = .ok (.goto 146, 3) := by decide +kernel
theorem dX12_next_126 : decode cX12_next 126 = .ok (.iload_n 1, 1) := by decide +kernel
theorem dX12_next_127 : decode cX12_next 127 = .ok (.i2l, 1) := by decide +kernel
theorem dX12_next_128 : decode cX12_next 128 = .ok (.ldc2_w 124, 3) := by decide +kernel
theorem dX12_next_131 : decode cX12_next 131 = .ok (.ldc2_w 126, 3) := by decide +kernel
theorem dX12_next_134 : decode cX12_next 134 = .ok (.invokestatic 94, 3) := by decide +kernel
theorem dX12_next_137 : decode cX12_next 137 = .ok (.ifCond .eq 106, 3) := by decide +kernel
theorem dX12_next_140 : decode cX12_next 140 = .ok (.aload_n 0, 1) := by decide +kernel
theorem dX12_next_141 : decode cX12_next 141 = .ok (.aload_n 0, 1) := by decide +kernel
theorem dX12_next_142 : decode cX12_next 142 = .ok (.getfield 110, 3) := by decide +kernel
theorem dX12_next_145 : decode cX12_next 145 = .ok (.invokevirtual 113, 3) := by decide +kernel
theorem dX12_next_148 : decode cX12_next 148 = .ok (.i2l, 1) := by decide +kernel
theorem dX12_next_149 : decode cX12_next 149 = .ok (.ldc2_w 124, 3) := by decide +kernel
theorem dX12_next_152 : decode cX12_next 152 = .ok (.ldc2_w 126, 3) := by decide +kernel
theorem dX12_next_155 : decode cX12_next 155 = .ok (.invokestatic 94, 3) := by decide +kernel
theorem dX12_next_158 : decode cX12_next 158 = .ok (.ifCond .eq 59, 3) := by decide +kernel
theorem dX12_next_161 : decode cX12_next 161 = .ok (.aload_n 0, 1) := by decide +kernel
theorem dX12_next_162 : decode cX12_next 162 = .ok (.aload_n 0, 1) := by decide +kernel
theorem dX12_next_163 : decode cX12_next 163 = .ok (.getfield 110, 3) := by decide +kernel
theorem dX12_next_166 : decode cX12_next 166 = .ok (.aload_n 0, 1) := by decide +kernel
theorem dX12_next_167 : decode cX12_next 167 = .ok (.getfield 101, 3) := by decide +kernel
theorem dX12_next_170 : decode cX12_next 170 = .ok (.isub, 1) := by decide +kernel
theorem dX12_next_171 : decode cX12_next 171 = .ok (.iconst 3, 1) := by decide +kernel
theorem dX12_next_172 : decode cX12_next 172 = .ok (.if_icmp .ge 25, 3) := by decide +kernel
theorem dX12_next_175 : decode cX12_next 175 = .ok (.bipush 10, 2) := by decide +kernel
theorem dX12_next_177 : decode cX12_next 177 = .ok (.aload_n 0, 1) := by decide +kernel
theorem dX12_next_178 : decode cX12_next 178 = .ok (.getfield 117, 3) := by decide +kernel
theorem dX12_next_181 : decode cX12_next 181 = .ok (.imul, 1) := by decide +kernel
theorem dX12_next_182 : decode cX12_next 182 = .ok (.aload_n 0, 1) := by decide +kernel
theorem dX12_next_183 : decode cX12_next 183 = .ok (.aload_n 0, 1) := by decide +kernel
theorem dX12_next_184 : decode cX12_next 184 = .ok (.getfield 110, 3) := by decide +kernel
theorem dX12_next_187 : decode cX12_next 187 = .ok (.invokevirtual 113, 3) := by decide +kernel
theorem dX12_next_190 : decode cX12_next 190 = .ok (.iadd, 1) := by decide +kernel
theorem dX12_next_191 : decode cX12_next 191 = .ok (.bipush 48, 2) := by decide +kernel
theorem dX12_next_193 : decode cX12_next 193 = .ok (.isub, 1) := by decide +kernel
theorem dX12_next_194 : decode cX12_next 194 = .ok (.goto 7, 3) := by decide +kernel
theorem dX12_next_197 : decode cX12_next 197 = .ok (.aload_n 0, 1) := by decide +kernel
theorem dX12_next_198 : decode cX12_next 198 = .ok (.getfield 117, 3) := by decide +kernel
theorem dX12_next_201 : decode cX12_next 201 = .ok (.putfield 117, 3) := by decide +kernel
theorem dX12_next_204 : decode cX12_next 204 = .ok (.aload_n 0, 1) := by decide +kernel
theorem dX12_next_205 : decode cX12_next 205 = .ok (.dup, 1) := by decide +kernel
theorem dX12_next_206 : decode cX12_next 206 = .ok (.getfield 110, 3) := by decide +kernel
theorem dX12_next_209 : decode cX12_next 209 = .ok (.iconst 1, 1) := by decide +kernel
theorem dX12_next_210 : decode cX12_next 210 = .ok (.iadd, 1) := by decide +kernel
theorem dX12_next_211 : decode cX12_next 211 = .ok (.putfield 110, 3) := by decide +kernel
theorem dX12_next_214 : decode cX12_next 214 = .ok (.goto (-74), 3) := by decide +kernel
theorem dX12_next_217 : decode cX12_next 217 = .ok (.aload_n 0, 1) := by decide +kernel
theorem dX12_next_218 : decode cX12_next 218 = .ok (.iconst 2, 1) := by decide +kernel
theorem dX12_next_219 : decode cX12_next 219 = .ok (.putfield 107, 3) := by decide +kernel
theorem dX12_next_222 : decode cX12_next 222 = .ok (.aload_n 0, 1) := by decide +kernel
theorem dX12_next_223 : decode cX12_next 223 = .ok (.getfield 110, 3) := by decide +kernel
theorem dX12_next_226 : decode cX12_next 226 = .ok (.aload_n 0, 1) := by decide +kernel
theorem dX12_next_227 : decode cX12_next 227 = .ok (.getfield 101, 3) := by decide +kernel
theorem dX12_next_230 : decode cX12_next 230 = .ok (.isub, 1) := by decide +kernel
theorem dX12_next_231 : decode cX12_next 231 = .ok (.iconst 3, 1) := by decide +kernel
theorem dX12_next_232 : decode cX12_next 232 = .ok (.if_icmp .le 37, 3) := by decide +kernel
theorem dX12_next_235 : decode cX12_next 235 = .ok (.aload_n 0, 1) := by decide +kernel
theorem dX12_next_236 : decode cX12_next 236 = .ok (.iconst 1, 1) := by decide +kernel
theorem dX12_next_237 : decode cX12_next 237 = .ok (.invokevirtual 128, 3) := by decide +kernel
theorem dX12_next_240 : decode cX12_next 240 = .ok (.goto 29, 3) := by decide +kernel
theorem dX12_next_243 : decode cX12_next 243 = .ok (.aload_n 0, 1) := by decide +kernel
theorem dX12_next_244 : decode cX12_next 244 = .ok (.iconst 3, 1) := by decide +kernel
theorem dX12_next_245 : decode cX12_next 245 = .ok (.putfield 107, 3) := by decide +kernel
theorem dX12_next_248 : decode cX12_next 248 = .ok (.aload_n 0, 1) := by decide +kernel
theorem dX12_next_249 : decode cX12_next 249 = .ok (.dup, 1) := by decide +kernel
theorem dX12_next_250 : decode cX12_next 250 = .ok (.getfield 110, 3) := by decide +kernel
theorem dX12_next_253 : decode cX12_next 253 = .ok (.iconst 1, 1) := by decide +kernel
theorem dX12_next_254 : decode cX12_next 254 = .ok (.iadd, 1) := by decide +kernel
theorem dX12_next_255 : decode cX12_next 255 = .ok (.putfield 110, 3) := by decide +kernel
theorem dX12_next_258 : decode cX12_next 258 = .ok (.iload_n 1, 1) := by decide +kernel
theorem dX12_next_259 : decode cX12_next 259 = .ok (.bipush 59, 2) := by decide +kernel
theorem dX12_next_261 : decode cX12_next 261 = .ok (.if_icmp .eq 8, 3) := by decide +kernel
theorem dX12_next_264 : decode cX12_next 264 = .ok (.aload_n 0, 1) := by decide +kernel
theorem dX12_next_265 : decode cX12_next 265 = .ok (.iconst 1, 1) := by decide +kernel
theorem dX12_next_266 : decode cX12_next 266 = .ok (.invokevirtual 128, 3) := by decide +kernel
theorem dX12_next_269 : decode cX12_next 269 = .ok (.return_, 1) := by decide +kernel
theorem dX12_here_0 : decode cX12_here 0 = .ok (.aload_n 0, 1) := by decide +kernel
theorem dX12_here_1 : decode cX12_here 1 = .ok (.getfield 98, 3) := by decide +kernel
theorem dX12_here_4 : decode cX12_here 4 = .ok (.ifCond .ne 16, 3) := by decide +kernel
theorem dX12_here_7 : decode cX12_here 7 = .ok (.aload_n 0, 1) := by decide +kernel
theorem dX12_here_8 : decode cX12_here 8 = .ok (.getfield 107, 3) := by decide +kernel
theorem dX12_here_11 : decode cX12_here 11 = .ok (.iconst 2, 1) := by decide +kernel
theorem dX12_here_12 : decode cX12_here 12 = .ok (.if_icmp .eq 8, 3) := by decide +kernel
theorem dX12_here_15 : decode cX12_here 15 = .ok (.aload_n 0, 1) := by decide +kernel
theorem dX12_here_16 : decode cX12_here 16 = .ok (.iconst 2, 1) := by decide +kernel
theorem dX12_here_17 : decode cX12_here 17 = .ok (.invokevirtual 128, 3) := by decide +kernel
theorem dX12_here_20 : decode cX12_here 20 = .ok (.aload_n 0, 1) := by decide +kernel
theorem dX12_here_21 : decode cX12_here 21 = .ok (.getfield 98, 3) := by decide +kernel
theorem dX12_here_24 : decode cX12_here 24 = .ok (.ifCond .ne 23, 3) := by decide +kernel
theorem dX12_here_27 : decode cX12_here 27 = .ok (.aload_n 0, 1) := by decide +kernel
theorem dX12_here_28 : decode cX12_here 28 = .ok (.getfield 117, 3) := by decide +kernel
theorem dX12_here_31 : decode cX12_here 31 = .ok (.i2l, 1) := by decide +kernel
theorem dX12_here_32 : decode cX12_here 32 = .ok (.iload_n 1, 1) := by decide +kernel
theorem dX12_here_33 : decode cX12_here 33 = .ok (.i2l, 1) := by decide +kernel
theorem dX12_here_34 : decode cX12_here 34 = .ok (.iload_n 2, 1) := by decide +kernel
theorem dX12_here_35 : decode cX12_here 35 = .ok (.i2l, 1) := by decide +kernel
theorem dX12_here_36 : decode cX12_here 36 = .ok (.invokestatic 94, 3) := by decide +kernel
theorem dX12_here_39 : decode cX12_here 39 = .ok (.ifCond .ne 8, 3) := by decide +kernel
theorem dX12_here_42 : decode cX12_here 42 = .ok (.aload_n 0, 1) := by decide +kernel
theorem dX12_here_43 : decode cX12_here 43 = .ok (.iconst 3, 1) := by decide +kernel
theorem dX12_here_44 : decode cX12_here 44 = .ok (.invokevirtual 128, 3) := by decide +kernel
theorem dX12_here_47 : decode cX12_here 47 = .ok (.aload_n 0, 1) := by decide +kernel
theorem dX12_here_48 : decode cX12_here 48 = .ok (.getfield 98, 3) := by decide +kernel
theorem dX12_here_51 : decode cX12_here 51 = .ok (.ifCond .ne 10, 3) := by decide +kernel
theorem dX12_here_54 : decode cX12_here 54 = .ok (.aload_n 0, 1) := by decide +kernel
theorem dX12_here_55 : decode cX12_here 55 = .ok (.getfield 117, 3) := by decide +kernel
theorem dX12_here_58 : decode cX12_here 58 = .ok (.goto 4, 3) := by decide +kernel
theorem dX12_here_61 : decode cX12_here 61 = .ok (.iconst 0, 1) := by decide +kernel
theorem dX12_here_62 : decode cX12_here 62 = .ok (.ireturn, 1) := by decide +kernel
theorem dX12_kindOf_0 : decode cX12_kindOf 0 = .ok (.iload_n 0, 1) := by decide +kernel
theorem dX12_kindOf_1 : decode cX12_kindOf 1 = .ok (.lookupswitch 61 #[(98, 57), (103, 51), (104, 59), (108, 53), (120, 55)], 51) := by decide +kernel
theorem dX12_kindOf_52 : decode cX12_kindOf 52 = .ok (.iconst 0, 1) := by decide +kernel
theorem dX12_kindOf_53 : decode cX12_kindOf 53 = .ok (.ireturn, 1) := by decide +kernel
theorem dX12_kindOf_54 : decode cX12_kindOf 54 = .ok (.iconst 1, 1) := by decide +kernel
theorem dX12_kindOf_55 : decode cX12_kindOf 55 = .ok (.ireturn, 1) := by decide +kernel
theorem dX12_kindOf_56 : decode cX12_kindOf 56 = .ok (.iconst 2, 1) := by decide +kernel
theorem dX12_kindOf_57 : decode cX12_kindOf 57 = .ok (.ireturn, 1) := by decide +kernel
theorem dX12_kindOf_58 : decode cX12_kindOf 58 = .ok (.iconst 3, 1) := by decide +kernel
theorem dX12_kindOf_59 : decode cX12_kindOf 59 = .ok (.ireturn, 1) := by decide +kernel
theorem dX12_kindOf_60 : decode cX12_kindOf 60 = .ok (.iconst 4, 1) := by decide +kernel
theorem dX12_kindOf_61 : decode cX12_kindOf 61 = .ok (.ireturn, 1) := by decide +kernel
theorem dX12_kindOf_62 : decode cX12_kindOf 62 = .ok (.bipush (-4), 2) := by decide +kernel
theorem dX12_kindOf_64 : decode cX12_kindOf 64 = .ok (.ireturn, 1) := by decide +kernel
theorem dX12_readRow_0 : decode cX12_readRow 0 = .ok (.aload_n 0, 1) := by decide +kernel
theorem dX12_readRow_1 : decode cX12_readRow 1 = .ok (.getfield 132, 3) := by decide +kernel
theorem dX12_readRow_4 : decode cX12_readRow 4 = .ok (.bipush 6, 2) := by decide +kernel
theorem dX12_readRow_6 : decode cX12_readRow 6 = .ok (.if_icmp .ne 9, 3) := by decide +kernel
theorem dX12_readRow_9 : decode cX12_readRow 9 = .ok (.aload_n 0, 1) := by decide +kernel
theorem dX12_readRow_10 : decode cX12_readRow 10 = .ok (.iconst 5, 1) := by decide +kernel
theorem dX12_readRow_11 : decode cX12_readRow 11 = .ok (.invokevirtual 128, 3) := by decide +kernel
theorem dX12_readRow_14 : decode cX12_readRow 14 = .ok (.return_, 1) := by decide +kernel
theorem dX12_readRow_15 : decode cX12_readRow 15 = .ok (.aload_n 0, 1) := by decide +kernel
theorem dX12_readRow_16 : decode cX12_readRow 16 = .ok (.invokevirtual 135, 3) := by decide +kernel
theorem dX12_readRow_19 : decode cX12_readRow 19 = .ok (.aload_n 0, 1) := by decide +kernel
theorem dX12_readRow_20 : decode cX12_readRow 20 = .ok (.getfield 98, 3) := by decide +kernel
theorem dX12_readRow_23 : decode cX12_readRow 23 = .ok (.ifCond .ne 16, 3) := by decide +kernel
theorem dX12_readRow_26 : decode cX12_readRow 26 = .ok (.aload_n 0, 1) := by decide +kernel
theorem dX12_readRow_27 : decode cX12_readRow 27 = .ok (.getfield 107, 3) := by decide +kernel
theorem dX12_readRow_30 : decode cX12_readRow 30 = .ok (.iconst 1, 1) := by decide +kernel
theorem dX12_readRow_31 : decode cX12_readRow 31 = .ok (.if_icmp .eq 8, 3) := by decide +kernel
theorem dX12_readRow_34 : decode cX12_readRow 34 = .ok (.aload_n 0, 1) := by decide +kernel
theorem dX12_readRow_35 : decode cX12_readRow 35 = .ok (.iconst 2, 1) := by decide +kernel
theorem dX12_readRow_36 : decode cX12_readRow 36 = .ok (.invokevirtual 128, 3) := by decide +kernel
theorem dX12_readRow_39 : decode cX12_readRow 39 = .ok (.aload_n 0, 1) := by decide +kernel
theorem dX12_readRow_40 : decode cX12_readRow 40 = .ok (.getfield 110, 3) := by decide +kernel
theorem dX12_readRow_43 : decode cX12_readRow 43 = .ok (.aload_n 0, 1) := by decide +kernel
theorem dX12_readRow_44 : decode cX12_readRow 44 = .ok (.getfield 101, 3) := by decide +kernel
theorem dX12_readRow_47 : decode cX12_readRow 47 = .ok (.isub, 1) := by decide +kernel
theorem dX12_readRow_48 : decode cX12_readRow 48 = .ok (.bipush 6, 2) := by decide +kernel
theorem dX12_readRow_50 : decode cX12_readRow 50 = .ok (.if_icmp .ne 7, 3) := by decide +kernel
theorem dX12_readRow_53 : decode cX12_readRow 53 = .ok (.iconst 1, 1) := by decide +kernel
theorem dX12_readRow_54 : decode cX12_readRow 54 = .ok (.goto 4, 3) := by decide +kernel
theorem dX12_readRow_57 : decode cX12_readRow 57 = .ok (.iconst 0, 1) := by decide +kernel
theorem dX12_readRow_58 : decode cX12_readRow 58 = .ok (.istore_n 1, 1) := by decide +kernel
theorem dX12_readRow_59 : decode cX12_readRow 59 = .ok (.iconst 0, 1) := by decide +kernel
theorem dX12_readRow_60 : decode cX12_readRow 60 = .ok (.istore_n 2, 1) := by decide +kernel
theorem dX12_readRow_61 : decode cX12_readRow 61 = .ok (.iload_n 2, 1) := by decide +kernel
theorem dX12_readRow_62 : decode cX12_readRow 62 = .ok (.bipush 6, 2) := by decide +kernel
theorem dX12_readRow_64 : decode cX12_readRow 64 = .ok (.if_icmp .ge 61, 3) := by decide +kernel
theorem dX12_readRow_67 : decode cX12_readRow 67 = .ok (.iload_n 1, 1) := by decide +kernel
theorem dX12_readRow_68 : decode cX12_readRow 68 = .ok (.ifCond .eq 57, 3) := by decide +kernel
theorem dX12_readRow_71 : decode cX12_readRow 71 = .ok (.aload_n 0, 1) := by decide +kernel
theorem dX12_readRow_72 : decode cX12_readRow 72 = .ok (.getfield 98, 3) := by decide +kernel
theorem dX12_readRow_75 : decode cX12_readRow 75 = .ok (.ifCond .ne 50, 3) := by decide +kernel
theorem dX12_readRow_78 : decode cX12_readRow 78 = .ok (.aload_n 0, 1) := by decide +kernel
theorem dX12_readRow_79 : decode cX12_readRow 79 = .ok (.aload_n 0, 1) := by decide +kernel
theorem dX12_readRow_80 : decode cX12_readRow 80 = .ok (.getfield 101, 3) := by decide +kernel
theorem dX12_readRow_83 : decode cX12_readRow 83 = .ok (.iload_n 2, 1) := by decide +kernel
theorem dX12_readRow_84 : decode cX12_readRow 84 = .ok (.iadd, 1) := by decide +kernel
theorem dX12_readRow_85 : decode cX12_readRow 85 = .ok (.invokevirtual 113, 3) := by decide +kernel
theorem dX12_readRow_88 : decode cX12_readRow 88 = .ok (.invokestatic 138, 3) := by decide +kernel
theorem dX12_readRow_91 : decode cX12_readRow 91 = .ok (.istore_n 3, 1) := by decide +kernel
theorem dX12_readRow_92 : decode cX12_readRow 92 = .ok (.iload_n 3, 1) := by decide +kernel
theorem dX12_readRow_93 : decode cX12_readRow 93 = .ok (.bipush (-4), 2) := by decide +kernel
theorem dX12_readRow_95 : decode cX12_readRow 95 = .ok (.if_icmp .eq 7, 3) := by decide +kernel
theorem dX12_readRow_98 : decode cX12_readRow 98 = .ok (.iconst 1, 1) := by decide +kernel
theorem dX12_readRow_99 : decode cX12_readRow 99 = .ok (.goto 4, 3) := by decide +kernel
theorem dX12_readRow_102 : decode cX12_readRow 102 = .ok (.iconst 0, 1) := by decide +kernel
theorem dX12_readRow_103 : decode cX12_readRow 103 = .ok (.istore_n 1, 1) := by decide +kernel
theorem dX12_readRow_104 : decode cX12_readRow 104 = .ok (.aload_n 0, 1) := by decide +kernel
theorem dX12_readRow_105 : decode cX12_readRow 105 = .ok (.getfield 34, 3) := by decide +kernel
theorem dX12_readRow_108 : decode cX12_readRow 108 = .ok (.bipush 6, 2) := by decide +kernel
theorem dX12_readRow_110 : decode cX12_readRow 110 = .ok (.aload_n 0, 1) := by decide +kernel
theorem dX12_readRow_111 : decode cX12_readRow 111 = .ok (.getfield 132, 3) := by decide +kernel
theorem dX12_readRow_114 : decode cX12_readRow 114 = .ok (.imul, 1) := by decide +kernel
theorem dX12_readRow_115 : decode cX12_readRow 115 = .ok (.iload_n 2, 1) := by decide +kernel
theorem dX12_readRow_116 : decode cX12_readRow 116 = .ok (.iadd, 1) := by decide +kernel
theorem dX12_readRow_117 : decode cX12_readRow 117 = .ok (.iload_n 3, 1) := by decide +kernel
theorem dX12_readRow_118 : decode cX12_readRow 118 = .ok (.iastore, 1) := by decide +kernel
theorem dX12_readRow_119 : decode cX12_readRow 119 = .ok (.iinc 2 1, 3) := by decide +kernel
theorem dX12_readRow_122 : decode cX12_readRow 122 = .ok (.goto (-61), 3) := by decide +kernel
theorem dX12_readRow_125 : decode cX12_readRow 125 = .ok (.iload_n 1, 1) := by decide +kernel
theorem dX12_readRow_126 : decode cX12_readRow 126 = .ok (.ifCond .ne 8, 3) := by decide +kernel
theorem dX12_readRow_129 : decode cX12_readRow 129 = .ok (.aload_n 0, 1) := by decide +kernel
theorem dX12_readRow_130 : decode cX12_readRow 130 = .ok (.iconst 3, 1) := by decide +kernel
theorem dX12_readRow_131 : decode cX12_readRow 131 = .ok (.invokevirtual 128, 3) := by decide +kernel
theorem dX12_readRow_134 : decode cX12_readRow 134 = .ok (.aload_n 0, 1) := by decide +kernel
theorem dX12_readRow_135 : decode cX12_readRow 135 = .ok (.dup, 1) := by decide +kernel
theorem dX12_readRow_136 : decode cX12_readRow 136 = .ok (.getfield 132, 3) := by decide +kernel
theorem dX12_readRow_139 : decode cX12_readRow 139 = .ok (.iconst 1, 1) := by decide +kernel
theorem dX12_readRow_140 : decode cX12_readRow 140 = .ok (.iadd, 1) := by decide +kernel
theorem dX12_readRow_141 : decode cX12_readRow 141 = .ok (.putfield 132, 3) := by decide +kernel
theorem dX12_readRow_144 : decode cX12_readRow 144 = .ok (.aload_n 0, 1) := by decide +kernel
theorem dX12_readRow_145 : decode cX12_readRow 145 = .ok (.invokevirtual 135, 3) := by decide +kernel
theorem dX12_readRow_148 : decode cX12_readRow 148 = .ok (.return_, 1) := by decide +kernel
theorem dX12_readSun_0 : decode cX12_readSun 0 = .ok (.aload_n 0, 1) := by decide +kernel
theorem dX12_readSun_1 : decode cX12_readSun 1 = .ok (.invokevirtual 135, 3) := by decide +kernel
theorem dX12_readSun_4 : decode cX12_readSun 4 = .ok (.aload_n 0, 1) := by decide +kernel
theorem dX12_readSun_5 : decode cX12_readSun 5 = .ok (.iconst 0, 1) := by decide +kernel
theorem dX12_readSun_6 : decode cX12_readSun 6 = .ok (.bipush 35, 2) := by decide +kernel
theorem dX12_readSun_8 : decode cX12_readSun 8 = .ok (.invokevirtual 141, 3) := by decide +kernel
theorem dX12_readSun_11 : decode cX12_readSun 11 = .ok (.istore_n 1, 1) := by decide +kernel
theorem dX12_readSun_12 : decode cX12_readSun 12 = .ok (.aload_n 0, 1) := by decide +kernel
theorem dX12_readSun_13 : decode cX12_readSun 13 = .ok (.getfield 98, 3) := by decide +kernel
theorem dX12_readSun_16 : decode cX12_readSun 16 = .ok (.ifCond .ne 17, 3) := by decide +kernel
theorem dX12_readSun_19 : decode cX12_readSun 19 = .ok (.aload_n 0, 1) := by decide +kernel
theorem dX12_readSun_20 : decode cX12_readSun 20 = .ok (.getfield 37, 3) := by decide +kernel
theorem dX12_readSun_23 : decode cX12_readSun 23 = .ok (.iload_n 1, 1) := by decide +kernel
theorem dX12_readSun_24 : decode cX12_readSun 24 = .ok (.iaload, 1) := by decide +kernel
theorem dX12_readSun_25 : decode cX12_readSun 25 = .ok (.ifCond .ge 8, 3) := by decide +kernel
theorem dX12_readSun_28 : decode cX12_readSun 28 = .ok (.aload_n 0, 1) := by decide +kernel
theorem dX12_readSun_29 : decode cX12_readSun 29 = .ok (.iconst 4, 1) := by decide +kernel
theorem dX12_readSun_30 : decode cX12_readSun 30 = .ok (.invokevirtual 128, 3) := by decide +kernel
theorem dX12_readSun_33 : decode cX12_readSun 33 = .ok (.aload_n 0, 1) := by decide +kernel
theorem dX12_readSun_34 : decode cX12_readSun 34 = .ok (.invokevirtual 135, 3) := by decide +kernel
theorem dX12_readSun_37 : decode cX12_readSun 37 = .ok (.aload_n 0, 1) := by decide +kernel
theorem dX12_readSun_38 : decode cX12_readSun 38 = .ok (.iconst 0, 1) := by decide +kernel
theorem dX12_readSun_39 : decode cX12_readSun 39 = .ok (.bipush 9, 2) := by decide +kernel
theorem dX12_readSun_41 : decode cX12_readSun 41 = .ok (.invokevirtual 141, 3) := by decide +kernel
theorem dX12_readSun_44 : decode cX12_readSun 44 = .ok (.istore_n 2, 1) := by decide +kernel
theorem dX12_readSun_45 : decode cX12_readSun 45 = .ok (.aload_n 0, 1) := by decide +kernel
theorem dX12_readSun_46 : decode cX12_readSun 46 = .ok (.getfield 98, 3) := by decide +kernel
theorem dX12_readSun_49 : decode cX12_readSun 49 = .ok (.ifCond .ne 12, 3) := by decide +kernel
theorem dX12_readSun_52 : decode cX12_readSun 52 = .ok (.aload_n 0, 1) := by decide +kernel
theorem dX12_readSun_53 : decode cX12_readSun 53 = .ok (.getfield 37, 3) := by decide +kernel
theorem dX12_readSun_56 : decode cX12_readSun 56 = .ok (.iload_n 1, 1) := by decide +kernel
theorem dX12_readSun_57 : decode cX12_readSun 57 = .ok (.iconst (-1), 1) := by decide +kernel
theorem dX12_readSun_58 : decode cX12_readSun 58 = .ok (.iload_n 2, 1) := by decide +kernel
theorem dX12_readSun_59 : decode cX12_readSun 59 = .ok (.isub, 1) := by decide +kernel
theorem dX12_readSun_60 : decode cX12_readSun 60 = .ok (.iastore, 1) := by decide +kernel
theorem dX12_readSun_61 : decode cX12_readSun 61 = .ok (.aload_n 0, 1) := by decide +kernel
theorem dX12_readSun_62 : decode cX12_readSun 62 = .ok (.invokevirtual 135, 3) := by decide +kernel
theorem dX12_readSun_65 : decode cX12_readSun 65 = .ok (.return_, 1) := by decide +kernel
theorem dX12_readLine_0 : decode cX12_readLine 0 = .ok (.aload_n 0, 1) := by decide +kernel
theorem dX12_readLine_1 : decode cX12_readLine 1 = .ok (.invokevirtual 145, 3) := by decide +kernel
theorem dX12_readLine_4 : decode cX12_readLine 4 = .ok (.istore_n 1, 1) := by decide +kernel
theorem dX12_readLine_5 : decode cX12_readLine 5 = .ok (.iload_n 1, 1) := by decide +kernel
theorem dX12_readLine_6 : decode cX12_readLine 6 = .ok (.bipush (-4), 2) := by decide +kernel
theorem dX12_readLine_8 : decode cX12_readLine 8 = .ok (.if_icmp .ne 9, 3) := by decide +kernel
theorem dX12_readLine_11 : decode cX12_readLine 11 = .ok (.aload_n 0, 1) := by decide +kernel
theorem dX12_readLine_12 : decode cX12_readLine 12 = .ok (.iconst 2, 1) := by decide +kernel
theorem dX12_readLine_13 : decode cX12_readLine 13 = .ok (.invokevirtual 128, 3) := by decide +kernel
theorem dX12_readLine_16 : decode cX12_readLine 16 = .ok (.return_, 1) := by decide +kernel
theorem dX12_readLine_17 : decode cX12_readLine 17 = .ok (.iload_n 1, 1) := by decide +kernel
theorem dX12_readLine_18 : decode cX12_readLine 18 = .ok (.bipush 8, 2) := by decide +kernel
theorem dX12_readLine_20 : decode cX12_readLine 20 = .ok (.if_icmp .ne 10, 3) := by decide +kernel
theorem dX12_readLine_23 : decode cX12_readLine 23 = .ok (.aload_n 0, 1) := by decide +kernel
theorem dX12_readLine_24 : decode cX12_readLine 24 = .ok (.invokevirtual 149, 3) := by decide +kernel
theorem dX12_readLine_27 : decode cX12_readLine 27 = .ok (.goto 75, 3) := by decide +kernel
theorem dX12_readLine_30 : decode cX12_readLine 30 = .ok (.iload_n 1, 1) := by decide +kernel
theorem dX12_readLine_31 : decode cX12_readLine 31 = .ok (.bipush 9, 2) := by decide +kernel
theorem dX12_readLine_33 : decode cX12_readLine 33 = .ok (.if_icmp .ne 10, 3) := by decide +kernel
theorem dX12_readLine_36 : decode cX12_readLine 36 = .ok (.aload_n 0, 1) := by decide +kernel
theorem dX12_readLine_37 : decode cX12_readLine 37 = .ok (.invokevirtual 152, 3) := by decide +kernel
theorem dX12_readLine_40 : decode cX12_readLine 40 = .ok (.goto 62, 3) := by decide +kernel
theorem dX12_readLine_43 : decode cX12_readLine 43 = .ok (.aload_n 0, 1) := by decide +kernel
theorem dX12_readLine_44 : decode cX12_readLine 44 = .ok (.getfield 155, 3) := by decide +kernel
theorem dX12_readLine_47 : decode cX12_readLine 47 = .ok (.iload_n 1, 1) := by decide +kernel
theorem dX12_readLine_48 : decode cX12_readLine 48 = .ok (.ishr, 1) := by decide +kernel
theorem dX12_readLine_49 : decode cX12_readLine 49 = .ok (.iconst 1, 1) := by decide +kernel
theorem dX12_readLine_50 : decode cX12_readLine 50 = .ok (.iand, 1) := by decide +kernel
theorem dX12_readLine_51 : decode cX12_readLine 51 = .ok (.iconst 1, 1) := by decide +kernel
theorem dX12_readLine_52 : decode cX12_readLine 52 = .ok (.if_icmp .ne 8, 3) := by decide +kernel
theorem dX12_readLine_55 : decode cX12_readLine 55 = .ok (.aload_n 0, 1) := by decide +kernel
theorem dX12_readLine_56 : decode cX12_readLine 56 = .ok (.iconst 4, 1) := by decide +kernel
theorem dX12_readLine_57 : decode cX12_readLine 57 = .ok (.invokevirtual 128, 3) := by decide +kernel
theorem dX12_readLine_60 : decode cX12_readLine 60 = .ok (.aload_n 0, 1) := by decide +kernel
theorem dX12_readLine_61 : decode cX12_readLine 61 = .ok (.dup, 1) := by decide +kernel
theorem dX12_readLine_62 : decode cX12_readLine 62 = .ok (.getfield 155, 3) := by decide +kernel
theorem dX12_readLine_65 : decode cX12_readLine 65 = .ok (.iconst 1, 1) := by decide +kernel
theorem dX12_readLine_66 : decode cX12_readLine 66 = .ok (.iload_n 1, 1) := by decide +kernel
theorem dX12_readLine_67 : decode cX12_readLine 67 = .ok (.ishl, 1) := by decide +kernel
theorem dX12_readLine_68 : decode cX12_readLine 68 = .ok (.ior, 1) := by decide +kernel
theorem dX12_readLine_69 : decode cX12_readLine 69 = .ok (.putfield 155, 3) := by decide +kernel
theorem dX12_readLine_72 : decode cX12_readLine 72 = .ok (.aload_n 0, 1) := by decide +kernel
theorem dX12_readLine_73 : decode cX12_readLine 73 = .ok (.invokevirtual 135, 3) := by decide +kernel
theorem dX12_readLine_76 : decode cX12_readLine 76 = .ok (.aload_n 0, 1) := by decide +kernel
theorem dX12_readLine_77 : decode cX12_readLine 77 = .ok (.getfield 31, 3) := by decide +kernel
theorem dX12_readLine_80 : decode cX12_readLine 80 = .ok (.iload_n 1, 1) := by decide +kernel
theorem dX12_readLine_81 : decode cX12_readLine 81 = .ok (.aload_n 0, 1) := by decide +kernel
theorem dX12_readLine_82 : decode cX12_readLine 82 = .ok (.aload_n 0, 1) := by decide +kernel
theorem dX12_readLine_83 : decode cX12_readLine 83 = .ok (.getfield 19, 3) := by decide +kernel
theorem dX12_readLine_86 : decode cX12_readLine 86 = .ok (.iload_n 1, 1) := by decide +kernel
theorem dX12_readLine_87 : decode cX12_readLine 87 = .ok (.iaload, 1) := by decide +kernel
theorem dX12_readLine_88 : decode cX12_readLine 88 = .ok (.aload_n 0, 1) := by decide +kernel
theorem dX12_readLine_89 : decode cX12_readLine 89 = .ok (.getfield 22, 3) := by decide +kernel
theorem dX12_readLine_92 : decode cX12_readLine 92 = .ok (.iload_n 1, 1) := by decide +kernel
theorem dX12_readLine_93 : decode cX12_readLine 93 = .ok (.iaload, 1) := by decide +kernel
theorem dX12_readLine_94 : decode cX12_readLine 94 = .ok (.invokevirtual 141, 3) := by decide +kernel
theorem dX12_readLine_97 : decode cX12_readLine 97 = .ok (.iastore, 1) := by decide +kernel
theorem dX12_readLine_98 : decode cX12_readLine 98 = .ok (.aload_n 0, 1) := by decide +kernel
theorem dX12_readLine_99 : decode cX12_readLine 99 = .ok (.invokevirtual 135, 3) := by decide +kernel
theorem dX12_readLine_102 : decode cX12_readLine 102 = .ok (.aload_n 0, 1) := by decide +kernel
theorem dX12_readLine_103 : decode cX12_readLine 103 = .ok (.getfield 98, 3) := by decide +kernel
theorem dX12_readLine_106 : decode cX12_readLine 106 = .ok (.ifCond .ne 16, 3) := by decide +kernel
theorem dX12_readLine_109 : decode cX12_readLine 109 = .ok (.aload_n 0, 1) := by decide +kernel
theorem dX12_readLine_110 : decode cX12_readLine 110 = .ok (.getfield 107, 3) := by decide +kernel
theorem dX12_readLine_113 : decode cX12_readLine 113 = .ok (.iconst 3, 1) := by decide +kernel
theorem dX12_readLine_114 : decode cX12_readLine 114 = .ok (.if_icmp .eq 8, 3) := by decide +kernel
theorem dX12_readLine_117 : decode cX12_readLine 117 = .ok (.aload_n 0, 1) := by decide +kernel
theorem dX12_readLine_118 : decode cX12_readLine 118 = .ok (.iconst 2, 1) := by decide +kernel
theorem dX12_readLine_119 : decode cX12_readLine 119 = .ok (.invokevirtual 128, 3) := by decide +kernel
theorem dX12_readLine_122 : decode cX12_readLine 122 = .ok (.aload_n 0, 1) := by decide +kernel
theorem dX12_readLine_123 : decode cX12_readLine 123 = .ok (.invokevirtual 135, 3) := by decide +kernel
theorem dX12_readLine_126 : decode cX12_readLine 126 = .ok (.return_, 1) := by decide +kernel
theorem dX12_takeAll_0 : decode cX12_takeAll 0 = .ok (.iconst 0, 1) := by decide +kernel
theorem dX12_takeAll_1 : decode cX12_takeAll 1 = .ok (.istore_n 1, 1) := by decide +kernel
theorem dX12_takeAll_2 : decode cX12_takeAll 2 = .ok (.iload_n 1, 1) := by decide +kernel
theorem dX12_takeAll_3 : decode cX12_takeAll 3 = .ok (.bipush 8, 2) := by decide +kernel
theorem dX12_takeAll_5 : decode cX12_takeAll 5 = .ok (.if_icmp .ge 21, 3) := by decide +kernel
theorem dX12_takeAll_8 : decode cX12_takeAll 8 = .ok (.aload_n 0, 1) := by decide +kernel
theorem dX12_takeAll_9 : decode cX12_takeAll 9 = .ok (.getfield 28, 3) := by decide +kernel
theorem dX12_takeAll_12 : decode cX12_takeAll 12 = .ok (.iload_n 1, 1) := by decide +kernel
theorem dX12_takeAll_13 : decode cX12_takeAll 13 = .ok (.aload_n 0, 1) := by decide +kernel
theorem dX12_takeAll_14 : decode cX12_takeAll 14 = .ok (.getfield 31, 3) := by decide +kernel
theorem dX12_takeAll_17 : decode cX12_takeAll 17 = .ok (.iload_n 1, 1) := by decide +kernel
theorem dX12_takeAll_18 : decode cX12_takeAll 18 = .ok (.iaload, 1) := by decide +kernel
theorem dX12_takeAll_19 : decode cX12_takeAll 19 = .ok (.iastore, 1) := by decide +kernel
theorem dX12_takeAll_20 : decode cX12_takeAll 20 = .ok (.iinc 1 1, 3) := by decide +kernel
theorem dX12_takeAll_23 : decode cX12_takeAll 23 = .ok (.goto (-21), 3) := by decide +kernel
theorem dX12_takeAll_26 : decode cX12_takeAll 26 = .ok (.iconst 0, 1) := by decide +kernel
theorem dX12_takeAll_27 : decode cX12_takeAll 27 = .ok (.istore_n 1, 1) := by decide +kernel
theorem dX12_takeAll_28 : decode cX12_takeAll 28 = .ok (.iload_n 1, 1) := by decide +kernel
theorem dX12_takeAll_29 : decode cX12_takeAll 29 = .ok (.bipush 36, 2) := by decide +kernel
theorem dX12_takeAll_31 : decode cX12_takeAll 31 = .ok (.if_icmp .ge 96, 3) := by decide +kernel
theorem dX12_takeAll_34 : decode cX12_takeAll 34 = .ok (.aload_n 0, 1) := by decide +kernel
theorem dX12_takeAll_35 : decode cX12_takeAll 35 = .ok (.getfield 40, 3) := by decide +kernel
theorem dX12_takeAll_38 : decode cX12_takeAll 38 = .ok (.iload_n 1, 1) := by decide +kernel
theorem dX12_takeAll_39 : decode cX12_takeAll 39 = .ok (.aload_n 0, 1) := by decide +kernel
theorem dX12_takeAll_40 : decode cX12_takeAll 40 = .ok (.getfield 34, 3) := by decide +kernel
theorem dX12_takeAll_43 : decode cX12_takeAll 43 = .ok (.iload_n 1, 1) := by decide +kernel
theorem dX12_takeAll_44 : decode cX12_takeAll 44 = .ok (.iaload, 1) := by decide +kernel
theorem dX12_takeAll_45 : decode cX12_takeAll 45 = .ok (.iastore, 1) := by decide +kernel
theorem dX12_takeAll_46 : decode cX12_takeAll 46 = .ok (.aload_n 0, 1) := by decide +kernel
theorem dX12_takeAll_47 : decode cX12_takeAll 47 = .ok (.getfield 40, 3) := by decide +kernel
theorem dX12_takeAll_50 : decode cX12_takeAll 50 = .ok (.bipush 36, 2) := by decide +kernel
theorem dX12_takeAll_52 : decode cX12_takeAll 52 = .ok (.iload_n 1, 1) := by decide +kernel
theorem dX12_takeAll_53 : decode cX12_takeAll 53 = .ok (.iadd, 1) := by decide +kernel
theorem dX12_takeAll_54 : decode cX12_takeAll 54 = .ok (.aload_n 0, 1) := by decide +kernel
theorem dX12_takeAll_55 : decode cX12_takeAll 55 = .ok (.getfield 34, 3) := by decide +kernel
theorem dX12_takeAll_58 : decode cX12_takeAll 58 = .ok (.iload_n 1, 1) := by decide +kernel
theorem dX12_takeAll_59 : decode cX12_takeAll 59 = .ok (.iaload, 1) := by decide +kernel
theorem dX12_takeAll_60 : decode cX12_takeAll 60 = .ok (.iconst 1, 1) := by decide +kernel
theorem dX12_takeAll_61 : decode cX12_takeAll 61 = .ok (.if_icmp .gt 13, 3) := by decide +kernel
theorem dX12_takeAll_64 : decode cX12_takeAll 64 = .ok (.aload_n 0, 1) := by decide +kernel
theorem dX12_takeAll_65 : decode cX12_takeAll 65 = .ok (.getfield 28, 3) := by decide +kernel
theorem dX12_takeAll_68 : decode cX12_takeAll 68 = .ok (.bipush 7, 2) := by decide +kernel
theorem dX12_takeAll_70 : decode cX12_takeAll 70 = .ok (.iaload, 1) := by decide +kernel
theorem dX12_takeAll_71 : decode cX12_takeAll 71 = .ok (.goto 4, 3) := by decide +kernel
theorem dX12_takeAll_74 : decode cX12_takeAll 74 = .ok (.iconst 0, 1) := by decide +kernel
theorem dX12_takeAll_75 : decode cX12_takeAll 75 = .ok (.iastore, 1) := by decide +kernel
theorem dX12_takeAll_76 : decode cX12_takeAll 76 = .ok (.aload_n 0, 1) := by decide +kernel
theorem dX12_takeAll_77 : decode cX12_takeAll 77 = .ok (.getfield 40, 3) := by decide +kernel
theorem dX12_takeAll_80 : decode cX12_takeAll 80 = .ok (.bipush 72, 2) := by decide +kernel
theorem dX12_takeAll_82 : decode cX12_takeAll 82 = .ok (.iload_n 1, 1) := by decide +kernel
theorem dX12_takeAll_83 : decode cX12_takeAll 83 = .ok (.iadd, 1) := by decide +kernel
theorem dX12_takeAll_84 : decode cX12_takeAll 84 = .ok (.iconst 0, 1) := by decide +kernel
theorem dX12_takeAll_85 : decode cX12_takeAll 85 = .ok (.iastore, 1) := by decide +kernel
theorem dX12_takeAll_86 : decode cX12_takeAll 86 = .ok (.aload_n 0, 1) := by decide +kernel
theorem dX12_takeAll_87 : decode cX12_takeAll 87 = .ok (.getfield 40, 3) := by decide +kernel
theorem dX12_takeAll_90 : decode cX12_takeAll 90 = .ok (.bipush 108, 2) := by decide +kernel
theorem dX12_takeAll_92 : decode cX12_takeAll 92 = .ok (.iload_n 1, 1) := by decide +kernel
theorem dX12_takeAll_93 : decode cX12_takeAll 93 = .ok (.iadd, 1) := by decide +kernel
theorem dX12_takeAll_94 : decode cX12_takeAll 94 = .ok (.aload_n 0, 1) := by decide +kernel
theorem dX12_takeAll_95 : decode cX12_takeAll 95 = .ok (.getfield 37, 3) := by decide +kernel
theorem dX12_takeAll_98 : decode cX12_takeAll 98 = .ok (.iload_n 1, 1) := by decide +kernel
theorem dX12_takeAll_99 : decode cX12_takeAll 99 = .ok (.iaload, 1) := by decide +kernel
theorem dX12_takeAll_100 : decode cX12_takeAll 100 = .ok (.ifCond .ge 14, 3) := by decide +kernel
theorem dX12_takeAll_103 : decode cX12_takeAll 103 = .ok (.iconst (-1), 1) := by decide +kernel
theorem dX12_takeAll_104 : decode cX12_takeAll 104 = .ok (.aload_n 0, 1) := by decide +kernel
theorem dX12_takeAll_105 : decode cX12_takeAll 105 = .ok (.getfield 37, 3) := by decide +kernel
theorem dX12_takeAll_108 : decode cX12_takeAll 108 = .ok (.iload_n 1, 1) := by decide +kernel
theorem dX12_takeAll_109 : decode cX12_takeAll 109 = .ok (.iaload, 1) := by decide +kernel
theorem dX12_takeAll_110 : decode cX12_takeAll 110 = .ok (.isub, 1) := by decide +kernel
theorem dX12_takeAll_111 : decode cX12_takeAll 111 = .ok (.goto 9, 3) := by decide +kernel
theorem dX12_takeAll_114 : decode cX12_takeAll 114 = .ok (.aload_n 0, 1) := by decide +kernel
theorem dX12_takeAll_115 : decode cX12_takeAll 115 = .ok (.getfield 37, 3) := by decide +kernel
theorem dX12_takeAll_118 : decode cX12_takeAll 118 = .ok (.iload_n 1, 1) := by decide +kernel
theorem dX12_takeAll_119 : decode cX12_takeAll 119 = .ok (.iaload, 1) := by decide +kernel
theorem dX12_takeAll_120 : decode cX12_takeAll 120 = .ok (.iastore, 1) := by decide +kernel
theorem dX12_takeAll_121 : decode cX12_takeAll 121 = .ok (.iinc 1 1, 3) := by decide +kernel
theorem dX12_takeAll_124 : decode cX12_takeAll 124 = .ok (.goto (-96), 3) := by decide +kernel
theorem dX12_takeAll_127 : decode cX12_takeAll 127 = .ok (.aload_n 0, 1) := by decide +kernel
theorem dX12_takeAll_128 : decode cX12_takeAll 128 = .ok (.getfield 40, 3) := by decide +kernel
theorem dX12_takeAll_131 : decode cX12_takeAll 131 = .ok (.sipush 192, 3) := by decide +kernel
theorem dX12_takeAll_134 : decode cX12_takeAll 134 = .ok (.iconst 0, 1) := by decide +kernel
theorem dX12_takeAll_135 : decode cX12_takeAll 135 = .ok (.iastore, 1) := by decide +kernel
theorem dX12_takeAll_136 : decode cX12_takeAll 136 = .ok (.aload_n 0, 1) := by decide +kernel
theorem dX12_takeAll_137 : decode cX12_takeAll 137 = .ok (.iconst 1, 1) := by decide +kernel
theorem dX12_takeAll_138 : decode cX12_takeAll 138 = .ok (.putfield 158, 3) := by decide +kernel
theorem dX12_takeAll_141 : decode cX12_takeAll 141 = .ok (.return_, 1) := by decide +kernel
theorem dX12_garden_0 : decode cX12_garden 0 = .ok (.aload_n 0, 1) := by decide +kernel
theorem dX12_garden_1 : decode cX12_garden 1 = .ok (.iconst 0, 1) := by decide +kernel
theorem dX12_garden_2 : decode cX12_garden 2 = .ok (.putfield 98, 3) := by decide +kernel
theorem dX12_garden_5 : decode cX12_garden 5 = .ok (.aload_n 0, 1) := by decide +kernel
theorem dX12_garden_6 : decode cX12_garden 6 = .ok (.iconst 0, 1) := by decide +kernel
theorem dX12_garden_7 : decode cX12_garden 7 = .ok (.putfield 110, 3) := by decide +kernel
theorem dX12_garden_10 : decode cX12_garden 10 = .ok (.aload_n 0, 1) := by decide +kernel
theorem dX12_garden_11 : decode cX12_garden 11 = .ok (.iconst 0, 1) := by decide +kernel
theorem dX12_garden_12 : decode cX12_garden 12 = .ok (.putfield 132, 3) := by decide +kernel
theorem dX12_garden_15 : decode cX12_garden 15 = .ok (.aload_n 0, 1) := by decide +kernel
theorem dX12_garden_16 : decode cX12_garden 16 = .ok (.iconst 0, 1) := by decide +kernel
theorem dX12_garden_17 : decode cX12_garden 17 = .ok (.putfield 155, 3) := by decide +kernel
theorem dX12_garden_20 : decode cX12_garden 20 = .ok (.iconst 0, 1) := by decide +kernel
theorem dX12_garden_21 : decode cX12_garden 21 = .ok (.istore_n 1, 1) := by decide +kernel
theorem dX12_garden_22 : decode cX12_garden 22 = .ok (.iconst 0, 1) := by decide +kernel
theorem dX12_garden_23 : decode cX12_garden 23 = .ok (.istore_n 2, 1) := by decide +kernel
theorem dX12_garden_24 : decode cX12_garden 24 = .ok (.iload_n 2, 1) := by decide +kernel
theorem dX12_garden_25 : decode cX12_garden 25 = .ok (.bipush 8, 2) := by decide +kernel
theorem dX12_garden_27 : decode cX12_garden 27 = .ok (.if_icmp .ge 21, 3) := by decide +kernel
theorem dX12_garden_30 : decode cX12_garden 30 = .ok (.aload_n 0, 1) := by decide +kernel
theorem dX12_garden_31 : decode cX12_garden 31 = .ok (.getfield 31, 3) := by decide +kernel
theorem dX12_garden_34 : decode cX12_garden 34 = .ok (.iload_n 2, 1) := by decide +kernel
theorem dX12_garden_35 : decode cX12_garden 35 = .ok (.aload_n 0, 1) := by decide +kernel
theorem dX12_garden_36 : decode cX12_garden 36 = .ok (.getfield 25, 3) := by decide +kernel
theorem dX12_garden_39 : decode cX12_garden 39 = .ok (.iload_n 2, 1) := by decide +kernel
theorem dX12_garden_40 : decode cX12_garden 40 = .ok (.iaload, 1) := by decide +kernel
theorem dX12_garden_41 : decode cX12_garden 41 = .ok (.iastore, 1) := by decide +kernel
theorem dX12_garden_42 : decode cX12_garden 42 = .ok (.iinc 2 1, 3) := by decide +kernel
theorem dX12_garden_45 : decode cX12_garden 45 = .ok (.goto (-21), 3) := by decide +kernel
theorem dX12_garden_48 : decode cX12_garden 48 = .ok (.iconst 0, 1) := by decide +kernel
theorem dX12_garden_49 : decode cX12_garden 49 = .ok (.istore_n 2, 1) := by decide +kernel
theorem dX12_garden_50 : decode cX12_garden 50 = .ok (.iload_n 2, 1) := by decide +kernel
theorem dX12_garden_51 : decode cX12_garden 51 = .ok (.bipush 36, 2) := by decide +kernel
theorem dX12_garden_53 : decode cX12_garden 53 = .ok (.if_icmp .ge 23, 3) := by decide +kernel
theorem dX12_garden_56 : decode cX12_garden 56 = .ok (.aload_n 0, 1) := by decide +kernel
theorem dX12_garden_57 : decode cX12_garden 57 = .ok (.getfield 34, 3) := by decide +kernel
theorem dX12_garden_60 : decode cX12_garden 60 = .ok (.iload_n 2, 1) := by decide +kernel
theorem dX12_garden_61 : decode cX12_garden 61 = .ok (.iconst 0, 1) := by decide +kernel
theorem dX12_garden_62 : decode cX12_garden 62 = .ok (.iastore, 1) := by decide +kernel
theorem dX12_garden_63 : decode cX12_garden 63 = .ok (.aload_n 0, 1) := by decide +kernel
theorem dX12_garden_64 : decode cX12_garden 64 = .ok (.getfield 37, 3) := by decide +kernel
theorem dX12_garden_67 : decode cX12_garden 67 = .ok (.iload_n 2, 1) := by decide +kernel
theorem dX12_garden_68 : decode cX12_garden 68 = .ok (.iconst 3, 1) := by decide +kernel
theorem dX12_garden_69 : decode cX12_garden 69 = .ok (.iastore, 1) := by decide +kernel
theorem dX12_garden_70 : decode cX12_garden 70 = .ok (.iinc 2 1, 3) := by decide +kernel
theorem dX12_garden_73 : decode cX12_garden 73 = .ok (.goto (-23), 3) := by decide +kernel
theorem dX12_garden_76 : decode cX12_garden 76 = .ok (.aload_n 0, 1) := by decide +kernel
theorem dX12_garden_77 : decode cX12_garden 77 = .ok (.invokevirtual 135, 3) := by decide +kernel
theorem dX12_garden_80 : decode cX12_garden 80 = .ok (.aload_n 0, 1) := by decide +kernel
theorem dX12_garden_81 : decode cX12_garden 81 = .ok (.getfield 98, 3) := by decide +kernel
theorem dX12_garden_84 : decode cX12_garden 84 = .ok (.ifCond .ne 20, 3) := by decide +kernel
theorem dX12_garden_87 : decode cX12_garden 87 = .ok (.aload_n 0, 1) := by decide +kernel
theorem dX12_garden_88 : decode cX12_garden 88 = .ok (.getfield 107, 3) := by decide +kernel
theorem dX12_garden_91 : decode cX12_garden 91 = .ok (.ifCond .eq 13, 3) := by decide +kernel
theorem dX12_garden_94 : decode cX12_garden 94 = .ok (.aload_n 0, 1) := by decide +kernel
theorem dX12_garden_95 : decode cX12_garden 95 = .ok (.invokevirtual 162, 3) := by decide +kernel
theorem dX12_garden_98 : decode cX12_garden 98 = .ok (.iinc 1 1, 3) := by decide +kernel
theorem dX12_garden_101 : decode cX12_garden 101 = .ok (.goto (-21), 3) := by decide +kernel
theorem dX12_garden_104 : decode cX12_garden 104 = .ok (.aload_n 0, 1) := by decide +kernel
theorem dX12_garden_105 : decode cX12_garden 105 = .ok (.getfield 34, 3) := by decide +kernel
theorem dX12_garden_108 : decode cX12_garden 108 = .ok (.aload_n 0, 1) := by decide +kernel
theorem dX12_garden_109 : decode cX12_garden 109 = .ok (.getfield 31, 3) := by decide +kernel
theorem dX12_garden_112 : decode cX12_garden 112 = .ok (.iconst 0, 1) := by decide +kernel
theorem dX12_garden_113 : decode cX12_garden 113 = .ok (.iaload, 1) := by decide +kernel
theorem dX12_garden_114 : decode cX12_garden 114 = .ok (.iaload, 1) := by decide +kernel
theorem dX12_garden_115 : decode cX12_garden 115 = .ok (.iconst 2, 1) := by decide +kernel
theorem dX12_garden_116 : decode cX12_garden 116 = .ok (.if_icmp .ne 9, 3) := by decide +kernel
theorem dX12_garden_119 : decode cX12_garden 119 = .ok (.aload_n 0, 1) := by decide +kernel
theorem dX12_garden_120 : decode cX12_garden 120 = .ok (.bipush 6, 2) := by decide +kernel
theorem dX12_garden_122 : decode cX12_garden 122 = .ok (.invokevirtual 128, 3) := by decide +kernel
theorem dX12_garden_125 : decode cX12_garden 125 = .ok (.aload_n 0, 1) := by decide +kernel
theorem dX12_garden_126 : decode cX12_garden 126 = .ok (.iconst 0, 1) := by decide +kernel
theorem dX12_garden_127 : decode cX12_garden 127 = .ok (.putfield 90, 3) := by decide +kernel
theorem dX12_garden_130 : decode cX12_garden 130 = .ok (.aload_n 0, 1) := by decide +kernel
theorem dX12_garden_131 : decode cX12_garden 131 = .ok (.aload_n 0, 1) := by decide +kernel
theorem dX12_garden_132 : decode cX12_garden 132 = .ok (.getfield 98, 3) := by decide +kernel
theorem dX12_garden_135 : decode cX12_garden 135 = .ok (.putfield 165, 3) := by decide +kernel
theorem dX12_garden_138 : decode cX12_garden 138 = .ok (.aload_n 0, 1) := by decide +kernel
theorem dX12_garden_139 : decode cX12_garden 139 = .ok (.getfield 98, 3) := by decide +kernel
theorem dX12_garden_142 : decode cX12_garden 142 = .ok (.ifCond .le 11, 3) := by decide +kernel
theorem dX12_garden_145 : decode cX12_garden 145 = .ok (.bipush (-10), 2) := by decide +kernel
theorem dX12_garden_147 : decode cX12_garden 147 = .ok (.aload_n 0, 1) := by decide +kernel
theorem dX12_garden_148 : decode cX12_garden 148 = .ok (.getfield 104, 3) := by decide +kernel
theorem dX12_garden_151 : decode cX12_garden 151 = .ok (.isub, 1) := by decide +kernel
theorem dX12_garden_152 : decode cX12_garden 152 = .ok (.ireturn, 1) := by decide +kernel
theorem dX12_garden_153 : decode cX12_garden 153 = .ok (.aload_n 0, 1) := by decide +kernel
theorem dX12_garden_154 : decode cX12_garden 154 = .ok (.invokevirtual 168, 3) := by decide +kernel
theorem dX12_garden_157 : decode cX12_garden 157 = .ok (.iload_n 1, 1) := by decide +kernel
theorem dX12_garden_158 : decode cX12_garden 158 = .ok (.ireturn, 1) := by decide +kernel
theorem dX12_fault_0 : decode cX12_fault 0 = .ok (.aload_n 0, 1) := by decide +kernel
theorem dX12_fault_1 : decode cX12_fault 1 = .ok (.getfield 165, 3) := by decide +kernel
theorem dX12_fault_4 : decode cX12_fault 4 = .ok (.ireturn, 1) := by decide +kernel
theorem dX12_rule_0 : decode cX12_rule 0 = .ok (.iload_n 1, 1) := by decide +kernel
theorem dX12_rule_1 : decode cX12_rule 1 = .ok (.i2l, 1) := by decide +kernel
theorem dX12_rule_2 : decode cX12_rule 2 = .ok (.lconst 0, 1) := by decide +kernel
theorem dX12_rule_3 : decode cX12_rule 3 = .ok (.ldc2_w 171, 3) := by decide +kernel
theorem dX12_rule_6 : decode cX12_rule 6 = .ok (.invokestatic 94, 3) := by decide +kernel
theorem dX12_rule_9 : decode cX12_rule 9 = .ok (.ifCond .eq 12, 3) := by decide +kernel
theorem dX12_rule_12 : decode cX12_rule 12 = .ok (.aload_n 0, 1) := by decide +kernel
theorem dX12_rule_13 : decode cX12_rule 13 = .ok (.getfield 28, 3) := by decide +kernel
theorem dX12_rule_16 : decode cX12_rule 16 = .ok (.iload_n 1, 1) := by decide +kernel
theorem dX12_rule_17 : decode cX12_rule 17 = .ok (.iaload, 1) := by decide +kernel
theorem dX12_rule_18 : decode cX12_rule 18 = .ok (.goto 4, 3) := by decide +kernel
theorem dX12_rule_21 : decode cX12_rule 21 = .ok (.iconst (-1), 1) := by decide +kernel
theorem dX12_rule_22 : decode cX12_rule 22 = .ok (.ireturn, 1) := by decide +kernel
theorem dX12_awake_0 : decode cX12_awake 0 = .ok (.iconst 0, 1) := by decide +kernel
theorem dX12_awake_1 : decode cX12_awake 1 = .ok (.istore_n 1, 1) := by decide +kernel
theorem dX12_awake_2 : decode cX12_awake 2 = .ok (.iload_n 1, 1) := by decide +kernel
theorem dX12_awake_3 : decode cX12_awake 3 = .ok (.bipush 36, 2) := by decide +kernel
theorem dX12_awake_5 : decode cX12_awake 5 = .ok (.if_icmp .ge 36, 3) := by decide +kernel
theorem dX12_awake_8 : decode cX12_awake 8 = .ok (.aload_n 0, 1) := by decide +kernel
theorem dX12_awake_9 : decode cX12_awake 9 = .ok (.getfield 158, 3) := by decide +kernel
theorem dX12_awake_12 : decode cX12_awake 12 = .ok (.ifCond .ne 29, 3) := by decide +kernel
theorem dX12_awake_15 : decode cX12_awake 15 = .ok (.aload_n 0, 1) := by decide +kernel
theorem dX12_awake_16 : decode cX12_awake 16 = .ok (.getfield 40, 3) := by decide +kernel
theorem dX12_awake_19 : decode cX12_awake 19 = .ok (.bipush 36, 2) := by decide +kernel
theorem dX12_awake_21 : decode cX12_awake 21 = .ok (.iload_n 1, 1) := by decide +kernel
theorem dX12_awake_22 : decode cX12_awake 22 = .ok (.iadd, 1) := by decide +kernel
theorem dX12_awake_23 : decode cX12_awake 23 = .ok (.iconst 3, 1) := by decide +kernel
theorem dX12_awake_24 : decode cX12_awake 24 = .ok (.iastore, 1) := by decide +kernel
theorem dX12_awake_25 : decode cX12_awake 25 = .ok (.aload_n 0, 1) := by decide +kernel
theorem dX12_awake_26 : decode cX12_awake 26 = .ok (.getfield 40, 3) := by decide +kernel
theorem dX12_awake_29 : decode cX12_awake 29 = .ok (.bipush 108, 2) := by decide +kernel
theorem dX12_awake_31 : decode cX12_awake 31 = .ok (.iload_n 1, 1) := by decide +kernel
theorem dX12_awake_32 : decode cX12_awake 32 = .ok (.iadd, 1) := by decide +kernel
theorem dX12_awake_33 : decode cX12_awake 33 = .ok (.iconst 3, 1) := by decide +kernel
theorem dX12_awake_34 : decode cX12_awake 34 = .ok (.iastore, 1) := by decide +kernel
theorem dX12_awake_35 : decode cX12_awake 35 = .ok (.iinc 1 1, 3) := by decide +kernel
theorem dX12_awake_38 : decode cX12_awake 38 = .ok (.goto (-36), 3) := by decide +kernel
theorem dX12_awake_41 : decode cX12_awake 41 = .ok (.aload_n 0, 1) := by decide +kernel
theorem dX12_awake_42 : decode cX12_awake 42 = .ok (.iconst 1, 1) := by decide +kernel
theorem dX12_awake_43 : decode cX12_awake 43 = .ok (.putfield 158, 3) := by decide +kernel
theorem dX12_awake_46 : decode cX12_awake 46 = .ok (.return_, 1) := by decide +kernel
theorem dX12_isCell_0 : decode cX12_isCell 0 = .ok (.iload_n 0, 1) := by decide +kernel
theorem dX12_isCell_1 : decode cX12_isCell 1 = .ok (.i2l, 1) := by decide +kernel
theorem dX12_isCell_2 : decode cX12_isCell 2 = .ok (.lconst 0, 1) := by decide +kernel
theorem dX12_isCell_3 : decode cX12_isCell 3 = .ok (.ldc2_w 173, 3) := by decide +kernel
theorem dX12_isCell_6 : decode cX12_isCell 6 = .ok (.invokestatic 94, 3) := by decide +kernel
theorem dX12_isCell_9 : decode cX12_isCell 9 = .ok (.ireturn, 1) := by decide +kernel
theorem dX12_isGrass_0 : decode cX12_isGrass 0 = .ok (.aload_n 0, 1) := by decide +kernel
theorem dX12_isGrass_1 : decode cX12_isGrass 1 = .ok (.getfield 40, 3) := by decide +kernel
theorem dX12_isGrass_4 : decode cX12_isGrass 4 = .ok (.iload_n 1, 1) := by decide +kernel
theorem dX12_isGrass_5 : decode cX12_isGrass 5 = .ok (.iaload, 1) := by decide +kernel
theorem dX12_isGrass_6 : decode cX12_isGrass 6 = .ok (.iconst 1, 1) := by decide +kernel
theorem dX12_isGrass_7 : decode cX12_isGrass 7 = .ok (.if_icmp .gt 7, 3) := by decide +kernel
theorem dX12_isGrass_10 : decode cX12_isGrass 10 = .ok (.iconst 1, 1) := by decide +kernel
theorem dX12_isGrass_11 : decode cX12_isGrass 11 = .ok (.goto 4, 3) := by decide +kernel
theorem dX12_isGrass_14 : decode cX12_isGrass 14 = .ok (.iconst 0, 1) := by decide +kernel
theorem dX12_isGrass_15 : decode cX12_isGrass 15 = .ok (.ireturn, 1) := by decide +kernel
theorem dX12_cell_0 : decode cX12_cell 0 = .ok (.aload_n 0, 1) := by decide +kernel
theorem dX12_cell_1 : decode cX12_cell 1 = .ok (.invokevirtual 175, 3) := by decide +kernel
theorem dX12_cell_4 : decode cX12_cell 4 = .ok (.iload_n 1, 1) := by decide +kernel
theorem dX12_cell_5 : decode cX12_cell 5 = .ok (.invokestatic 178, 3) := by decide +kernel
theorem dX12_cell_8 : decode cX12_cell 8 = .ok (.ifCond .eq 15, 3) := by decide +kernel
theorem dX12_cell_11 : decode cX12_cell 11 = .ok (.iload_n 2, 1) := by decide +kernel
theorem dX12_cell_12 : decode cX12_cell 12 = .ok (.i2l, 1) := by decide +kernel
theorem dX12_cell_13 : decode cX12_cell 13 = .ok (.lconst 0, 1) := by decide +kernel
theorem dX12_cell_14 : decode cX12_cell 14 = .ok (.ldc2_w 182, 3) := by decide +kernel
theorem dX12_cell_17 : decode cX12_cell 17 = .ok (.invokestatic 94, 3) := by decide +kernel
theorem dX12_cell_20 : decode cX12_cell 20 = .ok (.ifCond .ne 5, 3) := by decide +kernel
theorem dX12_cell_23 : decode cX12_cell 23 = .ok (.iconst (-1), 1) := by decide +kernel
theorem dX12_cell_24 : decode cX12_cell 24 = .ok (.ireturn, 1) := by decide +kernel
theorem dX12_cell_25 : decode cX12_cell 25 = .ok (.iload_n 2, 1) := by decide +kernel
theorem dX12_cell_26 : decode cX12_cell 26 = .ok (.iconst 3, 1) := by decide +kernel
theorem dX12_cell_27 : decode cX12_cell 27 = .ok (.if_icmp .ge 26, 3) := by decide +kernel
theorem dX12_cell_30 : decode cX12_cell 30 = .ok (.aload_n 0, 1) := by decide +kernel
theorem dX12_cell_31 : decode cX12_cell 31 = .ok (.getfield 40, 3) := by decide +kernel
theorem dX12_cell_34 : decode cX12_cell 34 = .ok (.bipush 36, 2) := by decide +kernel
theorem dX12_cell_36 : decode cX12_cell 36 = .ok (.iload_n 2, 1) := by decide +kernel
theorem dX12_cell_37 : decode cX12_cell 37 = .ok (.iconst 2, 1) := by decide +kernel
theorem dX12_cell_38 : decode cX12_cell 38 = .ok (.if_icmp .ne 7, 3) := by decide +kernel
theorem dX12_cell_41 : decode cX12_cell 41 = .ok (.iconst 3, 1) := by decide +kernel
theorem dX12_cell_42 : decode cX12_cell 42 = .ok (.goto 4, 3) := by decide +kernel
theorem dX12_cell_45 : decode cX12_cell 45 = .ok (.iload_n 2, 1) := by decide +kernel
theorem dX12_cell_46 : decode cX12_cell 46 = .ok (.imul, 1) := by decide +kernel
theorem dX12_cell_47 : decode cX12_cell 47 = .ok (.iload_n 1, 1) := by decide +kernel
theorem dX12_cell_48 : decode cX12_cell 48 = .ok (.iadd, 1) := by decide +kernel
theorem dX12_cell_49 : decode cX12_cell 49 = .ok (.iaload, 1) := by decide +kernel
theorem dX12_cell_50 : decode cX12_cell 50 = .ok (.goto 31, 3) := by decide +kernel
theorem dX12_cell_53 : decode cX12_cell 53 = .ok (.aload_n 0, 1) := by decide +kernel
theorem dX12_cell_54 : decode cX12_cell 54 = .ok (.getfield 40, 3) := by decide +kernel
theorem dX12_cell_57 : decode cX12_cell 57 = .ok (.bipush 72, 2) := by decide +kernel
theorem dX12_cell_59 : decode cX12_cell 59 = .ok (.iload_n 1, 1) := by decide +kernel
theorem dX12_cell_60 : decode cX12_cell 60 = .ok (.iadd, 1) := by decide +kernel
theorem dX12_cell_61 : decode cX12_cell 61 = .ok (.iaload, 1) := by decide +kernel
theorem dX12_cell_62 : decode cX12_cell 62 = .ok (.ifCond .ne 8, 3) := by decide +kernel
theorem dX12_cell_65 : decode cX12_cell 65 = .ok (.bipush (-4), 2) := by decide +kernel
theorem dX12_cell_67 : decode cX12_cell 67 = .ok (.goto 14, 3) := by decide +kernel
theorem dX12_cell_70 : decode cX12_cell 70 = .ok (.aload_n 0, 1) := by decide +kernel
theorem dX12_cell_71 : decode cX12_cell 71 = .ok (.getfield 40, 3) := by decide +kernel
theorem dX12_cell_74 : decode cX12_cell 74 = .ok (.bipush 72, 2) := by decide +kernel
theorem dX12_cell_76 : decode cX12_cell 76 = .ok (.iload_n 1, 1) := by decide +kernel
theorem dX12_cell_77 : decode cX12_cell 77 = .ok (.iadd, 1) := by decide +kernel
theorem dX12_cell_78 : decode cX12_cell 78 = .ok (.iaload, 1) := by decide +kernel
theorem dX12_cell_79 : decode cX12_cell 79 = .ok (.iconst 1, 1) := by decide +kernel
theorem dX12_cell_80 : decode cX12_cell 80 = .ok (.isub, 1) := by decide +kernel
theorem dX12_cell_81 : decode cX12_cell 81 = .ok (.ireturn, 1) := by decide +kernel
theorem dX12_put_0 : decode cX12_put 0 = .ok (.aload_n 0, 1) := by decide +kernel
theorem dX12_put_1 : decode cX12_put 1 = .ok (.invokevirtual 175, 3) := by decide +kernel
theorem dX12_put_4 : decode cX12_put 4 = .ok (.iload_n 1, 1) := by decide +kernel
theorem dX12_put_5 : decode cX12_put 5 = .ok (.invokestatic 178, 3) := by decide +kernel
theorem dX12_put_8 : decode cX12_put 8 = .ok (.ifCond .eq 15, 3) := by decide +kernel
theorem dX12_put_11 : decode cX12_put 11 = .ok (.iload_n 2, 1) := by decide +kernel
theorem dX12_put_12 : decode cX12_put 12 = .ok (.i2l, 1) := by decide +kernel
theorem dX12_put_13 : decode cX12_put 13 = .ok (.lconst 0, 1) := by decide +kernel
theorem dX12_put_14 : decode cX12_put 14 = .ok (.ldc2_w 184, 3) := by decide +kernel
theorem dX12_put_17 : decode cX12_put 17 = .ok (.invokestatic 94, 3) := by decide +kernel
theorem dX12_put_20 : decode cX12_put 20 = .ok (.ifCond .ne 5, 3) := by decide +kernel
theorem dX12_put_23 : decode cX12_put 23 = .ok (.iconst (-1), 1) := by decide +kernel
theorem dX12_put_24 : decode cX12_put 24 = .ok (.ireturn, 1) := by decide +kernel
theorem dX12_put_25 : decode cX12_put 25 = .ok (.iload_n 1, 1) := by decide +kernel
theorem dX12_put_26 : decode cX12_put 26 = .ok (.aload_n 0, 1) := by decide +kernel
theorem dX12_put_27 : decode cX12_put 27 = .ok (.getfield 28, 3) := by decide +kernel
theorem dX12_put_30 : decode cX12_put 30 = .ok (.iconst 0, 1) := by decide +kernel
theorem dX12_put_31 : decode cX12_put 31 = .ok (.iaload, 1) := by decide +kernel
theorem dX12_put_32 : decode cX12_put 32 = .ok (.if_icmp .ne 11, 3) := by decide +kernel
theorem dX12_put_35 : decode cX12_put 35 = .ok (.iload_n 2, 1) := by decide +kernel
theorem dX12_put_36 : decode cX12_put 36 = .ok (.iconst 2, 1) := by decide +kernel
theorem dX12_put_37 : decode cX12_put 37 = .ok (.if_icmp .ne 6, 3) := by decide +kernel
theorem dX12_put_40 : decode cX12_put 40 = .ok (.bipush (-2), 2) := by decide +kernel
theorem dX12_put_42 : decode cX12_put 42 = .ok (.ireturn, 1) := by decide +kernel
theorem dX12_put_43 : decode cX12_put 43 = .ok (.aload_n 0, 1) := by decide +kernel
theorem dX12_put_44 : decode cX12_put 44 = .ok (.getfield 40, 3) := by decide +kernel
theorem dX12_put_47 : decode cX12_put 47 = .ok (.iload_n 1, 1) := by decide +kernel
theorem dX12_put_48 : decode cX12_put 48 = .ok (.iaload, 1) := by decide +kernel
theorem dX12_put_49 : decode cX12_put 49 = .ok (.istore_n 3, 1) := by decide +kernel
theorem dX12_put_50 : decode cX12_put 50 = .ok (.iload_n 3, 1) := by decide +kernel
theorem dX12_put_51 : decode cX12_put 51 = .ok (.iload_n 2, 1) := by decide +kernel
theorem dX12_put_52 : decode cX12_put 52 = .ok (.if_icmp .eq 30, 3) := by decide +kernel
theorem dX12_put_55 : decode cX12_put 55 = .ok (.aload_n 0, 1) := by decide +kernel
theorem dX12_put_56 : decode cX12_put 56 = .ok (.getfield 40, 3) := by decide +kernel
theorem dX12_put_59 : decode cX12_put 59 = .ok (.iload_n 1, 1) := by decide +kernel
theorem dX12_put_60 : decode cX12_put 60 = .ok (.iload_n 2, 1) := by decide +kernel
theorem dX12_put_61 : decode cX12_put 61 = .ok (.iastore, 1) := by decide +kernel
theorem dX12_put_62 : decode cX12_put 62 = .ok (.aload_n 0, 1) := by decide +kernel
theorem dX12_put_63 : decode cX12_put 63 = .ok (.getfield 40, 3) := by decide +kernel
theorem dX12_put_66 : decode cX12_put 66 = .ok (.bipush 36, 2) := by decide +kernel
theorem dX12_put_68 : decode cX12_put 68 = .ok (.iload_n 1, 1) := by decide +kernel
theorem dX12_put_69 : decode cX12_put 69 = .ok (.iadd, 1) := by decide +kernel
theorem dX12_put_70 : decode cX12_put 70 = .ok (.iconst 0, 1) := by decide +kernel
theorem dX12_put_71 : decode cX12_put 71 = .ok (.iastore, 1) := by decide +kernel
theorem dX12_put_72 : decode cX12_put 72 = .ok (.aload_n 0, 1) := by decide +kernel
theorem dX12_put_73 : decode cX12_put 73 = .ok (.getfield 40, 3) := by decide +kernel
theorem dX12_put_76 : decode cX12_put 76 = .ok (.bipush 72, 2) := by decide +kernel
theorem dX12_put_78 : decode cX12_put 78 = .ok (.iload_n 1, 1) := by decide +kernel
theorem dX12_put_79 : decode cX12_put 79 = .ok (.iadd, 1) := by decide +kernel
theorem dX12_put_80 : decode cX12_put 80 = .ok (.iconst 0, 1) := by decide +kernel
theorem dX12_put_81 : decode cX12_put 81 = .ok (.iastore, 1) := by decide +kernel
theorem dX12_put_82 : decode cX12_put 82 = .ok (.iload_n 3, 1) := by decide +kernel
theorem dX12_put_83 : decode cX12_put 83 = .ok (.ireturn, 1) := by decide +kernel
theorem dX12_isMove_0 : decode cX12_isMove 0 = .ok (.iload_n 0, 1) := by decide +kernel
theorem dX12_isMove_1 : decode cX12_isMove 1 = .ok (.i2l, 1) := by decide +kernel
theorem dX12_isMove_2 : decode cX12_isMove 2 = .ok (.lconst 0, 1) := by decide +kernel
theorem dX12_isMove_3 : decode cX12_isMove 3 = .ok (.ldc2_w 182, 3) := by decide +kernel
theorem dX12_isMove_6 : decode cX12_isMove 6 = .ok (.invokestatic 94, 3) := by decide +kernel
theorem dX12_isMove_9 : decode cX12_isMove 9 = .ok (.ifCond .eq 19, 3) := by decide +kernel
theorem dX12_isMove_12 : decode cX12_isMove 12 = .ok (.iload_n 1, 1) := by decide +kernel
theorem dX12_isMove_13 : decode cX12_isMove 13 = .ok (.i2l, 1) := by decide +kernel
theorem dX12_isMove_14 : decode cX12_isMove 14 = .ok (.lconst 1, 1) := by decide +kernel
theorem dX12_isMove_15 : decode cX12_isMove 15 = .ok (.ldc2_w 186, 3) := by decide +kernel
theorem dX12_isMove_18 : decode cX12_isMove 18 = .ok (.invokestatic 94, 3) := by decide +kernel
theorem dX12_isMove_21 : decode cX12_isMove 21 = .ok (.ifCond .eq 7, 3) := by decide +kernel
theorem dX12_isMove_24 : decode cX12_isMove 24 = .ok (.iconst 1, 1) := by decide +kernel
theorem dX12_isMove_25 : decode cX12_isMove 25 = .ok (.goto 4, 3) := by decide +kernel
theorem dX12_isMove_28 : decode cX12_isMove 28 = .ok (.iconst 0, 1) := by decide +kernel
theorem dX12_isMove_29 : decode cX12_isMove 29 = .ok (.ireturn, 1) := by decide +kernel
theorem dX12_addMove_0 : decode cX12_addMove 0 = .ok (.aload_n 0, 1) := by decide +kernel
theorem dX12_addMove_1 : decode cX12_addMove 1 = .ok (.getfield 40, 3) := by decide +kernel
theorem dX12_addMove_4 : decode cX12_addMove 4 = .ok (.sipush 144, 3) := by decide +kernel
theorem dX12_addMove_7 : decode cX12_addMove 7 = .ok (.iconst 2, 1) := by decide +kernel
theorem dX12_addMove_8 : decode cX12_addMove 8 = .ok (.aload_n 0, 1) := by decide +kernel
theorem dX12_addMove_9 : decode cX12_addMove 9 = .ok (.getfield 40, 3) := by decide +kernel
theorem dX12_addMove_12 : decode cX12_addMove 12 = .ok (.sipush 192, 3) := by decide +kernel
theorem dX12_addMove_15 : decode cX12_addMove 15 = .ok (.iaload, 1) := by decide +kernel
theorem dX12_addMove_16 : decode cX12_addMove 16 = .ok (.imul, 1) := by decide +kernel
theorem dX12_addMove_17 : decode cX12_addMove 17 = .ok (.iadd, 1) := by decide +kernel
theorem dX12_addMove_18 : decode cX12_addMove 18 = .ok (.iload_n 1, 1) := by decide +kernel
theorem dX12_addMove_19 : decode cX12_addMove 19 = .ok (.iastore, 1) := by decide +kernel
theorem dX12_addMove_20 : decode cX12_addMove 20 = .ok (.aload_n 0, 1) := by decide +kernel
theorem dX12_addMove_21 : decode cX12_addMove 21 = .ok (.getfield 40, 3) := by decide +kernel
theorem dX12_addMove_24 : decode cX12_addMove 24 = .ok (.sipush 144, 3) := by decide +kernel
theorem dX12_addMove_27 : decode cX12_addMove 27 = .ok (.iconst 2, 1) := by decide +kernel
theorem dX12_addMove_28 : decode cX12_addMove 28 = .ok (.aload_n 0, 1) := by decide +kernel
theorem dX12_addMove_29 : decode cX12_addMove 29 = .ok (.getfield 40, 3) := by decide +kernel
theorem dX12_addMove_32 : decode cX12_addMove 32 = .ok (.sipush 192, 3) := by decide +kernel
theorem dX12_addMove_35 : decode cX12_addMove 35 = .ok (.iaload, 1) := by decide +kernel
theorem dX12_addMove_36 : decode cX12_addMove 36 = .ok (.imul, 1) := by decide +kernel
theorem dX12_addMove_37 : decode cX12_addMove 37 = .ok (.iadd, 1) := by decide +kernel
theorem dX12_addMove_38 : decode cX12_addMove 38 = .ok (.iconst 1, 1) := by decide +kernel
theorem dX12_addMove_39 : decode cX12_addMove 39 = .ok (.iadd, 1) := by decide +kernel
theorem dX12_addMove_40 : decode cX12_addMove 40 = .ok (.iload_n 2, 1) := by decide +kernel
theorem dX12_addMove_41 : decode cX12_addMove 41 = .ok (.iastore, 1) := by decide +kernel
theorem dX12_addMove_42 : decode cX12_addMove 42 = .ok (.aload_n 0, 1) := by decide +kernel
theorem dX12_addMove_43 : decode cX12_addMove 43 = .ok (.getfield 40, 3) := by decide +kernel
theorem dX12_addMove_46 : decode cX12_addMove 46 = .ok (.sipush 192, 3) := by decide +kernel
theorem dX12_addMove_49 : decode cX12_addMove 49 = .ok (.dup2, 1) := by decide +kernel
theorem dX12_addMove_50 : decode cX12_addMove 50 = .ok (.iaload, 1) := by decide +kernel
theorem dX12_addMove_51 : decode cX12_addMove 51 = .ok (.iconst 1, 1) := by decide +kernel
theorem dX12_addMove_52 : decode cX12_addMove 52 = .ok (.iadd, 1) := by decide +kernel
theorem dX12_addMove_53 : decode cX12_addMove 53 = .ok (.iastore, 1) := by decide +kernel
theorem dX12_addMove_54 : decode cX12_addMove 54 = .ok (.return_, 1) := by decide +kernel
theorem dX12_move_0 : decode cX12_move 0 = .ok (.iload_n 1, 1) := by decide +kernel
theorem dX12_move_1 : decode cX12_move 1 = .ok (.iload_n 2, 1) := by decide +kernel
theorem dX12_move_2 : decode cX12_move 2 = .ok (.invokestatic 188, 3) := by decide +kernel
theorem dX12_move_5 : decode cX12_move 5 = .ok (.ifCond .ne 5, 3) := by decide +kernel
theorem dX12_move_8 : decode cX12_move 8 = .ok (.iconst (-1), 1) := by decide +kernel
theorem dX12_move_9 : decode cX12_move 9 = .ok (.ireturn, 1) := by decide +kernel
theorem dX12_move_10 : decode cX12_move 10 = .ok (.aload_n 0, 1) := by decide +kernel
theorem dX12_move_11 : decode cX12_move 11 = .ok (.getfield 40, 3) := by decide +kernel
theorem dX12_move_14 : decode cX12_move 14 = .ok (.sipush 192, 3) := by decide +kernel
theorem dX12_move_17 : decode cX12_move 17 = .ok (.iaload, 1) := by decide +kernel
theorem dX12_move_18 : decode cX12_move 18 = .ok (.bipush 24, 2) := by decide +kernel
theorem dX12_move_20 : decode cX12_move 20 = .ok (.if_icmp .ne 6, 3) := by decide +kernel
theorem dX12_move_23 : decode cX12_move 23 = .ok (.bipush (-3), 2) := by decide +kernel
theorem dX12_move_25 : decode cX12_move 25 = .ok (.ireturn, 1) := by decide +kernel
theorem dX12_move_26 : decode cX12_move 26 = .ok (.aload_n 0, 1) := by decide +kernel
theorem dX12_move_27 : decode cX12_move 27 = .ok (.iload_n 1, 1) := by decide +kernel
theorem dX12_move_28 : decode cX12_move 28 = .ok (.iload_n 2, 1) := by decide +kernel
theorem dX12_move_29 : decode cX12_move 29 = .ok (.invokevirtual 192, 3) := by decide +kernel
theorem dX12_move_32 : decode cX12_move 32 = .ok (.aload_n 0, 1) := by decide +kernel
theorem dX12_move_33 : decode cX12_move 33 = .ok (.getfield 40, 3) := by decide +kernel
theorem dX12_move_36 : decode cX12_move 36 = .ok (.sipush 192, 3) := by decide +kernel
theorem dX12_move_39 : decode cX12_move 39 = .ok (.iaload, 1) := by decide +kernel
theorem dX12_move_40 : decode cX12_move 40 = .ok (.ireturn, 1) := by decide +kernel
theorem dX12_clear_0 : decode cX12_clear 0 = .ok (.aload_n 0, 1) := by decide +kernel
theorem dX12_clear_1 : decode cX12_clear 1 = .ok (.getfield 40, 3) := by decide +kernel
theorem dX12_clear_4 : decode cX12_clear 4 = .ok (.sipush 192, 3) := by decide +kernel
theorem dX12_clear_7 : decode cX12_clear 7 = .ok (.iaload, 1) := by decide +kernel
theorem dX12_clear_8 : decode cX12_clear 8 = .ok (.istore_n 1, 1) := by decide +kernel
theorem dX12_clear_9 : decode cX12_clear 9 = .ok (.aload_n 0, 1) := by decide +kernel
theorem dX12_clear_10 : decode cX12_clear 10 = .ok (.getfield 40, 3) := by decide +kernel
theorem dX12_clear_13 : decode cX12_clear 13 = .ok (.sipush 192, 3) := by decide +kernel
theorem dX12_clear_16 : decode cX12_clear 16 = .ok (.iconst 0, 1) := by decide +kernel
theorem dX12_clear_17 : decode cX12_clear 17 = .ok (.iastore, 1) := by decide +kernel
theorem dX12_clear_18 : decode cX12_clear 18 = .ok (.iload_n 1, 1) := by decide +kernel
theorem dX12_clear_19 : decode cX12_clear 19 = .ok (.ireturn, 1) := by decide +kernel
theorem dX12_moved_0 : decode cX12_moved 0 = .ok (.iload_n 1, 1) := by decide +kernel
theorem dX12_moved_1 : decode cX12_moved 1 = .ok (.i2l, 1) := by decide +kernel
theorem dX12_moved_2 : decode cX12_moved 2 = .ok (.lconst 0, 1) := by decide +kernel
theorem dX12_moved_3 : decode cX12_moved 3 = .ok (.aload_n 0, 1) := by decide +kernel
theorem dX12_moved_4 : decode cX12_moved 4 = .ok (.getfield 40, 3) := by decide +kernel
theorem dX12_moved_7 : decode cX12_moved 7 = .ok (.sipush 192, 3) := by decide +kernel
theorem dX12_moved_10 : decode cX12_moved 10 = .ok (.iaload, 1) := by decide +kernel
theorem dX12_moved_11 : decode cX12_moved 11 = .ok (.iconst 1, 1) := by decide +kernel
theorem dX12_moved_12 : decode cX12_moved 12 = .ok (.isub, 1) := by decide +kernel
theorem dX12_moved_13 : decode cX12_moved 13 = .ok (.i2l, 1) := by decide +kernel
theorem dX12_moved_14 : decode cX12_moved 14 = .ok (.invokestatic 94, 3) := by decide +kernel
theorem dX12_moved_17 : decode cX12_moved 17 = .ok (.ifCond .eq 30, 3) := by decide +kernel
theorem dX12_moved_20 : decode cX12_moved 20 = .ok (.iload_n 2, 1) := by decide +kernel
theorem dX12_moved_21 : decode cX12_moved 21 = .ok (.i2l, 1) := by decide +kernel
theorem dX12_moved_22 : decode cX12_moved 22 = .ok (.lconst 0, 1) := by decide +kernel
theorem dX12_moved_23 : decode cX12_moved 23 = .ok (.lconst 1, 1) := by decide +kernel
theorem dX12_moved_24 : decode cX12_moved 24 = .ok (.invokestatic 94, 3) := by decide +kernel
theorem dX12_moved_27 : decode cX12_moved 27 = .ok (.ifCond .eq 20, 3) := by decide +kernel
theorem dX12_moved_30 : decode cX12_moved 30 = .ok (.aload_n 0, 1) := by decide +kernel
theorem dX12_moved_31 : decode cX12_moved 31 = .ok (.getfield 40, 3) := by decide +kernel
theorem dX12_moved_34 : decode cX12_moved 34 = .ok (.sipush 144, 3) := by decide +kernel
theorem dX12_moved_37 : decode cX12_moved 37 = .ok (.iconst 2, 1) := by decide +kernel
theorem dX12_moved_38 : decode cX12_moved 38 = .ok (.iload_n 1, 1) := by decide +kernel
theorem dX12_moved_39 : decode cX12_moved 39 = .ok (.imul, 1) := by decide +kernel
theorem dX12_moved_40 : decode cX12_moved 40 = .ok (.iadd, 1) := by decide +kernel
theorem dX12_moved_41 : decode cX12_moved 41 = .ok (.iload_n 2, 1) := by decide +kernel
theorem dX12_moved_42 : decode cX12_moved 42 = .ok (.iadd, 1) := by decide +kernel
theorem dX12_moved_43 : decode cX12_moved 43 = .ok (.iaload, 1) := by decide +kernel
theorem dX12_moved_44 : decode cX12_moved 44 = .ok (.goto 4, 3) := by decide +kernel
theorem dX12_moved_47 : decode cX12_moved 47 = .ok (.iconst (-1), 1) := by decide +kernel
theorem dX12_moved_48 : decode cX12_moved 48 = .ok (.ireturn, 1) := by decide +kernel
theorem dX12_nextOf_0 : decode cX12_nextOf 0 = .ok (.iload_n 1, 1) := by decide +kernel
theorem dX12_nextOf_1 : decode cX12_nextOf 1 = .ok (.bipush 6, 2) := by decide +kernel
theorem dX12_nextOf_3 : decode cX12_nextOf 3 = .ok (.idiv, 1) := by decide +kernel
theorem dX12_nextOf_4 : decode cX12_nextOf 4 = .ok (.iload_n 2, 1) := by decide +kernel
theorem dX12_nextOf_5 : decode cX12_nextOf 5 = .ok (.iconst 2, 1) := by decide +kernel
theorem dX12_nextOf_6 : decode cX12_nextOf 6 = .ok (.if_icmp .ne 7, 3) := by decide +kernel
theorem dX12_nextOf_9 : decode cX12_nextOf 9 = .ok (.iconst 1, 1) := by decide +kernel
theorem dX12_nextOf_10 : decode cX12_nextOf 10 = .ok (.goto 12, 3) := by decide +kernel
theorem dX12_nextOf_13 : decode cX12_nextOf 13 = .ok (.iload_n 2, 1) := by decide +kernel
theorem dX12_nextOf_14 : decode cX12_nextOf 14 = .ok (.ifCond .ne 7, 3) := by decide +kernel
theorem dX12_nextOf_17 : decode cX12_nextOf 17 = .ok (.iconst (-1), 1) := by decide +kernel
theorem dX12_nextOf_18 : decode cX12_nextOf 18 = .ok (.goto 4, 3) := by decide +kernel
theorem dX12_nextOf_21 : decode cX12_nextOf 21 = .ok (.iconst 0, 1) := by decide +kernel
theorem dX12_nextOf_22 : decode cX12_nextOf 22 = .ok (.iadd, 1) := by decide +kernel
theorem dX12_nextOf_23 : decode cX12_nextOf 23 = .ok (.istore_n 3, 1) := by decide +kernel
theorem dX12_nextOf_24 : decode cX12_nextOf 24 = .ok (.iload_n 1, 1) := by decide +kernel
theorem dX12_nextOf_25 : decode cX12_nextOf 25 = .ok (.bipush 6, 2) := by decide +kernel
theorem dX12_nextOf_27 : decode cX12_nextOf 27 = .ok (.irem, 1) := by decide +kernel
theorem dX12_nextOf_28 : decode cX12_nextOf 28 = .ok (.iload_n 2, 1) := by decide +kernel
theorem dX12_nextOf_29 : decode cX12_nextOf 29 = .ok (.iconst 1, 1) := by decide +kernel
theorem dX12_nextOf_30 : decode cX12_nextOf 30 = .ok (.if_icmp .ne 7, 3) := by decide +kernel
theorem dX12_nextOf_33 : decode cX12_nextOf 33 = .ok (.iconst 1, 1) := by decide +kernel
theorem dX12_nextOf_34 : decode cX12_nextOf 34 = .ok (.goto 13, 3) := by decide +kernel
theorem dX12_nextOf_37 : decode cX12_nextOf 37 = .ok (.iload_n 2, 1) := by decide +kernel
theorem dX12_nextOf_38 : decode cX12_nextOf 38 = .ok (.iconst 3, 1) := by decide +kernel
theorem dX12_nextOf_39 : decode cX12_nextOf 39 = .ok (.if_icmp .ne 7, 3) := by decide +kernel
theorem dX12_nextOf_42 : decode cX12_nextOf 42 = .ok (.iconst (-1), 1) := by decide +kernel
theorem dX12_nextOf_43 : decode cX12_nextOf 43 = .ok (.goto 4, 3) := by decide +kernel
theorem dX12_nextOf_46 : decode cX12_nextOf 46 = .ok (.iconst 0, 1) := by decide +kernel
theorem dX12_nextOf_47 : decode cX12_nextOf 47 = .ok (.iadd, 1) := by decide +kernel
theorem dX12_nextOf_48 : decode cX12_nextOf 48 = .ok (.istore 4, 2) := by decide +kernel
theorem dX12_nextOf_50 : decode cX12_nextOf 50 = .ok (.iload_n 3, 1) := by decide +kernel
theorem dX12_nextOf_51 : decode cX12_nextOf 51 = .ok (.i2l, 1) := by decide +kernel
theorem dX12_nextOf_52 : decode cX12_nextOf 52 = .ok (.lconst 0, 1) := by decide +kernel
theorem dX12_nextOf_53 : decode cX12_nextOf 53 = .ok (.ldc2_w 186, 3) := by decide +kernel
theorem dX12_nextOf_56 : decode cX12_nextOf 56 = .ok (.invokestatic 94, 3) := by decide +kernel
theorem dX12_nextOf_59 : decode cX12_nextOf 59 = .ok (.ifCond .eq 36, 3) := by decide +kernel
theorem dX12_nextOf_62 : decode cX12_nextOf 62 = .ok (.iload 4, 2) := by decide +kernel
theorem dX12_nextOf_64 : decode cX12_nextOf 64 = .ok (.i2l, 1) := by decide +kernel
theorem dX12_nextOf_65 : decode cX12_nextOf 65 = .ok (.lconst 0, 1) := by decide +kernel
theorem dX12_nextOf_66 : decode cX12_nextOf 66 = .ok (.ldc2_w 186, 3) := by decide +kernel
theorem dX12_nextOf_69 : decode cX12_nextOf 69 = .ok (.invokestatic 94, 3) := by decide +kernel
theorem dX12_nextOf_72 : decode cX12_nextOf 72 = .ok (.ifCond .eq 23, 3) := by decide +kernel
theorem dX12_nextOf_75 : decode cX12_nextOf 75 = .ok (.aload_n 0, 1) := by decide +kernel
theorem dX12_nextOf_76 : decode cX12_nextOf 76 = .ok (.getfield 40, 3) := by decide +kernel
theorem dX12_nextOf_79 : decode cX12_nextOf 79 = .ok (.bipush 6, 2) := by decide +kernel
theorem dX12_nextOf_81 : decode cX12_nextOf 81 = .ok (.iload_n 3, 1) := by decide +kernel
theorem dX12_nextOf_82 : decode cX12_nextOf 82 = .ok (.imul, 1) := by decide +kernel
theorem dX12_nextOf_83 : decode cX12_nextOf 83 = .ok (.iload 4, 2) := by decide +kernel
theorem dX12_nextOf_85 : decode cX12_nextOf 85 = .ok (.iadd, 1) := by decide +kernel
theorem dX12_nextOf_86 : decode cX12_nextOf 86 = .ok (.iaload, 1) := by decide +kernel
theorem dX12_nextOf_87 : decode cX12_nextOf 87 = .ok (.iconst 2, 1) := by decide +kernel
theorem dX12_nextOf_88 : decode cX12_nextOf 88 = .ok (.if_icmp .eq 7, 3) := by decide +kernel
theorem dX12_nextOf_91 : decode cX12_nextOf 91 = .ok (.iconst 1, 1) := by decide +kernel
theorem dX12_nextOf_92 : decode cX12_nextOf 92 = .ok (.goto 4, 3) := by decide +kernel
theorem dX12_nextOf_95 : decode cX12_nextOf 95 = .ok (.iconst 0, 1) := by decide +kernel
theorem dX12_nextOf_96 : decode cX12_nextOf 96 = .ok (.istore 5, 2) := by decide +kernel
theorem dX12_nextOf_98 : decode cX12_nextOf 98 = .ok (.iload 5, 2) := by decide +kernel
theorem dX12_nextOf_100 : decode cX12_nextOf 100 = .ok (.ifCond .eq 13, 3) := by decide +kernel
theorem dX12_nextOf_103 : decode cX12_nextOf 103 = .ok (.bipush 6, 2) := by decide +kernel
theorem dX12_nextOf_105 : decode cX12_nextOf 105 = .ok (.iload_n 3, 1) := by decide +kernel
theorem dX12_nextOf_106 : decode cX12_nextOf 106 = .ok (.imul, 1) := by decide +kernel
theorem dX12_nextOf_107 : decode cX12_nextOf 107 = .ok (.iload 4, 2) := by decide +kernel
theorem dX12_nextOf_109 : decode cX12_nextOf 109 = .ok (.iadd, 1) := by decide +kernel
theorem dX12_nextOf_110 : decode cX12_nextOf 110 = .ok (.goto 5, 3) := by decide +kernel
theorem dX12_nextOf_113 : decode cX12_nextOf 113 = .ok (.bipush (-4), 2) := by decide +kernel
theorem dX12_nextOf_115 : decode cX12_nextOf 115 = .ok (.ireturn, 1) := by decide +kernel
theorem dX12_quarters_0 : decode cX12_quarters 0 = .ok (.iload_n 1, 1) := by decide +kernel
theorem dX12_quarters_1 : decode cX12_quarters 1 = .ok (.iload_n 0, 1) := by decide +kernel
theorem dX12_quarters_2 : decode cX12_quarters 2 = .ok (.isub, 1) := by decide +kernel
theorem dX12_quarters_3 : decode cX12_quarters 3 = .ok (.iconst 3, 1) := by decide +kernel
theorem dX12_quarters_4 : decode cX12_quarters 4 = .ok (.iand, 1) := by decide +kernel
theorem dX12_quarters_5 : decode cX12_quarters 5 = .ok (.istore_n 2, 1) := by decide +kernel
theorem dX12_quarters_6 : decode cX12_quarters 6 = .ok (.iload_n 2, 1) := by decide +kernel
theorem dX12_quarters_7 : decode cX12_quarters 7 = .ok (.iconst 3, 1) := by decide +kernel
theorem dX12_quarters_8 : decode cX12_quarters 8 = .ok (.if_icmp .ne 7, 3) := by decide +kernel
theorem dX12_quarters_11 : decode cX12_quarters 11 = .ok (.iconst 1, 1) := by decide +kernel
theorem dX12_quarters_12 : decode cX12_quarters 12 = .ok (.goto 4, 3) := by decide +kernel
theorem dX12_quarters_15 : decode cX12_quarters 15 = .ok (.iload_n 2, 1) := by decide +kernel
theorem dX12_quarters_16 : decode cX12_quarters 16 = .ok (.ireturn, 1) := by decide +kernel
theorem dX12_minutesOf_0 : decode cX12_minutesOf 0 = .ok (.iload_n 2, 1) := by decide +kernel
theorem dX12_minutesOf_1 : decode cX12_minutesOf 1 = .ok (.ifCond .ne 22, 3) := by decide +kernel
theorem dX12_minutesOf_4 : decode cX12_minutesOf 4 = .ok (.aload_n 0, 1) := by decide +kernel
theorem dX12_minutesOf_5 : decode cX12_minutesOf 5 = .ok (.getfield 40, 3) := by decide +kernel
theorem dX12_minutesOf_8 : decode cX12_minutesOf 8 = .ok (.iload_n 1, 1) := by decide +kernel
theorem dX12_minutesOf_9 : decode cX12_minutesOf 9 = .ok (.iaload, 1) := by decide +kernel
theorem dX12_minutesOf_10 : decode cX12_minutesOf 10 = .ok (.iconst 1, 1) := by decide +kernel
theorem dX12_minutesOf_11 : decode cX12_minutesOf 11 = .ok (.if_icmp .ne 12, 3) := by decide +kernel
theorem dX12_minutesOf_14 : decode cX12_minutesOf 14 = .ok (.aload_n 0, 1) := by decide +kernel
theorem dX12_minutesOf_15 : decode cX12_minutesOf 15 = .ok (.getfield 28, 3) := by decide +kernel
theorem dX12_minutesOf_18 : decode cX12_minutesOf 18 = .ok (.iconst 2, 1) := by decide +kernel
theorem dX12_minutesOf_19 : decode cX12_minutesOf 19 = .ok (.iaload, 1) := by decide +kernel
theorem dX12_minutesOf_20 : decode cX12_minutesOf 20 = .ok (.goto 4, 3) := by decide +kernel
theorem dX12_minutesOf_23 : decode cX12_minutesOf 23 = .ok (.iconst 1, 1) := by decide +kernel
theorem dX12_minutesOf_24 : decode cX12_minutesOf 24 = .ok (.ireturn, 1) := by decide +kernel
theorem dX12_isThere_0 : decode cX12_isThere 0 = .ok (.aload_n 0, 1) := by decide +kernel
theorem dX12_isThere_1 : decode cX12_isThere 1 = .ok (.getfield 40, 3) := by decide +kernel
theorem dX12_isThere_4 : decode cX12_isThere 4 = .ok (.iload_n 1, 1) := by decide +kernel
theorem dX12_isThere_5 : decode cX12_isThere 5 = .ok (.iaload, 1) := by decide +kernel
theorem dX12_isThere_6 : decode cX12_isThere 6 = .ok (.iconst 4, 1) := by decide +kernel
theorem dX12_isThere_7 : decode cX12_isThere 7 = .ok (.if_icmp .ne 47, 3) := by decide +kernel
theorem dX12_isThere_10 : decode cX12_isThere 10 = .ok (.aload_n 0, 1) := by decide +kernel
theorem dX12_isThere_11 : decode cX12_isThere 11 = .ok (.getfield 43, 3) := by decide +kernel
theorem dX12_isThere_14 : decode cX12_isThere 14 = .ok (.iconst 5, 1) := by decide +kernel
theorem dX12_isThere_15 : decode cX12_isThere 15 = .ok (.iaload, 1) := by decide +kernel
theorem dX12_isThere_16 : decode cX12_isThere 16 = .ok (.ifCond .le 38, 3) := by decide +kernel
theorem dX12_isThere_19 : decode cX12_isThere 19 = .ok (.aload_n 0, 1) := by decide +kernel
theorem dX12_isThere_20 : decode cX12_isThere 20 = .ok (.getfield 43, 3) := by decide +kernel
theorem dX12_isThere_23 : decode cX12_isThere 23 = .ok (.iconst 5, 1) := by decide +kernel
theorem dX12_isThere_24 : decode cX12_isThere 24 = .ok (.iconst 0, 1) := by decide +kernel
theorem dX12_isThere_25 : decode cX12_isThere 25 = .ok (.iastore, 1) := by decide +kernel
theorem dX12_isThere_26 : decode cX12_isThere 26 = .ok (.aload_n 0, 1) := by decide +kernel
theorem dX12_isThere_27 : decode cX12_isThere 27 = .ok (.getfield 43, 3) := by decide +kernel
theorem dX12_isThere_30 : decode cX12_isThere 30 = .ok (.iconst 4, 1) := by decide +kernel
theorem dX12_isThere_31 : decode cX12_isThere 31 = .ok (.dup2, 1) := by decide +kernel
theorem dX12_isThere_32 : decode cX12_isThere 32 = .ok (.iaload, 1) := by decide +kernel
theorem dX12_isThere_33 : decode cX12_isThere 33 = .ok (.iconst 1, 1) := by decide +kernel
theorem dX12_isThere_34 : decode cX12_isThere 34 = .ok (.iadd, 1) := by decide +kernel
theorem dX12_isThere_35 : decode cX12_isThere 35 = .ok (.iastore, 1) := by decide +kernel
theorem dX12_isThere_36 : decode cX12_isThere 36 = .ok (.aload_n 0, 1) := by decide +kernel
theorem dX12_isThere_37 : decode cX12_isThere 37 = .ok (.getfield 43, 3) := by decide +kernel
theorem dX12_isThere_40 : decode cX12_isThere 40 = .ok (.iconst 0, 1) := by decide +kernel
theorem dX12_isThere_41 : decode cX12_isThere 41 = .ok (.dup2, 1) := by decide +kernel
theorem dX12_isThere_42 : decode cX12_isThere 42 = .ok (.iaload, 1) := by decide +kernel
theorem dX12_isThere_43 : decode cX12_isThere 43 = .ok (.aload_n 0, 1) := by decide +kernel
theorem dX12_isThere_44 : decode cX12_isThere 44 = .ok (.getfield 28, 3) := by decide +kernel
theorem dX12_isThere_47 : decode cX12_isThere 47 = .ok (.iconst 4, 1) := by decide +kernel
theorem dX12_isThere_48 : decode cX12_isThere 48 = .ok (.iaload, 1) := by decide +kernel
theorem dX12_isThere_49 : decode cX12_isThere 49 = .ok (.iadd, 1) := by decide +kernel
theorem dX12_isThere_50 : decode cX12_isThere 50 = .ok (.iastore, 1) := by decide +kernel
theorem dX12_isThere_51 : decode cX12_isThere 51 = .ok (.goto 118, 3) := by decide +kernel
theorem dX12_isThere_54 : decode cX12_isThere 54 = .ok (.aload_n 0, 1) := by decide +kernel
theorem dX12_isThere_55 : decode cX12_isThere 55 = .ok (.iload_n 1, 1) := by decide +kernel
theorem dX12_isThere_56 : decode cX12_isThere 56 = .ok (.invokevirtual 196, 3) := by decide +kernel
theorem dX12_isThere_59 : decode cX12_isThere 59 = .ok (.ifCond .eq 110, 3) := by decide +kernel
theorem dX12_isThere_62 : decode cX12_isThere 62 = .ok (.aload_n 0, 1) := by decide +kernel
theorem dX12_isThere_63 : decode cX12_isThere 63 = .ok (.getfield 46, 3) := by decide +kernel
theorem dX12_isThere_66 : decode cX12_isThere 66 = .ok (.iload_n 1, 1) := by decide +kernel
theorem dX12_isThere_67 : decode cX12_isThere 67 = .ok (.iaload, 1) := by decide +kernel
theorem dX12_isThere_68 : decode cX12_isThere 68 = .ok (.ifCond .le 101, 3) := by decide +kernel
theorem dX12_isThere_71 : decode cX12_isThere 71 = .ok (.iload_n 3, 1) := by decide +kernel
theorem dX12_isThere_72 : decode cX12_isThere 72 = .ok (.aload_n 0, 1) := by decide +kernel
theorem dX12_isThere_73 : decode cX12_isThere 73 = .ok (.getfield 28, 3) := by decide +kernel
theorem dX12_isThere_76 : decode cX12_isThere 76 = .ok (.bipush 6, 2) := by decide +kernel
theorem dX12_isThere_78 : decode cX12_isThere 78 = .ok (.iaload, 1) := by decide +kernel
theorem dX12_isThere_79 : decode cX12_isThere 79 = .ok (.if_icmp .ge 17, 3) := by decide +kernel
theorem dX12_isThere_82 : decode cX12_isThere 82 = .ok (.aload_n 0, 1) := by decide +kernel
theorem dX12_isThere_83 : decode cX12_isThere 83 = .ok (.getfield 43, 3) := by decide +kernel
theorem dX12_isThere_86 : decode cX12_isThere 86 = .ok (.bipush 8, 2) := by decide +kernel
theorem dX12_isThere_88 : decode cX12_isThere 88 = .ok (.dup2, 1) := by decide +kernel
theorem dX12_isThere_89 : decode cX12_isThere 89 = .ok (.iaload, 1) := by decide +kernel
theorem dX12_isThere_90 : decode cX12_isThere 90 = .ok (.iconst 1, 1) := by decide +kernel
theorem dX12_isThere_91 : decode cX12_isThere 91 = .ok (.iadd, 1) := by decide +kernel
theorem dX12_isThere_92 : decode cX12_isThere 92 = .ok (.iastore, 1) := by decide +kernel
theorem dX12_isThere_93 : decode cX12_isThere 93 = .ok (.goto 76, 3) := by decide +kernel
theorem dX12_isThere_96 : decode cX12_isThere 96 = .ok (.aload_n 0, 1) := by decide +kernel
theorem dX12_isThere_97 : decode cX12_isThere 97 = .ok (.getfield 43, 3) := by decide +kernel
theorem dX12_isThere_100 : decode cX12_isThere 100 = .ok (.iconst 5, 1) := by decide +kernel
theorem dX12_isThere_101 : decode cX12_isThere 101 = .ok (.iaload, 1) := by decide +kernel
theorem dX12_isThere_102 : decode cX12_isThere 102 = .ok (.aload_n 0, 1) := by decide +kernel
theorem dX12_isThere_103 : decode cX12_isThere 103 = .ok (.getfield 46, 3) := by decide +kernel
theorem dX12_isThere_106 : decode cX12_isThere 106 = .ok (.iload_n 1, 1) := by decide +kernel
theorem dX12_isThere_107 : decode cX12_isThere 107 = .ok (.iaload, 1) := by decide +kernel
theorem dX12_isThere_108 : decode cX12_isThere 108 = .ok (.iadd, 1) := by decide +kernel
theorem dX12_isThere_109 : decode cX12_isThere 109 = .ok (.iload 4, 2) := by decide +kernel
theorem dX12_isThere_111 : decode cX12_isThere 111 = .ok (.if_icmp .gt 47, 3) := by decide +kernel
theorem dX12_isThere_114 : decode cX12_isThere 114 = .ok (.aload_n 0, 1) := by decide +kernel
theorem dX12_isThere_115 : decode cX12_isThere 115 = .ok (.getfield 43, 3) := by decide +kernel
theorem dX12_isThere_118 : decode cX12_isThere 118 = .ok (.iconst 5, 1) := by decide +kernel
theorem dX12_isThere_119 : decode cX12_isThere 119 = .ok (.dup2, 1) := by decide +kernel
theorem dX12_isThere_120 : decode cX12_isThere 120 = .ok (.iaload, 1) := by decide +kernel
theorem dX12_isThere_121 : decode cX12_isThere 121 = .ok (.aload_n 0, 1) := by decide +kernel
theorem dX12_isThere_122 : decode cX12_isThere 122 = .ok (.getfield 46, 3) := by decide +kernel
theorem dX12_isThere_125 : decode cX12_isThere 125 = .ok (.iload_n 1, 1) := by decide +kernel
theorem dX12_isThere_126 : decode cX12_isThere 126 = .ok (.iaload, 1) := by decide +kernel
theorem dX12_isThere_127 : decode cX12_isThere 127 = .ok (.iadd, 1) := by decide +kernel
theorem dX12_isThere_128 : decode cX12_isThere 128 = .ok (.iastore, 1) := by decide +kernel
theorem dX12_isThere_129 : decode cX12_isThere 129 = .ok (.aload_n 0, 1) := by decide +kernel
theorem dX12_isThere_130 : decode cX12_isThere 130 = .ok (.getfield 43, 3) := by decide +kernel
theorem dX12_isThere_133 : decode cX12_isThere 133 = .ok (.iconst 1, 1) := by decide +kernel
theorem dX12_isThere_134 : decode cX12_isThere 134 = .ok (.dup2, 1) := by decide +kernel
theorem dX12_isThere_135 : decode cX12_isThere 135 = .ok (.iaload, 1) := by decide +kernel
theorem dX12_isThere_136 : decode cX12_isThere 136 = .ok (.iconst 1, 1) := by decide +kernel
theorem dX12_isThere_137 : decode cX12_isThere 137 = .ok (.iadd, 1) := by decide +kernel
theorem dX12_isThere_138 : decode cX12_isThere 138 = .ok (.iastore, 1) := by decide +kernel
theorem dX12_isThere_139 : decode cX12_isThere 139 = .ok (.aload_n 0, 1) := by decide +kernel
theorem dX12_isThere_140 : decode cX12_isThere 140 = .ok (.getfield 46, 3) := by decide +kernel
theorem dX12_isThere_143 : decode cX12_isThere 143 = .ok (.iload_n 1, 1) := by decide +kernel
theorem dX12_isThere_144 : decode cX12_isThere 144 = .ok (.iconst 0, 1) := by decide +kernel
theorem dX12_isThere_145 : decode cX12_isThere 145 = .ok (.iastore, 1) := by decide +kernel
theorem dX12_isThere_146 : decode cX12_isThere 146 = .ok (.aload_n 0, 1) := by decide +kernel
theorem dX12_isThere_147 : decode cX12_isThere 147 = .ok (.getfield 49, 3) := by decide +kernel
theorem dX12_isThere_150 : decode cX12_isThere 150 = .ok (.iload_n 1, 1) := by decide +kernel
theorem dX12_isThere_151 : decode cX12_isThere 151 = .ok (.iload_n 2, 1) := by decide +kernel
theorem dX12_isThere_152 : decode cX12_isThere 152 = .ok (.iconst 1, 1) := by decide +kernel
theorem dX12_isThere_153 : decode cX12_isThere 153 = .ok (.iadd, 1) := by decide +kernel
theorem dX12_isThere_154 : decode cX12_isThere 154 = .ok (.iastore, 1) := by decide +kernel
theorem dX12_isThere_155 : decode cX12_isThere 155 = .ok (.goto 14, 3) := by decide +kernel
theorem dX12_isThere_158 : decode cX12_isThere 158 = .ok (.aload_n 0, 1) := by decide +kernel
theorem dX12_isThere_159 : decode cX12_isThere 159 = .ok (.getfield 43, 3) := by decide +kernel
theorem dX12_isThere_162 : decode cX12_isThere 162 = .ok (.bipush 9, 2) := by decide +kernel
theorem dX12_isThere_164 : decode cX12_isThere 164 = .ok (.dup2, 1) := by decide +kernel
theorem dX12_isThere_165 : decode cX12_isThere 165 = .ok (.iaload, 1) := by decide +kernel
theorem dX12_isThere_166 : decode cX12_isThere 166 = .ok (.iconst 1, 1) := by decide +kernel
theorem dX12_isThere_167 : decode cX12_isThere 167 = .ok (.iadd, 1) := by decide +kernel
theorem dX12_isThere_168 : decode cX12_isThere 168 = .ok (.iastore, 1) := by decide +kernel
theorem dX12_isThere_169 : decode cX12_isThere 169 = .ok (.return_, 1) := by decide +kernel
theorem dX12_walks_0 : decode cX12_walks 0 = .ok (.iconst 0, 1) := by decide +kernel
theorem dX12_walks_1 : decode cX12_walks 1 = .ok (.istore_n 3, 1) := by decide +kernel
theorem dX12_walks_2 : decode cX12_walks 2 = .ok (.iload_n 3, 1) := by decide +kernel
theorem dX12_walks_3 : decode cX12_walks 3 = .ok (.bipush 10, 2) := by decide +kernel
theorem dX12_walks_5 : decode cX12_walks 5 = .ok (.if_icmp .ge 16, 3) := by decide +kernel
theorem dX12_walks_8 : decode cX12_walks 8 = .ok (.aload_n 0, 1) := by decide +kernel
theorem dX12_walks_9 : decode cX12_walks 9 = .ok (.getfield 43, 3) := by decide +kernel
theorem dX12_walks_12 : decode cX12_walks 12 = .ok (.iload_n 3, 1) := by decide +kernel
theorem dX12_walks_13 : decode cX12_walks 13 = .ok (.iconst 0, 1) := by decide +kernel
theorem dX12_walks_14 : decode cX12_walks 14 = .ok (.iastore, 1) := by decide +kernel
theorem dX12_walks_15 : decode cX12_walks 15 = .ok (.iinc 3 1, 3) := by decide +kernel
theorem dX12_walks_18 : decode cX12_walks 18 = .ok (.goto (-16), 3) := by decide +kernel
theorem dX12_walks_21 : decode cX12_walks 21 = .ok (.iconst 0, 1) := by decide +kernel
theorem dX12_walks_22 : decode cX12_walks 22 = .ok (.istore_n 3, 1) := by decide +kernel
theorem dX12_walks_23 : decode cX12_walks 23 = .ok (.iload_n 3, 1) := by decide +kernel
theorem dX12_walks_24 : decode cX12_walks 24 = .ok (.bipush 36, 2) := by decide +kernel
theorem dX12_walks_26 : decode cX12_walks 26 = .ok (.if_icmp .ge 39, 3) := by decide +kernel
theorem dX12_walks_29 : decode cX12_walks 29 = .ok (.aload_n 0, 1) := by decide +kernel
theorem dX12_walks_30 : decode cX12_walks 30 = .ok (.getfield 46, 3) := by decide +kernel
theorem dX12_walks_33 : decode cX12_walks 33 = .ok (.iload_n 3, 1) := by decide +kernel
theorem dX12_walks_34 : decode cX12_walks 34 = .ok (.aload_n 0, 1) := by decide +kernel
theorem dX12_walks_35 : decode cX12_walks 35 = .ok (.getfield 40, 3) := by decide +kernel
theorem dX12_walks_38 : decode cX12_walks 38 = .ok (.bipush 36, 2) := by decide +kernel
theorem dX12_walks_40 : decode cX12_walks 40 = .ok (.iload_n 3, 1) := by decide +kernel
theorem dX12_walks_41 : decode cX12_walks 41 = .ok (.iadd, 1) := by decide +kernel
theorem dX12_walks_42 : decode cX12_walks 42 = .ok (.iaload, 1) := by decide +kernel
theorem dX12_walks_43 : decode cX12_walks 43 = .ok (.iastore, 1) := by decide +kernel
theorem dX12_walks_44 : decode cX12_walks 44 = .ok (.aload_n 0, 1) := by decide +kernel
theorem dX12_walks_45 : decode cX12_walks 45 = .ok (.getfield 49, 3) := by decide +kernel
theorem dX12_walks_48 : decode cX12_walks 48 = .ok (.iload_n 3, 1) := by decide +kernel
theorem dX12_walks_49 : decode cX12_walks 49 = .ok (.aload_n 0, 1) := by decide +kernel
theorem dX12_walks_50 : decode cX12_walks 50 = .ok (.getfield 40, 3) := by decide +kernel
theorem dX12_walks_53 : decode cX12_walks 53 = .ok (.bipush 72, 2) := by decide +kernel
theorem dX12_walks_55 : decode cX12_walks 55 = .ok (.iload_n 3, 1) := by decide +kernel
theorem dX12_walks_56 : decode cX12_walks 56 = .ok (.iadd, 1) := by decide +kernel
theorem dX12_walks_57 : decode cX12_walks 57 = .ok (.iaload, 1) := by decide +kernel
theorem dX12_walks_58 : decode cX12_walks 58 = .ok (.iastore, 1) := by decide +kernel
theorem dX12_walks_59 : decode cX12_walks 59 = .ok (.iinc 3 1, 3) := by decide +kernel
theorem dX12_walks_62 : decode cX12_walks 62 = .ok (.goto (-39), 3) := by decide +kernel
theorem dX12_walks_65 : decode cX12_walks 65 = .ok (.aload_n 0, 1) := by decide +kernel
theorem dX12_walks_66 : decode cX12_walks 66 = .ok (.getfield 28, 3) := by decide +kernel
theorem dX12_walks_69 : decode cX12_walks 69 = .ok (.iconst 0, 1) := by decide +kernel
theorem dX12_walks_70 : decode cX12_walks 70 = .ok (.iaload, 1) := by decide +kernel
theorem dX12_walks_71 : decode cX12_walks 71 = .ok (.istore_n 3, 1) := by decide +kernel
theorem dX12_walks_72 : decode cX12_walks 72 = .ok (.iconst 0, 1) := by decide +kernel
theorem dX12_walks_73 : decode cX12_walks 73 = .ok (.istore 4, 2) := by decide +kernel
theorem dX12_walks_75 : decode cX12_walks 75 = .ok (.aload_n 0, 1) := by decide +kernel
theorem dX12_walks_76 : decode cX12_walks 76 = .ok (.getfield 52, 3) := by decide +kernel
theorem dX12_walks_79 : decode cX12_walks 79 = .ok (.iconst 0, 1) := by decide +kernel
theorem dX12_walks_80 : decode cX12_walks 80 = .ok (.iload_n 3, 1) := by decide +kernel
theorem dX12_walks_81 : decode cX12_walks 81 = .ok (.iastore, 1) := by decide +kernel
theorem dX12_walks_82 : decode cX12_walks 82 = .ok (.iconst 0, 1) := by decide +kernel
theorem dX12_walks_83 : decode cX12_walks 83 = .ok (.istore 5, 2) := by decide +kernel
theorem dX12_walks_85 : decode cX12_walks 85 = .ok (.iload 5, 2) := by decide +kernel
theorem dX12_walks_87 : decode cX12_walks 87 = .ok (.aload_n 0, 1) := by decide +kernel
theorem dX12_walks_88 : decode cX12_walks 88 = .ok (.getfield 40, 3) := by decide +kernel
theorem dX12_walks_91 : decode cX12_walks 91 = .ok (.sipush 192, 3) := by decide +kernel
theorem dX12_walks_94 : decode cX12_walks 94 = .ok (.iaload, 1) := by decide +kernel
theorem dX12_walks_95 : decode cX12_walks 95 = .ok (.if_icmp .ge 199, 3) := by decide +kernel
theorem dX12_walks_98 : decode cX12_walks 98 = .ok (.aload_n 0, 1) := by decide +kernel
theorem dX12_walks_99 : decode cX12_walks 99 = .ok (.getfield 43, 3) := by decide +kernel
theorem dX12_walks_102 : decode cX12_walks 102 = .ok (.iconst 3, 1) := by decide +kernel
theorem dX12_walks_103 : decode cX12_walks 103 = .ok (.iaload, 1) := by decide +kernel
theorem dX12_walks_104 : decode cX12_walks 104 = .ok (.ifCond .ne 190, 3) := by decide +kernel
theorem dX12_walks_107 : decode cX12_walks 107 = .ok (.aload_n 0, 1) := by decide +kernel
theorem dX12_walks_108 : decode cX12_walks 108 = .ok (.getfield 40, 3) := by decide +kernel
theorem dX12_walks_111 : decode cX12_walks 111 = .ok (.sipush 144, 3) := by decide +kernel
theorem dX12_walks_114 : decode cX12_walks 114 = .ok (.iconst 2, 1) := by decide +kernel
theorem dX12_walks_115 : decode cX12_walks 115 = .ok (.iload 5, 2) := by decide +kernel
theorem dX12_walks_117 : decode cX12_walks 117 = .ok (.imul, 1) := by decide +kernel
theorem dX12_walks_118 : decode cX12_walks 118 = .ok (.iadd, 1) := by decide +kernel
theorem dX12_walks_119 : decode cX12_walks 119 = .ok (.iaload, 1) := by decide +kernel
theorem dX12_walks_120 : decode cX12_walks 120 = .ok (.istore 6, 2) := by decide +kernel
theorem dX12_walks_122 : decode cX12_walks 122 = .ok (.aload_n 0, 1) := by decide +kernel
theorem dX12_walks_123 : decode cX12_walks 123 = .ok (.getfield 43, 3) := by decide +kernel
theorem dX12_walks_126 : decode cX12_walks 126 = .ok (.bipush 7, 2) := by decide +kernel
theorem dX12_walks_128 : decode cX12_walks 128 = .ok (.dup2, 1) := by decide +kernel
theorem dX12_walks_129 : decode cX12_walks 129 = .ok (.iaload, 1) := by decide +kernel
theorem dX12_walks_130 : decode cX12_walks 130 = .ok (.iload 4, 2) := by decide +kernel
theorem dX12_walks_132 : decode cX12_walks 132 = .ok (.iload 6, 2) := by decide +kernel
theorem dX12_walks_134 : decode cX12_walks 134 = .ok (.invokestatic 199, 3) := by decide +kernel
theorem dX12_walks_137 : decode cX12_walks 137 = .ok (.iadd, 1) := by decide +kernel
theorem dX12_walks_138 : decode cX12_walks 138 = .ok (.iastore, 1) := by decide +kernel
theorem dX12_walks_139 : decode cX12_walks 139 = .ok (.aload_n 0, 1) := by decide +kernel
theorem dX12_walks_140 : decode cX12_walks 140 = .ok (.getfield 43, 3) := by decide +kernel
theorem dX12_walks_143 : decode cX12_walks 143 = .ok (.iconst 0, 1) := by decide +kernel
theorem dX12_walks_144 : decode cX12_walks 144 = .ok (.dup2, 1) := by decide +kernel
theorem dX12_walks_145 : decode cX12_walks 145 = .ok (.iaload, 1) := by decide +kernel
theorem dX12_walks_146 : decode cX12_walks 146 = .ok (.iload 4, 2) := by decide +kernel
theorem dX12_walks_148 : decode cX12_walks 148 = .ok (.iload 6, 2) := by decide +kernel
theorem dX12_walks_150 : decode cX12_walks 150 = .ok (.invokestatic 199, 3) := by decide +kernel
theorem dX12_walks_153 : decode cX12_walks 153 = .ok (.aload_n 0, 1) := by decide +kernel
theorem dX12_walks_154 : decode cX12_walks 154 = .ok (.getfield 28, 3) := by decide +kernel
theorem dX12_walks_157 : decode cX12_walks 157 = .ok (.iconst 1, 1) := by decide +kernel
theorem dX12_walks_158 : decode cX12_walks 158 = .ok (.iaload, 1) := by decide +kernel
theorem dX12_walks_159 : decode cX12_walks 159 = .ok (.imul, 1) := by decide +kernel
theorem dX12_walks_160 : decode cX12_walks 160 = .ok (.iadd, 1) := by decide +kernel
theorem dX12_walks_161 : decode cX12_walks 161 = .ok (.iastore, 1) := by decide +kernel
theorem dX12_walks_162 : decode cX12_walks 162 = .ok (.iload 6, 2) := by decide +kernel
theorem dX12_walks_164 : decode cX12_walks 164 = .ok (.istore 4, 2) := by decide +kernel
theorem dX12_walks_166 : decode cX12_walks 166 = .ok (.iconst 0, 1) := by decide +kernel
theorem dX12_walks_167 : decode cX12_walks 167 = .ok (.istore 7, 2) := by decide +kernel
theorem dX12_walks_169 : decode cX12_walks 169 = .ok (.iload 7, 2) := by decide +kernel
theorem dX12_walks_171 : decode cX12_walks 171 = .ok (.aload_n 0, 1) := by decide +kernel
theorem dX12_walks_172 : decode cX12_walks 172 = .ok (.getfield 40, 3) := by decide +kernel
theorem dX12_walks_175 : decode cX12_walks 175 = .ok (.sipush 144, 3) := by decide +kernel
theorem dX12_walks_178 : decode cX12_walks 178 = .ok (.iconst 2, 1) := by decide +kernel
theorem dX12_walks_179 : decode cX12_walks 179 = .ok (.iload 5, 2) := by decide +kernel
theorem dX12_walks_181 : decode cX12_walks 181 = .ok (.imul, 1) := by decide +kernel
theorem dX12_walks_182 : decode cX12_walks 182 = .ok (.iadd, 1) := by decide +kernel
theorem dX12_walks_183 : decode cX12_walks 183 = .ok (.iconst 1, 1) := by decide +kernel
theorem dX12_walks_184 : decode cX12_walks 184 = .ok (.iadd, 1) := by decide +kernel
theorem dX12_walks_185 : decode cX12_walks 185 = .ok (.iaload, 1) := by decide +kernel
theorem dX12_walks_186 : decode cX12_walks 186 = .ok (.if_icmp .ge 102, 3) := by decide +kernel
theorem dX12_walks_189 : decode cX12_walks 189 = .ok (.aload_n 0, 1) := by decide +kernel
theorem dX12_walks_190 : decode cX12_walks 190 = .ok (.getfield 43, 3) := by decide +kernel
theorem dX12_walks_193 : decode cX12_walks 193 = .ok (.iconst 3, 1) := by decide +kernel
theorem dX12_walks_194 : decode cX12_walks 194 = .ok (.iaload, 1) := by decide +kernel
theorem dX12_walks_195 : decode cX12_walks 195 = .ok (.ifCond .ne 93, 3) := by decide +kernel
theorem dX12_walks_198 : decode cX12_walks 198 = .ok (.aload_n 0, 1) := by decide +kernel
theorem dX12_walks_199 : decode cX12_walks 199 = .ok (.iload_n 3, 1) := by decide +kernel
theorem dX12_walks_200 : decode cX12_walks 200 = .ok (.iload 6, 2) := by decide +kernel
theorem dX12_walks_202 : decode cX12_walks 202 = .ok (.invokevirtual 202, 3) := by decide +kernel
theorem dX12_walks_205 : decode cX12_walks 205 = .ok (.istore 8, 2) := by decide +kernel
theorem dX12_walks_207 : decode cX12_walks 207 = .ok (.iload 8, 2) := by decide +kernel
theorem dX12_walks_209 : decode cX12_walks 209 = .ok (.bipush (-4), 2) := by decide +kernel
theorem dX12_walks_211 : decode cX12_walks 211 = .ok (.if_icmp .ne 13, 3) := by decide +kernel
theorem dX12_walks_214 : decode cX12_walks 214 = .ok (.aload_n 0, 1) := by decide +kernel
theorem dX12_walks_215 : decode cX12_walks 215 = .ok (.getfield 43, 3) := by decide +kernel
theorem dX12_walks_218 : decode cX12_walks 218 = .ok (.iconst 3, 1) := by decide +kernel
theorem dX12_walks_219 : decode cX12_walks 219 = .ok (.iconst 1, 1) := by decide +kernel
theorem dX12_walks_220 : decode cX12_walks 220 = .ok (.iastore, 1) := by decide +kernel
theorem dX12_walks_221 : decode cX12_walks 221 = .ok (.goto 61, 3) := by decide +kernel
theorem dX12_walks_224 : decode cX12_walks 224 = .ok (.aload_n 0, 1) := by decide +kernel
theorem dX12_walks_225 : decode cX12_walks 225 = .ok (.getfield 43, 3) := by decide +kernel
theorem dX12_walks_228 : decode cX12_walks 228 = .ok (.iconst 0, 1) := by decide +kernel
theorem dX12_walks_229 : decode cX12_walks 229 = .ok (.dup2, 1) := by decide +kernel
theorem dX12_walks_230 : decode cX12_walks 230 = .ok (.iaload, 1) := by decide +kernel
theorem dX12_walks_231 : decode cX12_walks 231 = .ok (.aload_n 0, 1) := by decide +kernel
theorem dX12_walks_232 : decode cX12_walks 232 = .ok (.iload 8, 2) := by decide +kernel
theorem dX12_walks_234 : decode cX12_walks 234 = .ok (.iload 6, 2) := by decide +kernel
theorem dX12_walks_236 : decode cX12_walks 236 = .ok (.invokevirtual 205, 3) := by decide +kernel
theorem dX12_walks_239 : decode cX12_walks 239 = .ok (.iadd, 1) := by decide +kernel
theorem dX12_walks_240 : decode cX12_walks 240 = .ok (.iastore, 1) := by decide +kernel
theorem dX12_walks_241 : decode cX12_walks 241 = .ok (.aload_n 0, 1) := by decide +kernel
theorem dX12_walks_242 : decode cX12_walks 242 = .ok (.getfield 43, 3) := by decide +kernel
theorem dX12_walks_245 : decode cX12_walks 245 = .ok (.iconst 2, 1) := by decide +kernel
theorem dX12_walks_246 : decode cX12_walks 246 = .ok (.dup2, 1) := by decide +kernel
theorem dX12_walks_247 : decode cX12_walks 247 = .ok (.iaload, 1) := by decide +kernel
theorem dX12_walks_248 : decode cX12_walks 248 = .ok (.iconst 1, 1) := by decide +kernel
theorem dX12_walks_249 : decode cX12_walks 249 = .ok (.iadd, 1) := by decide +kernel
theorem dX12_walks_250 : decode cX12_walks 250 = .ok (.iastore, 1) := by decide +kernel
theorem dX12_walks_251 : decode cX12_walks 251 = .ok (.iload 8, 2) := by decide +kernel
theorem dX12_walks_253 : decode cX12_walks 253 = .ok (.istore_n 3, 1) := by decide +kernel
theorem dX12_walks_254 : decode cX12_walks 254 = .ok (.aload_n 0, 1) := by decide +kernel
theorem dX12_walks_255 : decode cX12_walks 255 = .ok (.getfield 52, 3) := by decide +kernel
theorem dX12_walks_258 : decode cX12_walks 258 = .ok (.aload_n 0, 1) := by decide +kernel
theorem dX12_walks_259 : decode cX12_walks 259 = .ok (.getfield 43, 3) := by decide +kernel
theorem dX12_walks_262 : decode cX12_walks 262 = .ok (.iconst 2, 1) := by decide +kernel
theorem dX12_walks_263 : decode cX12_walks 263 = .ok (.iaload, 1) := by decide +kernel
theorem dX12_walks_264 : decode cX12_walks 264 = .ok (.iload_n 3, 1) := by decide +kernel
theorem dX12_walks_265 : decode cX12_walks 265 = .ok (.iastore, 1) := by decide +kernel
theorem dX12_walks_266 : decode cX12_walks 266 = .ok (.aload_n 0, 1) := by decide +kernel
theorem dX12_walks_267 : decode cX12_walks 267 = .ok (.iload_n 3, 1) := by decide +kernel
theorem dX12_walks_268 : decode cX12_walks 268 = .ok (.iload 6, 2) := by decide +kernel
theorem dX12_walks_270 : decode cX12_walks 270 = .ok (.iload_n 1, 1) := by decide +kernel
theorem dX12_walks_271 : decode cX12_walks 271 = .ok (.aload_n 0, 1) := by decide +kernel
theorem dX12_walks_272 : decode cX12_walks 272 = .ok (.getfield 43, 3) := by decide +kernel
theorem dX12_walks_275 : decode cX12_walks 275 = .ok (.iconst 0, 1) := by decide +kernel
theorem dX12_walks_276 : decode cX12_walks 276 = .ok (.iaload, 1) := by decide +kernel
theorem dX12_walks_277 : decode cX12_walks 277 = .ok (.iadd, 1) := by decide +kernel
theorem dX12_walks_278 : decode cX12_walks 278 = .ok (.iload_n 2, 1) := by decide +kernel
theorem dX12_walks_279 : decode cX12_walks 279 = .ok (.invokevirtual 208, 3) := by decide +kernel
theorem dX12_walks_282 : decode cX12_walks 282 = .ok (.iinc 7 1, 3) := by decide +kernel
theorem dX12_walks_285 : decode cX12_walks 285 = .ok (.goto (-116), 3) := by decide +kernel
theorem dX12_walks_288 : decode cX12_walks 288 = .ok (.iinc 5 1, 3) := by decide +kernel
theorem dX12_walks_291 : decode cX12_walks 291 = .ok (.goto (-206), 3) := by decide +kernel
theorem dX12_walks_294 : decode cX12_walks 294 = .ok (.aload_n 0, 1) := by decide +kernel
theorem dX12_walks_295 : decode cX12_walks 295 = .ok (.getfield 43, 3) := by decide +kernel
theorem dX12_walks_298 : decode cX12_walks 298 = .ok (.bipush 6, 2) := by decide +kernel
theorem dX12_walks_300 : decode cX12_walks 300 = .ok (.iload_n 3, 1) := by decide +kernel
theorem dX12_walks_301 : decode cX12_walks 301 = .ok (.iastore, 1) := by decide +kernel
theorem dX12_walks_302 : decode cX12_walks 302 = .ok (.return_, 1) := by decide +kernel
theorem dX12_isMinute_0 : decode cX12_isMinute 0 = .ok (.iload_n 0, 1) := by decide +kernel
theorem dX12_isMinute_1 : decode cX12_isMinute 1 = .ok (.i2l, 1) := by decide +kernel
theorem dX12_isMinute_2 : decode cX12_isMinute 2 = .ok (.lconst 0, 1) := by decide +kernel
theorem dX12_isMinute_3 : decode cX12_isMinute 3 = .ok (.ldc2_w 212, 3) := by decide +kernel
theorem dX12_isMinute_6 : decode cX12_isMinute 6 = .ok (.invokestatic 94, 3) := by decide +kernel
theorem dX12_isMinute_9 : decode cX12_isMinute 9 = .ok (.ireturn, 1) := by decide +kernel
theorem dX12_run_0 : decode cX12_run 0 = .ok (.aload_n 0, 1) := by decide +kernel
theorem dX12_run_1 : decode cX12_run 1 = .ok (.invokevirtual 175, 3) := by decide +kernel
theorem dX12_run_4 : decode cX12_run 4 = .ok (.iload_n 1, 1) := by decide +kernel
theorem dX12_run_5 : decode cX12_run 5 = .ok (.invokestatic 214, 3) := by decide +kernel
theorem dX12_run_8 : decode cX12_run 8 = .ok (.ifCond .eq 15, 3) := by decide +kernel
theorem dX12_run_11 : decode cX12_run 11 = .ok (.iload_n 2, 1) := by decide +kernel
theorem dX12_run_12 : decode cX12_run 12 = .ok (.i2l, 1) := by decide +kernel
theorem dX12_run_13 : decode cX12_run 13 = .ok (.lconst 0, 1) := by decide +kernel
theorem dX12_run_14 : decode cX12_run 14 = .ok (.ldc2_w 217, 3) := by decide +kernel
theorem dX12_run_17 : decode cX12_run 17 = .ok (.invokestatic 94, 3) := by decide +kernel
theorem dX12_run_20 : decode cX12_run 20 = .ok (.ifCond .ne 5, 3) := by decide +kernel
theorem dX12_run_23 : decode cX12_run 23 = .ok (.iconst (-1), 1) := by decide +kernel
theorem dX12_run_24 : decode cX12_run 24 = .ok (.ireturn, 1) := by decide +kernel
theorem dX12_run_25 : decode cX12_run 25 = .ok (.aload_n 0, 1) := by decide +kernel
theorem dX12_run_26 : decode cX12_run 26 = .ok (.iload_n 1, 1) := by decide +kernel
theorem dX12_run_27 : decode cX12_run 27 = .ok (.aload_n 0, 1) := by decide +kernel
theorem dX12_run_28 : decode cX12_run 28 = .ok (.getfield 28, 3) := by decide +kernel
theorem dX12_run_31 : decode cX12_run 31 = .ok (.iconst 3, 1) := by decide +kernel
theorem dX12_run_32 : decode cX12_run 32 = .ok (.iaload, 1) := by decide +kernel
theorem dX12_run_33 : decode cX12_run 33 = .ok (.invokevirtual 219, 3) := by decide +kernel
theorem dX12_run_36 : decode cX12_run 36 = .ok (.aload_n 0, 1) := by decide +kernel
theorem dX12_run_37 : decode cX12_run 37 = .ok (.getfield 43, 3) := by decide +kernel
theorem dX12_run_40 : decode cX12_run 40 = .ok (.iload_n 2, 1) := by decide +kernel
theorem dX12_run_41 : decode cX12_run 41 = .ok (.iaload, 1) := by decide +kernel
theorem dX12_run_42 : decode cX12_run 42 = .ok (.ireturn, 1) := by decide +kernel
theorem dX12_mow_0 : decode cX12_mow 0 = .ok (.aload_n 0, 1) := by decide +kernel
theorem dX12_mow_1 : decode cX12_mow 1 = .ok (.invokevirtual 175, 3) := by decide +kernel
theorem dX12_mow_4 : decode cX12_mow 4 = .ok (.iload_n 1, 1) := by decide +kernel
theorem dX12_mow_5 : decode cX12_mow 5 = .ok (.invokestatic 214, 3) := by decide +kernel
theorem dX12_mow_8 : decode cX12_mow 8 = .ok (.ifCond .ne 5, 3) := by decide +kernel
theorem dX12_mow_11 : decode cX12_mow 11 = .ok (.iconst (-1), 1) := by decide +kernel
theorem dX12_mow_12 : decode cX12_mow 12 = .ok (.ireturn, 1) := by decide +kernel
theorem dX12_mow_13 : decode cX12_mow 13 = .ok (.aload_n 0, 1) := by decide +kernel
theorem dX12_mow_14 : decode cX12_mow 14 = .ok (.iload_n 1, 1) := by decide +kernel
theorem dX12_mow_15 : decode cX12_mow 15 = .ok (.aload_n 0, 1) := by decide +kernel
theorem dX12_mow_16 : decode cX12_mow 16 = .ok (.getfield 28, 3) := by decide +kernel
theorem dX12_mow_19 : decode cX12_mow 19 = .ok (.iconst 3, 1) := by decide +kernel
theorem dX12_mow_20 : decode cX12_mow 20 = .ok (.iaload, 1) := by decide +kernel
theorem dX12_mow_21 : decode cX12_mow 21 = .ok (.invokevirtual 219, 3) := by decide +kernel
theorem dX12_mow_24 : decode cX12_mow 24 = .ok (.iconst 0, 1) := by decide +kernel
theorem dX12_mow_25 : decode cX12_mow 25 = .ok (.istore_n 2, 1) := by decide +kernel
theorem dX12_mow_26 : decode cX12_mow 26 = .ok (.iload_n 2, 1) := by decide +kernel
theorem dX12_mow_27 : decode cX12_mow 27 = .ok (.bipush 36, 2) := by decide +kernel
theorem dX12_mow_29 : decode cX12_mow 29 = .ok (.if_icmp .ge 39, 3) := by decide +kernel
theorem dX12_mow_32 : decode cX12_mow 32 = .ok (.aload_n 0, 1) := by decide +kernel
theorem dX12_mow_33 : decode cX12_mow 33 = .ok (.getfield 40, 3) := by decide +kernel
theorem dX12_mow_36 : decode cX12_mow 36 = .ok (.bipush 36, 2) := by decide +kernel
theorem dX12_mow_38 : decode cX12_mow 38 = .ok (.iload_n 2, 1) := by decide +kernel
theorem dX12_mow_39 : decode cX12_mow 39 = .ok (.iadd, 1) := by decide +kernel
theorem dX12_mow_40 : decode cX12_mow 40 = .ok (.aload_n 0, 1) := by decide +kernel
theorem dX12_mow_41 : decode cX12_mow 41 = .ok (.getfield 46, 3) := by decide +kernel
theorem dX12_mow_44 : decode cX12_mow 44 = .ok (.iload_n 2, 1) := by decide +kernel
theorem dX12_mow_45 : decode cX12_mow 45 = .ok (.iaload, 1) := by decide +kernel
theorem dX12_mow_46 : decode cX12_mow 46 = .ok (.iastore, 1) := by decide +kernel
theorem dX12_mow_47 : decode cX12_mow 47 = .ok (.aload_n 0, 1) := by decide +kernel
theorem dX12_mow_48 : decode cX12_mow 48 = .ok (.getfield 40, 3) := by decide +kernel
theorem dX12_mow_51 : decode cX12_mow 51 = .ok (.bipush 72, 2) := by decide +kernel
theorem dX12_mow_53 : decode cX12_mow 53 = .ok (.iload_n 2, 1) := by decide +kernel
theorem dX12_mow_54 : decode cX12_mow 54 = .ok (.iadd, 1) := by decide +kernel
theorem dX12_mow_55 : decode cX12_mow 55 = .ok (.aload_n 0, 1) := by decide +kernel
theorem dX12_mow_56 : decode cX12_mow 56 = .ok (.getfield 49, 3) := by decide +kernel
theorem dX12_mow_59 : decode cX12_mow 59 = .ok (.iload_n 2, 1) := by decide +kernel
theorem dX12_mow_60 : decode cX12_mow 60 = .ok (.iaload, 1) := by decide +kernel
theorem dX12_mow_61 : decode cX12_mow 61 = .ok (.iastore, 1) := by decide +kernel
theorem dX12_mow_62 : decode cX12_mow 62 = .ok (.iinc 2 1, 3) := by decide +kernel
theorem dX12_mow_65 : decode cX12_mow 65 = .ok (.goto (-39), 3) := by decide +kernel
theorem dX12_mow_68 : decode cX12_mow 68 = .ok (.aload_n 0, 1) := by decide +kernel
theorem dX12_mow_69 : decode cX12_mow 69 = .ok (.getfield 43, 3) := by decide +kernel
theorem dX12_mow_72 : decode cX12_mow 72 = .ok (.iconst 1, 1) := by decide +kernel
theorem dX12_mow_73 : decode cX12_mow 73 = .ok (.iaload, 1) := by decide +kernel
theorem dX12_mow_74 : decode cX12_mow 74 = .ok (.ireturn, 1) := by decide +kernel
theorem dX12_layCord_0 : decode cX12_layCord 0 = .ok (.aload_n 0, 1) := by decide +kernel
theorem dX12_layCord_1 : decode cX12_layCord 1 = .ok (.getfield 55, 3) := by decide +kernel
theorem dX12_layCord_4 : decode cX12_layCord 4 = .ok (.iconst 0, 1) := by decide +kernel
theorem dX12_layCord_5 : decode cX12_layCord 5 = .ok (.aload_n 0, 1) := by decide +kernel
theorem dX12_layCord_6 : decode cX12_layCord 6 = .ok (.getfield 28, 3) := by decide +kernel
theorem dX12_layCord_9 : decode cX12_layCord 9 = .ok (.iconst 0, 1) := by decide +kernel
theorem dX12_layCord_10 : decode cX12_layCord 10 = .ok (.iaload, 1) := by decide +kernel
theorem dX12_layCord_11 : decode cX12_layCord 11 = .ok (.iastore, 1) := by decide +kernel
theorem dX12_layCord_12 : decode cX12_layCord 12 = .ok (.aload_n 0, 1) := by decide +kernel
theorem dX12_layCord_13 : decode cX12_layCord 13 = .ok (.iconst 1, 1) := by decide +kernel
theorem dX12_layCord_14 : decode cX12_layCord 14 = .ok (.putfield 222, 3) := by decide +kernel
theorem dX12_layCord_17 : decode cX12_layCord 17 = .ok (.aload_n 0, 1) := by decide +kernel
theorem dX12_layCord_18 : decode cX12_layCord 18 = .ok (.iconst 0, 1) := by decide +kernel
theorem dX12_layCord_19 : decode cX12_layCord 19 = .ok (.putfield 225, 3) := by decide +kernel
theorem dX12_layCord_22 : decode cX12_layCord 22 = .ok (.aload_n 0, 1) := by decide +kernel
theorem dX12_layCord_23 : decode cX12_layCord 23 = .ok (.iconst 0, 1) := by decide +kernel
theorem dX12_layCord_24 : decode cX12_layCord 24 = .ok (.putfield 228, 3) := by decide +kernel
theorem dX12_layCord_27 : decode cX12_layCord 27 = .ok (.aload_n 0, 1) := by decide +kernel
theorem dX12_layCord_28 : decode cX12_layCord 28 = .ok (.bipush (-4), 2) := by decide +kernel
theorem dX12_layCord_30 : decode cX12_layCord 30 = .ok (.putfield 231, 3) := by decide +kernel
theorem dX12_layCord_33 : decode cX12_layCord 33 = .ok (.aload_n 0, 1) := by decide +kernel
theorem dX12_layCord_34 : decode cX12_layCord 34 = .ok (.bipush (-4), 2) := by decide +kernel
theorem dX12_layCord_36 : decode cX12_layCord 36 = .ok (.putfield 234, 3) := by decide +kernel
theorem dX12_layCord_39 : decode cX12_layCord 39 = .ok (.iconst 1, 1) := by decide +kernel
theorem dX12_layCord_40 : decode cX12_layCord 40 = .ok (.istore_n 2, 1) := by decide +kernel
theorem dX12_layCord_41 : decode cX12_layCord 41 = .ok (.iload_n 2, 1) := by decide +kernel
theorem dX12_layCord_42 : decode cX12_layCord 42 = .ok (.iload_n 1, 1) := by decide +kernel
theorem dX12_layCord_43 : decode cX12_layCord 43 = .ok (.if_icmp .gt 227, 3) := by decide +kernel
theorem dX12_layCord_46 : decode cX12_layCord 46 = .ok (.aload_n 0, 1) := by decide +kernel
theorem dX12_layCord_47 : decode cX12_layCord 47 = .ok (.getfield 52, 3) := by decide +kernel
theorem dX12_layCord_50 : decode cX12_layCord 50 = .ok (.iload_n 2, 1) := by decide +kernel
theorem dX12_layCord_51 : decode cX12_layCord 51 = .ok (.iaload, 1) := by decide +kernel
theorem dX12_layCord_52 : decode cX12_layCord 52 = .ok (.istore_n 3, 1) := by decide +kernel
theorem dX12_layCord_53 : decode cX12_layCord 53 = .ok (.aload_n 0, 1) := by decide +kernel
theorem dX12_layCord_54 : decode cX12_layCord 54 = .ok (.getfield 222, 3) := by decide +kernel
theorem dX12_layCord_57 : decode cX12_layCord 57 = .ok (.iconst 1, 1) := by decide +kernel
theorem dX12_layCord_58 : decode cX12_layCord 58 = .ok (.if_icmp .le 31, 3) := by decide +kernel
theorem dX12_layCord_61 : decode cX12_layCord 61 = .ok (.aload_n 0, 1) := by decide +kernel
theorem dX12_layCord_62 : decode cX12_layCord 62 = .ok (.getfield 55, 3) := by decide +kernel
theorem dX12_layCord_65 : decode cX12_layCord 65 = .ok (.aload_n 0, 1) := by decide +kernel
theorem dX12_layCord_66 : decode cX12_layCord 66 = .ok (.getfield 222, 3) := by decide +kernel
theorem dX12_layCord_69 : decode cX12_layCord 69 = .ok (.iconst 2, 1) := by decide +kernel
theorem dX12_layCord_70 : decode cX12_layCord 70 = .ok (.isub, 1) := by decide +kernel
theorem dX12_layCord_71 : decode cX12_layCord 71 = .ok (.iaload, 1) := by decide +kernel
theorem dX12_layCord_72 : decode cX12_layCord 72 = .ok (.iload_n 3, 1) := by decide +kernel
theorem dX12_layCord_73 : decode cX12_layCord 73 = .ok (.if_icmp .ne 16, 3) := by decide +kernel
theorem dX12_layCord_76 : decode cX12_layCord 76 = .ok (.aload_n 0, 1) := by decide +kernel
theorem dX12_layCord_77 : decode cX12_layCord 77 = .ok (.dup, 1) := by decide +kernel
theorem dX12_layCord_78 : decode cX12_layCord 78 = .ok (.getfield 222, 3) := by decide +kernel
theorem dX12_layCord_81 : decode cX12_layCord 81 = .ok (.iconst 1, 1) := by decide +kernel
theorem dX12_layCord_82 : decode cX12_layCord 82 = .ok (.isub, 1) := by decide +kernel
theorem dX12_layCord_83 : decode cX12_layCord 83 = .ok (.putfield 222, 3) := by decide +kernel
theorem dX12_layCord_86 : decode cX12_layCord 86 = .ok (.goto 112, 3) := by decide +kernel
theorem dX12_layCord_89 : decode cX12_layCord 89 = .ok (.iconst 0, 1) := by decide +kernel
theorem dX12_layCord_90 : decode cX12_layCord 90 = .ok (.istore 4, 2) := by decide +kernel
theorem dX12_layCord_92 : decode cX12_layCord 92 = .ok (.iconst 0, 1) := by decide +kernel
theorem dX12_layCord_93 : decode cX12_layCord 93 = .ok (.istore 5, 2) := by decide +kernel
theorem dX12_layCord_95 : decode cX12_layCord 95 = .ok (.iload 5, 2) := by decide +kernel
theorem dX12_layCord_97 : decode cX12_layCord 97 = .ok (.aload_n 0, 1) := by decide +kernel
theorem dX12_layCord_98 : decode cX12_layCord 98 = .ok (.getfield 222, 3) := by decide +kernel
theorem dX12_layCord_101 : decode cX12_layCord 101 = .ok (.if_icmp .ge 32, 3) := by decide +kernel
theorem dX12_layCord_104 : decode cX12_layCord 104 = .ok (.iload 4, 2) := by decide +kernel
theorem dX12_layCord_106 : decode cX12_layCord 106 = .ok (.ifCond .ne 14, 3) := by decide +kernel
theorem dX12_layCord_109 : decode cX12_layCord 109 = .ok (.aload_n 0, 1) := by decide +kernel
theorem dX12_layCord_110 : decode cX12_layCord 110 = .ok (.getfield 55, 3) := by decide +kernel
theorem dX12_layCord_113 : decode cX12_layCord 113 = .ok (.iload 5, 2) := by decide +kernel
theorem dX12_layCord_115 : decode cX12_layCord 115 = .ok (.iaload, 1) := by decide +kernel
theorem dX12_layCord_116 : decode cX12_layCord 116 = .ok (.iload_n 3, 1) := by decide +kernel
theorem dX12_layCord_117 : decode cX12_layCord 117 = .ok (.if_icmp .ne 7, 3) := by decide +kernel
theorem dX12_layCord_120 : decode cX12_layCord 120 = .ok (.iconst 1, 1) := by decide +kernel
theorem dX12_layCord_121 : decode cX12_layCord 121 = .ok (.goto 4, 3) := by decide +kernel
theorem dX12_layCord_124 : decode cX12_layCord 124 = .ok (.iconst 0, 1) := by decide +kernel
theorem dX12_layCord_125 : decode cX12_layCord 125 = .ok (.istore 4, 2) := by decide +kernel
theorem dX12_layCord_127 : decode cX12_layCord 127 = .ok (.iinc 5 1, 3) := by decide +kernel
theorem dX12_layCord_130 : decode cX12_layCord 130 = .ok (.goto (-35), 3) := by decide +kernel
theorem dX12_layCord_133 : decode cX12_layCord 133 = .ok (.aload_n 0, 1) := by decide +kernel
theorem dX12_layCord_134 : decode cX12_layCord 134 = .ok (.dup, 1) := by decide +kernel
theorem dX12_layCord_135 : decode cX12_layCord 135 = .ok (.getfield 225, 3) := by decide +kernel
theorem dX12_layCord_138 : decode cX12_layCord 138 = .ok (.iload 4, 2) := by decide +kernel
theorem dX12_layCord_140 : decode cX12_layCord 140 = .ok (.ifCond .eq 7, 3) := by decide +kernel
theorem dX12_layCord_143 : decode cX12_layCord 143 = .ok (.iconst 1, 1) := by decide +kernel
theorem dX12_layCord_144 : decode cX12_layCord 144 = .ok (.goto 4, 3) := by decide +kernel
theorem dX12_layCord_147 : decode cX12_layCord 147 = .ok (.iconst 0, 1) := by decide +kernel
theorem dX12_layCord_148 : decode cX12_layCord 148 = .ok (.iadd, 1) := by decide +kernel
theorem dX12_layCord_149 : decode cX12_layCord 149 = .ok (.putfield 225, 3) := by decide +kernel
theorem dX12_layCord_152 : decode cX12_layCord 152 = .ok (.aload_n 0, 1) := by decide +kernel
theorem dX12_layCord_153 : decode cX12_layCord 153 = .ok (.iload 4, 2) := by decide +kernel
theorem dX12_layCord_155 : decode cX12_layCord 155 = .ok (.ifCond .eq 16, 3) := by decide +kernel
theorem dX12_layCord_158 : decode cX12_layCord 158 = .ok (.aload_n 0, 1) := by decide +kernel
theorem dX12_layCord_159 : decode cX12_layCord 159 = .ok (.getfield 231, 3) := by decide +kernel
theorem dX12_layCord_162 : decode cX12_layCord 162 = .ok (.bipush (-4), 2) := by decide +kernel
theorem dX12_layCord_164 : decode cX12_layCord 164 = .ok (.if_icmp .ne 7, 3) := by decide +kernel
theorem dX12_layCord_167 : decode cX12_layCord 167 = .ok (.iload_n 2, 1) := by decide +kernel
theorem dX12_layCord_168 : decode cX12_layCord 168 = .ok (.goto 7, 3) := by decide +kernel
theorem dX12_layCord_171 : decode cX12_layCord 171 = .ok (.aload_n 0, 1) := by decide +kernel
theorem dX12_layCord_172 : decode cX12_layCord 172 = .ok (.getfield 231, 3) := by decide +kernel
theorem dX12_layCord_175 : decode cX12_layCord 175 = .ok (.putfield 231, 3) := by decide +kernel
theorem dX12_layCord_178 : decode cX12_layCord 178 = .ok (.aload_n 0, 1) := by decide +kernel
theorem dX12_layCord_179 : decode cX12_layCord 179 = .ok (.getfield 55, 3) := by decide +kernel
theorem dX12_layCord_182 : decode cX12_layCord 182 = .ok (.aload_n 0, 1) := by decide +kernel
theorem dX12_layCord_183 : decode cX12_layCord 183 = .ok (.getfield 222, 3) := by decide +kernel
theorem dX12_layCord_186 : decode cX12_layCord 186 = .ok (.iload_n 3, 1) := by decide +kernel
theorem dX12_layCord_187 : decode cX12_layCord 187 = .ok (.iastore, 1) := by decide +kernel
theorem dX12_layCord_188 : decode cX12_layCord 188 = .ok (.aload_n 0, 1) := by decide +kernel
theorem dX12_layCord_189 : decode cX12_layCord 189 = .ok (.dup, 1) := by decide +kernel
theorem dX12_layCord_190 : decode cX12_layCord 190 = .ok (.getfield 222, 3) := by decide +kernel
theorem dX12_layCord_193 : decode cX12_layCord 193 = .ok (.iconst 1, 1) := by decide +kernel
theorem dX12_layCord_194 : decode cX12_layCord 194 = .ok (.iadd, 1) := by decide +kernel
theorem dX12_layCord_195 : decode cX12_layCord 195 = .ok (.putfield 222, 3) := by decide +kernel
theorem dX12_layCord_198 : decode cX12_layCord 198 = .ok (.aload_n 0, 1) := by decide +kernel
theorem dX12_layCord_199 : decode cX12_layCord 199 = .ok (.aload_n 0, 1) := by decide +kernel
theorem dX12_layCord_200 : decode cX12_layCord 200 = .ok (.getfield 222, 3) := by decide +kernel
theorem dX12_layCord_203 : decode cX12_layCord 203 = .ok (.iconst 1, 1) := by decide +kernel
theorem dX12_layCord_204 : decode cX12_layCord 204 = .ok (.isub, 1) := by decide +kernel
theorem dX12_layCord_205 : decode cX12_layCord 205 = .ok (.aload_n 0, 1) := by decide +kernel
theorem dX12_layCord_206 : decode cX12_layCord 206 = .ok (.getfield 228, 3) := by decide +kernel
theorem dX12_layCord_209 : decode cX12_layCord 209 = .ok (.if_icmp .le 12, 3) := by decide +kernel
theorem dX12_layCord_212 : decode cX12_layCord 212 = .ok (.aload_n 0, 1) := by decide +kernel
theorem dX12_layCord_213 : decode cX12_layCord 213 = .ok (.getfield 222, 3) := by decide +kernel
theorem dX12_layCord_216 : decode cX12_layCord 216 = .ok (.iconst 1, 1) := by decide +kernel
theorem dX12_layCord_217 : decode cX12_layCord 217 = .ok (.isub, 1) := by decide +kernel
theorem dX12_layCord_218 : decode cX12_layCord 218 = .ok (.goto 7, 3) := by decide +kernel
theorem dX12_layCord_221 : decode cX12_layCord 221 = .ok (.aload_n 0, 1) := by decide +kernel
theorem dX12_layCord_222 : decode cX12_layCord 222 = .ok (.getfield 228, 3) := by decide +kernel
theorem dX12_layCord_225 : decode cX12_layCord 225 = .ok (.putfield 228, 3) := by decide +kernel
theorem dX12_layCord_228 : decode cX12_layCord 228 = .ok (.aload_n 0, 1) := by decide +kernel
theorem dX12_layCord_229 : decode cX12_layCord 229 = .ok (.aload_n 0, 1) := by decide +kernel
theorem dX12_layCord_230 : decode cX12_layCord 230 = .ok (.getfield 222, 3) := by decide +kernel
theorem dX12_layCord_233 : decode cX12_layCord 233 = .ok (.iconst 1, 1) := by decide +kernel
theorem dX12_layCord_234 : decode cX12_layCord 234 = .ok (.isub, 1) := by decide +kernel
theorem dX12_layCord_235 : decode cX12_layCord 235 = .ok (.aload_n 0, 1) := by decide +kernel
theorem dX12_layCord_236 : decode cX12_layCord 236 = .ok (.getfield 28, 3) := by decide +kernel
theorem dX12_layCord_239 : decode cX12_layCord 239 = .ok (.iconst 5, 1) := by decide +kernel
theorem dX12_layCord_240 : decode cX12_layCord 240 = .ok (.iaload, 1) := by decide +kernel
theorem dX12_layCord_241 : decode cX12_layCord 241 = .ok (.if_icmp .le 16, 3) := by decide +kernel
theorem dX12_layCord_244 : decode cX12_layCord 244 = .ok (.aload_n 0, 1) := by decide +kernel
theorem dX12_layCord_245 : decode cX12_layCord 245 = .ok (.getfield 234, 3) := by decide +kernel
theorem dX12_layCord_248 : decode cX12_layCord 248 = .ok (.bipush (-4), 2) := by decide +kernel
theorem dX12_layCord_250 : decode cX12_layCord 250 = .ok (.if_icmp .ne 7, 3) := by decide +kernel
theorem dX12_layCord_253 : decode cX12_layCord 253 = .ok (.iload_n 2, 1) := by decide +kernel
theorem dX12_layCord_254 : decode cX12_layCord 254 = .ok (.goto 7, 3) := by decide +kernel
theorem dX12_layCord_257 : decode cX12_layCord 257 = .ok (.aload_n 0, 1) := by decide +kernel
theorem dX12_layCord_258 : decode cX12_layCord 258 = .ok (.getfield 234, 3) := by decide +kernel
theorem dX12_layCord_261 : decode cX12_layCord 261 = .ok (.putfield 234, 3) := by decide +kernel
theorem dX12_layCord_264 : decode cX12_layCord 264 = .ok (.iinc 2 1, 3) := by decide +kernel
theorem dX12_layCord_267 : decode cX12_layCord 267 = .ok (.goto (-226), 3) := by decide +kernel
theorem dX12_layCord_270 : decode cX12_layCord 270 = .ok (.return_, 1) := by decide +kernel
theorem dX12_cord_0 : decode cX12_cord 0 = .ok (.aload_n 0, 1) := by decide +kernel
theorem dX12_cord_1 : decode cX12_cord 1 = .ok (.invokevirtual 175, 3) := by decide +kernel
theorem dX12_cord_4 : decode cX12_cord 4 = .ok (.aload_n 0, 1) := by decide +kernel
theorem dX12_cord_5 : decode cX12_cord 5 = .ok (.iconst 0, 1) := by decide +kernel
theorem dX12_cord_6 : decode cX12_cord 6 = .ok (.aload_n 0, 1) := by decide +kernel
theorem dX12_cord_7 : decode cX12_cord 7 = .ok (.getfield 28, 3) := by decide +kernel
theorem dX12_cord_10 : decode cX12_cord 10 = .ok (.iconst 3, 1) := by decide +kernel
theorem dX12_cord_11 : decode cX12_cord 11 = .ok (.iaload, 1) := by decide +kernel
theorem dX12_cord_12 : decode cX12_cord 12 = .ok (.invokevirtual 219, 3) := by decide +kernel
theorem dX12_cord_15 : decode cX12_cord 15 = .ok (.iload_n 1, 1) := by decide +kernel
theorem dX12_cord_16 : decode cX12_cord 16 = .ok (.i2l, 1) := by decide +kernel
theorem dX12_cord_17 : decode cX12_cord 17 = .ok (.lconst 0, 1) := by decide +kernel
theorem dX12_cord_18 : decode cX12_cord 18 = .ok (.aload_n 0, 1) := by decide +kernel
theorem dX12_cord_19 : decode cX12_cord 19 = .ok (.getfield 43, 3) := by decide +kernel
theorem dX12_cord_22 : decode cX12_cord 22 = .ok (.iconst 2, 1) := by decide +kernel
theorem dX12_cord_23 : decode cX12_cord 23 = .ok (.iaload, 1) := by decide +kernel
theorem dX12_cord_24 : decode cX12_cord 24 = .ok (.i2l, 1) := by decide +kernel
theorem dX12_cord_25 : decode cX12_cord 25 = .ok (.invokestatic 94, 3) := by decide +kernel
theorem dX12_cord_28 : decode cX12_cord 28 = .ok (.ifCond .eq 15, 3) := by decide +kernel
theorem dX12_cord_31 : decode cX12_cord 31 = .ok (.iload_n 2, 1) := by decide +kernel
theorem dX12_cord_32 : decode cX12_cord 32 = .ok (.i2l, 1) := by decide +kernel
theorem dX12_cord_33 : decode cX12_cord 33 = .ok (.lconst 0, 1) := by decide +kernel
theorem dX12_cord_34 : decode cX12_cord 34 = .ok (.ldc2_w 182, 3) := by decide +kernel
theorem dX12_cord_37 : decode cX12_cord 37 = .ok (.invokestatic 94, 3) := by decide +kernel
theorem dX12_cord_40 : decode cX12_cord 40 = .ok (.ifCond .ne 7, 3) := by decide +kernel
theorem dX12_cord_43 : decode cX12_cord 43 = .ok (.ldc2_w 237, 3) := by decide +kernel
theorem dX12_cord_46 : decode cX12_cord 46 = .ok (.lreturn, 1) := by decide +kernel
theorem dX12_cord_47 : decode cX12_cord 47 = .ok (.aload_n 0, 1) := by decide +kernel
theorem dX12_cord_48 : decode cX12_cord 48 = .ok (.iload_n 1, 1) := by decide +kernel
theorem dX12_cord_49 : decode cX12_cord 49 = .ok (.invokevirtual 239, 3) := by decide +kernel
theorem dX12_cord_52 : decode cX12_cord 52 = .ok (.lconst 0, 1) := by decide +kernel
theorem dX12_cord_53 : decode cX12_cord 53 = .ok (.lstore_n 3, 1) := by decide +kernel
theorem dX12_cord_54 : decode cX12_cord 54 = .ok (.iconst 0, 1) := by decide +kernel
theorem dX12_cord_55 : decode cX12_cord 55 = .ok (.istore 5, 2) := by decide +kernel
theorem dX12_cord_57 : decode cX12_cord 57 = .ok (.iload 5, 2) := by decide +kernel
theorem dX12_cord_59 : decode cX12_cord 59 = .ok (.aload_n 0, 1) := by decide +kernel
theorem dX12_cord_60 : decode cX12_cord 60 = .ok (.getfield 222, 3) := by decide +kernel
theorem dX12_cord_63 : decode cX12_cord 63 = .ok (.if_icmp .ge 21, 3) := by decide +kernel
theorem dX12_cord_66 : decode cX12_cord 66 = .ok (.lload_n 3, 1) := by decide +kernel
theorem dX12_cord_67 : decode cX12_cord 67 = .ok (.lconst 1, 1) := by decide +kernel
theorem dX12_cord_68 : decode cX12_cord 68 = .ok (.aload_n 0, 1) := by decide +kernel
theorem dX12_cord_69 : decode cX12_cord 69 = .ok (.getfield 55, 3) := by decide +kernel
theorem dX12_cord_72 : decode cX12_cord 72 = .ok (.iload 5, 2) := by decide +kernel
theorem dX12_cord_74 : decode cX12_cord 74 = .ok (.iaload, 1) := by decide +kernel
theorem dX12_cord_75 : decode cX12_cord 75 = .ok (.lshl, 1) := by decide +kernel
theorem dX12_cord_76 : decode cX12_cord 76 = .ok (.lor, 1) := by decide +kernel
theorem dX12_cord_77 : decode cX12_cord 77 = .ok (.lstore_n 3, 1) := by decide +kernel
theorem dX12_cord_78 : decode cX12_cord 78 = .ok (.iinc 5 1, 3) := by decide +kernel
theorem dX12_cord_81 : decode cX12_cord 81 = .ok (.goto (-24), 3) := by decide +kernel
theorem dX12_cord_84 : decode cX12_cord 84 = .ok (.iload_n 2, 1) := by decide +kernel
theorem dX12_cord_85 : decode cX12_cord 85 = .ok (.ifCond .ne 13, 3) := by decide +kernel
theorem dX12_cord_88 : decode cX12_cord 88 = .ok (.aload_n 0, 1) := by decide +kernel
theorem dX12_cord_89 : decode cX12_cord 89 = .ok (.getfield 222, 3) := by decide +kernel
theorem dX12_cord_92 : decode cX12_cord 92 = .ok (.iconst 1, 1) := by decide +kernel
theorem dX12_cord_93 : decode cX12_cord 93 = .ok (.isub, 1) := by decide +kernel
theorem dX12_cord_94 : decode cX12_cord 94 = .ok (.i2l, 1) := by decide +kernel
theorem dX12_cord_95 : decode cX12_cord 95 = .ok (.goto 30, 3) := by decide +kernel
theorem dX12_cord_98 : decode cX12_cord 98 = .ok (.iload_n 2, 1) := by decide +kernel
theorem dX12_cord_99 : decode cX12_cord 99 = .ok (.iconst 1, 1) := by decide +kernel
theorem dX12_cord_100 : decode cX12_cord 100 = .ok (.if_icmp .ne 7, 3) := by decide +kernel
theorem dX12_cord_103 : decode cX12_cord 103 = .ok (.lload_n 3, 1) := by decide +kernel
theorem dX12_cord_104 : decode cX12_cord 104 = .ok (.goto 21, 3) := by decide +kernel
theorem dX12_cord_107 : decode cX12_cord 107 = .ok (.iload_n 2, 1) := by decide +kernel
theorem dX12_cord_108 : decode cX12_cord 108 = .ok (.iconst 2, 1) := by decide +kernel
theorem dX12_cord_109 : decode cX12_cord 109 = .ok (.if_icmp .ne 11, 3) := by decide +kernel
theorem dX12_cord_112 : decode cX12_cord 112 = .ok (.aload_n 0, 1) := by decide +kernel
theorem dX12_cord_113 : decode cX12_cord 113 = .ok (.getfield 225, 3) := by decide +kernel
theorem dX12_cord_116 : decode cX12_cord 116 = .ok (.i2l, 1) := by decide +kernel
theorem dX12_cord_117 : decode cX12_cord 117 = .ok (.goto 8, 3) := by decide +kernel
theorem dX12_cord_120 : decode cX12_cord 120 = .ok (.aload_n 0, 1) := by decide +kernel
theorem dX12_cord_121 : decode cX12_cord 121 = .ok (.getfield 228, 3) := by decide +kernel
theorem dX12_cord_124 : decode cX12_cord 124 = .ok (.i2l, 1) := by decide +kernel
theorem dX12_cord_125 : decode cX12_cord 125 = .ok (.lreturn, 1) := by decide +kernel
theorem dX12_trips_0 : decode cX12_trips 0 = .ok (.aload_n 0, 1) := by decide +kernel
theorem dX12_trips_1 : decode cX12_trips 1 = .ok (.invokevirtual 175, 3) := by decide +kernel
theorem dX12_trips_4 : decode cX12_trips 4 = .ok (.iload_n 1, 1) := by decide +kernel
theorem dX12_trips_5 : decode cX12_trips 5 = .ok (.i2l, 1) := by decide +kernel
theorem dX12_trips_6 : decode cX12_trips 6 = .ok (.lconst 0, 1) := by decide +kernel
theorem dX12_trips_7 : decode cX12_trips 7 = .ok (.lconst 1, 1) := by decide +kernel
theorem dX12_trips_8 : decode cX12_trips 8 = .ok (.invokestatic 94, 3) := by decide +kernel
theorem dX12_trips_11 : decode cX12_trips 11 = .ok (.ifCond .ne 5, 3) := by decide +kernel
theorem dX12_trips_14 : decode cX12_trips 14 = .ok (.iconst (-1), 1) := by decide +kernel
theorem dX12_trips_15 : decode cX12_trips 15 = .ok (.ireturn, 1) := by decide +kernel
theorem dX12_trips_16 : decode cX12_trips 16 = .ok (.aload_n 0, 1) := by decide +kernel
theorem dX12_trips_17 : decode cX12_trips 17 = .ok (.iconst 0, 1) := by decide +kernel
theorem dX12_trips_18 : decode cX12_trips 18 = .ok (.aload_n 0, 1) := by decide +kernel
theorem dX12_trips_19 : decode cX12_trips 19 = .ok (.getfield 28, 3) := by decide +kernel
theorem dX12_trips_22 : decode cX12_trips 22 = .ok (.iconst 3, 1) := by decide +kernel
theorem dX12_trips_23 : decode cX12_trips 23 = .ok (.iaload, 1) := by decide +kernel
theorem dX12_trips_24 : decode cX12_trips 24 = .ok (.invokevirtual 219, 3) := by decide +kernel
theorem dX12_trips_27 : decode cX12_trips 27 = .ok (.aload_n 0, 1) := by decide +kernel
theorem dX12_trips_28 : decode cX12_trips 28 = .ok (.aload_n 0, 1) := by decide +kernel
theorem dX12_trips_29 : decode cX12_trips 29 = .ok (.getfield 43, 3) := by decide +kernel
theorem dX12_trips_32 : decode cX12_trips 32 = .ok (.iconst 2, 1) := by decide +kernel
theorem dX12_trips_33 : decode cX12_trips 33 = .ok (.iaload, 1) := by decide +kernel
theorem dX12_trips_34 : decode cX12_trips 34 = .ok (.invokevirtual 239, 3) := by decide +kernel
theorem dX12_trips_37 : decode cX12_trips 37 = .ok (.iload_n 1, 1) := by decide +kernel
theorem dX12_trips_38 : decode cX12_trips 38 = .ok (.ifCond .ne 10, 3) := by decide +kernel
theorem dX12_trips_41 : decode cX12_trips 41 = .ok (.aload_n 0, 1) := by decide +kernel
theorem dX12_trips_42 : decode cX12_trips 42 = .ok (.getfield 231, 3) := by decide +kernel
theorem dX12_trips_45 : decode cX12_trips 45 = .ok (.goto 7, 3) := by decide +kernel
theorem dX12_trips_48 : decode cX12_trips 48 = .ok (.aload_n 0, 1) := by decide +kernel
theorem dX12_trips_49 : decode cX12_trips 49 = .ok (.getfield 234, 3) := by decide +kernel
theorem dX12_trips_52 : decode cX12_trips 52 = .ok (.ireturn, 1) := by decide +kernel
theorem dX12_begin_0 : decode cX12_begin 0 = .ok (.aload_n 0, 1) := by decide +kernel
theorem dX12_begin_1 : decode cX12_begin 1 = .ok (.invokevirtual 175, 3) := by decide +kernel
theorem dX12_begin_4 : decode cX12_begin 4 = .ok (.iconst 0, 1) := by decide +kernel
theorem dX12_begin_5 : decode cX12_begin 5 = .ok (.istore_n 1, 1) := by decide +kernel
theorem dX12_begin_6 : decode cX12_begin 6 = .ok (.iload_n 1, 1) := by decide +kernel
theorem dX12_begin_7 : decode cX12_begin 7 = .ok (.sipush 999, 3) := by decide +kernel
theorem dX12_begin_10 : decode cX12_begin 10 = .ok (.if_icmp .gt 32, 3) := by decide +kernel
theorem dX12_begin_13 : decode cX12_begin 13 = .ok (.aload_n 0, 1) := by decide +kernel
theorem dX12_begin_14 : decode cX12_begin 14 = .ok (.iload_n 1, 1) := by decide +kernel
theorem dX12_begin_15 : decode cX12_begin 15 = .ok (.aload_n 0, 1) := by decide +kernel
theorem dX12_begin_16 : decode cX12_begin 16 = .ok (.getfield 28, 3) := by decide +kernel
theorem dX12_begin_19 : decode cX12_begin 19 = .ok (.iconst 3, 1) := by decide +kernel
theorem dX12_begin_20 : decode cX12_begin 20 = .ok (.iaload, 1) := by decide +kernel
theorem dX12_begin_21 : decode cX12_begin 21 = .ok (.invokevirtual 219, 3) := by decide +kernel
theorem dX12_begin_24 : decode cX12_begin 24 = .ok (.aload_n 0, 1) := by decide +kernel
theorem dX12_begin_25 : decode cX12_begin 25 = .ok (.getfield 43, 3) := by decide +kernel
theorem dX12_begin_28 : decode cX12_begin 28 = .ok (.bipush 8, 2) := by decide +kernel
theorem dX12_begin_30 : decode cX12_begin 30 = .ok (.iaload, 1) := by decide +kernel
theorem dX12_begin_31 : decode cX12_begin 31 = .ok (.ifCond .ne 5, 3) := by decide +kernel
theorem dX12_begin_34 : decode cX12_begin 34 = .ok (.iload_n 1, 1) := by decide +kernel
theorem dX12_begin_35 : decode cX12_begin 35 = .ok (.ireturn, 1) := by decide +kernel
theorem dX12_begin_36 : decode cX12_begin 36 = .ok (.iinc 1 1, 3) := by decide +kernel
theorem dX12_begin_39 : decode cX12_begin 39 = .ok (.goto (-33), 3) := by decide +kernel
theorem dX12_begin_42 : decode cX12_begin 42 = .ok (.bipush (-4), 2) := by decide +kernel
theorem dX12_begin_44 : decode cX12_begin 44 = .ok (.ireturn, 1) := by decide +kernel
theorem dX12_need_0 : decode cX12_need 0 = .ok (.aload_n 0, 1) := by decide +kernel
theorem dX12_need_1 : decode cX12_need 1 = .ok (.invokevirtual 175, 3) := by decide +kernel
theorem dX12_need_4 : decode cX12_need 4 = .ok (.iload_n 1, 1) := by decide +kernel
theorem dX12_need_5 : decode cX12_need 5 = .ok (.invokestatic 214, 3) := by decide +kernel
theorem dX12_need_8 : decode cX12_need 8 = .ok (.ifCond .ne 5, 3) := by decide +kernel
theorem dX12_need_11 : decode cX12_need 11 = .ok (.iconst (-1), 1) := by decide +kernel
theorem dX12_need_12 : decode cX12_need 12 = .ok (.ireturn, 1) := by decide +kernel
theorem dX12_need_13 : decode cX12_need 13 = .ok (.iconst 1, 1) := by decide +kernel
theorem dX12_need_14 : decode cX12_need 14 = .ok (.istore_n 2, 1) := by decide +kernel
theorem dX12_need_15 : decode cX12_need 15 = .ok (.iload_n 2, 1) := by decide +kernel
theorem dX12_need_16 : decode cX12_need 16 = .ok (.sipush 999, 3) := by decide +kernel
theorem dX12_need_19 : decode cX12_need 19 = .ok (.if_icmp .gt 27, 3) := by decide +kernel
theorem dX12_need_22 : decode cX12_need 22 = .ok (.aload_n 0, 1) := by decide +kernel
theorem dX12_need_23 : decode cX12_need 23 = .ok (.iload_n 1, 1) := by decide +kernel
theorem dX12_need_24 : decode cX12_need 24 = .ok (.iload_n 2, 1) := by decide +kernel
theorem dX12_need_25 : decode cX12_need 25 = .ok (.invokevirtual 219, 3) := by decide +kernel
theorem dX12_need_28 : decode cX12_need 28 = .ok (.aload_n 0, 1) := by decide +kernel
theorem dX12_need_29 : decode cX12_need 29 = .ok (.getfield 43, 3) := by decide +kernel
theorem dX12_need_32 : decode cX12_need 32 = .ok (.bipush 9, 2) := by decide +kernel
theorem dX12_need_34 : decode cX12_need 34 = .ok (.iaload, 1) := by decide +kernel
theorem dX12_need_35 : decode cX12_need 35 = .ok (.ifCond .ne 5, 3) := by decide +kernel
theorem dX12_need_38 : decode cX12_need 38 = .ok (.iload_n 2, 1) := by decide +kernel
theorem dX12_need_39 : decode cX12_need 39 = .ok (.ireturn, 1) := by decide +kernel
theorem dX12_need_40 : decode cX12_need 40 = .ok (.iinc 2 1, 3) := by decide +kernel
theorem dX12_need_43 : decode cX12_need 43 = .ok (.goto (-28), 3) := by decide +kernel
theorem dX12_need_46 : decode cX12_need 46 = .ok (.bipush (-4), 2) := by decide +kernel
theorem dX12_need_48 : decode cX12_need 48 = .ok (.ireturn, 1) := by decide +kernel
theorem dX12_grassMany_0 : decode cX12_grassMany 0 = .ok (.iconst 0, 1) := by decide +kernel
theorem dX12_grassMany_1 : decode cX12_grassMany 1 = .ok (.istore_n 1, 1) := by decide +kernel
theorem dX12_grassMany_2 : decode cX12_grassMany 2 = .ok (.iconst 0, 1) := by decide +kernel
theorem dX12_grassMany_3 : decode cX12_grassMany 3 = .ok (.istore_n 2, 1) := by decide +kernel
theorem dX12_grassMany_4 : decode cX12_grassMany 4 = .ok (.iload_n 2, 1) := by decide +kernel
theorem dX12_grassMany_5 : decode cX12_grassMany 5 = .ok (.bipush 36, 2) := by decide +kernel
theorem dX12_grassMany_7 : decode cX12_grassMany 7 = .ok (.if_icmp .ge 25, 3) := by decide +kernel
theorem dX12_grassMany_10 : decode cX12_grassMany 10 = .ok (.iload_n 1, 1) := by decide +kernel
theorem dX12_grassMany_11 : decode cX12_grassMany 11 = .ok (.aload_n 0, 1) := by decide +kernel
theorem dX12_grassMany_12 : decode cX12_grassMany 12 = .ok (.iload_n 2, 1) := by decide +kernel
theorem dX12_grassMany_13 : decode cX12_grassMany 13 = .ok (.invokevirtual 196, 3) := by decide +kernel
theorem dX12_grassMany_16 : decode cX12_grassMany 16 = .ok (.ifCond .eq 7, 3) := by decide +kernel
theorem dX12_grassMany_19 : decode cX12_grassMany 19 = .ok (.iconst 1, 1) := by decide +kernel
theorem dX12_grassMany_20 : decode cX12_grassMany 20 = .ok (.goto 4, 3) := by decide +kernel
theorem dX12_grassMany_23 : decode cX12_grassMany 23 = .ok (.iconst 0, 1) := by decide +kernel
theorem dX12_grassMany_24 : decode cX12_grassMany 24 = .ok (.iadd, 1) := by decide +kernel
theorem dX12_grassMany_25 : decode cX12_grassMany 25 = .ok (.istore_n 1, 1) := by decide +kernel
theorem dX12_grassMany_26 : decode cX12_grassMany 26 = .ok (.iinc 2 1, 3) := by decide +kernel
theorem dX12_grassMany_29 : decode cX12_grassMany 29 = .ok (.goto (-25), 3) := by decide +kernel
theorem dX12_grassMany_32 : decode cX12_grassMany 32 = .ok (.iload_n 1, 1) := by decide +kernel
theorem dX12_grassMany_33 : decode cX12_grassMany 33 = .ok (.ireturn, 1) := by decide +kernel
theorem dX12_stepCost_0 : decode cX12_stepCost 0 = .ok (.iload_n 2, 1) := by decide +kernel
theorem dX12_stepCost_1 : decode cX12_stepCost 1 = .ok (.iload_n 3, 1) := by decide +kernel
theorem dX12_stepCost_2 : decode cX12_stepCost 2 = .ok (.invokestatic 199, 3) := by decide +kernel
theorem dX12_stepCost_5 : decode cX12_stepCost 5 = .ok (.aload_n 0, 1) := by decide +kernel
theorem dX12_stepCost_6 : decode cX12_stepCost 6 = .ok (.getfield 28, 3) := by decide +kernel
theorem dX12_stepCost_9 : decode cX12_stepCost 9 = .ok (.iconst 1, 1) := by decide +kernel
theorem dX12_stepCost_10 : decode cX12_stepCost 10 = .ok (.iaload, 1) := by decide +kernel
theorem dX12_stepCost_11 : decode cX12_stepCost 11 = .ok (.imul, 1) := by decide +kernel
theorem dX12_stepCost_12 : decode cX12_stepCost 12 = .ok (.aload_n 0, 1) := by decide +kernel
theorem dX12_stepCost_13 : decode cX12_stepCost 13 = .ok (.aload_n 0, 1) := by decide +kernel
theorem dX12_stepCost_14 : decode cX12_stepCost 14 = .ok (.iload_n 1, 1) := by decide +kernel
theorem dX12_stepCost_15 : decode cX12_stepCost 15 = .ok (.iload_n 3, 1) := by decide +kernel
theorem dX12_stepCost_16 : decode cX12_stepCost 16 = .ok (.invokevirtual 202, 3) := by decide +kernel
theorem dX12_stepCost_19 : decode cX12_stepCost 19 = .ok (.iload_n 3, 1) := by decide +kernel
theorem dX12_stepCost_20 : decode cX12_stepCost 20 = .ok (.invokevirtual 205, 3) := by decide +kernel
theorem dX12_stepCost_23 : decode cX12_stepCost 23 = .ok (.iadd, 1) := by decide +kernel
theorem dX12_stepCost_24 : decode cX12_stepCost 24 = .ok (.ireturn, 1) := by decide +kernel
theorem dX12_behind_0 : decode cX12_behind 0 = .ok (.aload_n 0, 1) := by decide +kernel
theorem dX12_behind_1 : decode cX12_behind 1 = .ok (.iload_n 2, 1) := by decide +kernel
theorem dX12_behind_2 : decode cX12_behind 2 = .ok (.iload_n 3, 1) := by decide +kernel
theorem dX12_behind_3 : decode cX12_behind 3 = .ok (.invokevirtual 202, 3) := by decide +kernel
theorem dX12_behind_6 : decode cX12_behind 6 = .ok (.istore 4, 2) := by decide +kernel
theorem dX12_behind_8 : decode cX12_behind 8 = .ok (.sipush 144, 3) := by decide +kernel
theorem dX12_behind_11 : decode cX12_behind 11 = .ok (.iload_n 1, 1) := by decide +kernel
theorem dX12_behind_12 : decode cX12_behind 12 = .ok (.aload_n 0, 1) := by decide +kernel
theorem dX12_behind_13 : decode cX12_behind 13 = .ok (.getfield 58, 3) := by decide +kernel
theorem dX12_behind_16 : decode cX12_behind 16 = .ok (.iload 4, 2) := by decide +kernel
theorem dX12_behind_18 : decode cX12_behind 18 = .ok (.iaload, 1) := by decide +kernel
theorem dX12_behind_19 : decode cX12_behind 19 = .ok (.ior, 1) := by decide +kernel
theorem dX12_behind_20 : decode cX12_behind 20 = .ok (.imul, 1) := by decide +kernel
theorem dX12_behind_21 : decode cX12_behind 21 = .ok (.iconst 4, 1) := by decide +kernel
theorem dX12_behind_22 : decode cX12_behind 22 = .ok (.iload 4, 2) := by decide +kernel
theorem dX12_behind_24 : decode cX12_behind 24 = .ok (.imul, 1) := by decide +kernel
theorem dX12_behind_25 : decode cX12_behind 25 = .ok (.iadd, 1) := by decide +kernel
theorem dX12_behind_26 : decode cX12_behind 26 = .ok (.iload_n 3, 1) := by decide +kernel
theorem dX12_behind_27 : decode cX12_behind 27 = .ok (.iadd, 1) := by decide +kernel
theorem dX12_behind_28 : decode cX12_behind 28 = .ok (.ireturn, 1) := by decide +kernel
theorem dX12_oneSet_0 : decode cX12_oneSet 0 = .ok (.iconst 1, 1) := by decide +kernel
theorem dX12_oneSet_1 : decode cX12_oneSet 1 = .ok (.istore_n 2, 1) := by decide +kernel
theorem dX12_oneSet_2 : decode cX12_oneSet 2 = .ok (.iload_n 2, 1) := by decide +kernel
theorem dX12_oneSet_3 : decode cX12_oneSet 3 = .ok (.ifCond .eq 166, 3) := by decide +kernel
theorem dX12_oneSet_6 : decode cX12_oneSet 6 = .ok (.iconst 0, 1) := by decide +kernel
theorem dX12_oneSet_7 : decode cX12_oneSet 7 = .ok (.istore_n 2, 1) := by decide +kernel
theorem dX12_oneSet_8 : decode cX12_oneSet 8 = .ok (.iconst 0, 1) := by decide +kernel
theorem dX12_oneSet_9 : decode cX12_oneSet 9 = .ok (.istore_n 3, 1) := by decide +kernel
theorem dX12_oneSet_10 : decode cX12_oneSet 10 = .ok (.iload_n 3, 1) := by decide +kernel
theorem dX12_oneSet_11 : decode cX12_oneSet 11 = .ok (.sipush 144, 3) := by decide +kernel
theorem dX12_oneSet_14 : decode cX12_oneSet 14 = .ok (.if_icmp .ge 152, 3) := by decide +kernel
theorem dX12_oneSet_17 : decode cX12_oneSet 17 = .ok (.iload_n 3, 1) := by decide +kernel
theorem dX12_oneSet_18 : decode cX12_oneSet 18 = .ok (.iconst 4, 1) := by decide +kernel
theorem dX12_oneSet_19 : decode cX12_oneSet 19 = .ok (.idiv, 1) := by decide +kernel
theorem dX12_oneSet_20 : decode cX12_oneSet 20 = .ok (.istore 4, 2) := by decide +kernel
theorem dX12_oneSet_22 : decode cX12_oneSet 22 = .ok (.aload_n 0, 1) := by decide +kernel
theorem dX12_oneSet_23 : decode cX12_oneSet 23 = .ok (.getfield 61, 3) := by decide +kernel
theorem dX12_oneSet_26 : decode cX12_oneSet 26 = .ok (.sipush 144, 3) := by decide +kernel
theorem dX12_oneSet_29 : decode cX12_oneSet 29 = .ok (.iload_n 1, 1) := by decide +kernel
theorem dX12_oneSet_30 : decode cX12_oneSet 30 = .ok (.imul, 1) := by decide +kernel
theorem dX12_oneSet_31 : decode cX12_oneSet 31 = .ok (.iload_n 3, 1) := by decide +kernel
theorem dX12_oneSet_32 : decode cX12_oneSet 32 = .ok (.iadd, 1) := by decide +kernel
theorem dX12_oneSet_33 : decode cX12_oneSet 33 = .ok (.iaload, 1) := by decide +kernel
theorem dX12_oneSet_34 : decode cX12_oneSet 34 = .ok (.istore 5, 2) := by decide +kernel
theorem dX12_oneSet_36 : decode cX12_oneSet 36 = .ok (.iconst 0, 1) := by decide +kernel
theorem dX12_oneSet_37 : decode cX12_oneSet 37 = .ok (.istore 6, 2) := by decide +kernel
theorem dX12_oneSet_39 : decode cX12_oneSet 39 = .ok (.iload 6, 2) := by decide +kernel
theorem dX12_oneSet_41 : decode cX12_oneSet 41 = .ok (.iconst 4, 1) := by decide +kernel
theorem dX12_oneSet_42 : decode cX12_oneSet 42 = .ok (.if_icmp .ge 77, 3) := by decide +kernel
theorem dX12_oneSet_45 : decode cX12_oneSet 45 = .ok (.aload_n 0, 1) := by decide +kernel
theorem dX12_oneSet_46 : decode cX12_oneSet 46 = .ok (.getfield 40, 3) := by decide +kernel
theorem dX12_oneSet_49 : decode cX12_oneSet 49 = .ok (.iload 4, 2) := by decide +kernel
theorem dX12_oneSet_51 : decode cX12_oneSet 51 = .ok (.iaload, 1) := by decide +kernel
theorem dX12_oneSet_52 : decode cX12_oneSet 52 = .ok (.iconst 2, 1) := by decide +kernel
theorem dX12_oneSet_53 : decode cX12_oneSet 53 = .ok (.if_icmp .eq 66, 3) := by decide +kernel
theorem dX12_oneSet_56 : decode cX12_oneSet 56 = .ok (.aload_n 0, 1) := by decide +kernel
theorem dX12_oneSet_57 : decode cX12_oneSet 57 = .ok (.iload 4, 2) := by decide +kernel
theorem dX12_oneSet_59 : decode cX12_oneSet 59 = .ok (.iload 6, 2) := by decide +kernel
theorem dX12_oneSet_61 : decode cX12_oneSet 61 = .ok (.invokevirtual 202, 3) := by decide +kernel
theorem dX12_oneSet_64 : decode cX12_oneSet 64 = .ok (.bipush (-4), 2) := by decide +kernel
theorem dX12_oneSet_66 : decode cX12_oneSet 66 = .ok (.if_icmp .eq 47, 3) := by decide +kernel
theorem dX12_oneSet_69 : decode cX12_oneSet 69 = .ok (.aload_n 0, 1) := by decide +kernel
theorem dX12_oneSet_70 : decode cX12_oneSet 70 = .ok (.iload 4, 2) := by decide +kernel
theorem dX12_oneSet_72 : decode cX12_oneSet 72 = .ok (.iload_n 3, 1) := by decide +kernel
theorem dX12_oneSet_73 : decode cX12_oneSet 73 = .ok (.iconst 4, 1) := by decide +kernel
theorem dX12_oneSet_74 : decode cX12_oneSet 74 = .ok (.irem, 1) := by decide +kernel
theorem dX12_oneSet_75 : decode cX12_oneSet 75 = .ok (.iload 6, 2) := by decide +kernel
theorem dX12_oneSet_77 : decode cX12_oneSet 77 = .ok (.invokevirtual 242, 3) := by decide +kernel
theorem dX12_oneSet_80 : decode cX12_oneSet 80 = .ok (.aload_n 0, 1) := by decide +kernel
theorem dX12_oneSet_81 : decode cX12_oneSet 81 = .ok (.getfield 61, 3) := by decide +kernel
theorem dX12_oneSet_84 : decode cX12_oneSet 84 = .ok (.aload_n 0, 1) := by decide +kernel
theorem dX12_oneSet_85 : decode cX12_oneSet 85 = .ok (.iload_n 1, 1) := by decide +kernel
theorem dX12_oneSet_86 : decode cX12_oneSet 86 = .ok (.iload 4, 2) := by decide +kernel
theorem dX12_oneSet_88 : decode cX12_oneSet 88 = .ok (.iload 6, 2) := by decide +kernel
theorem dX12_oneSet_90 : decode cX12_oneSet 90 = .ok (.invokevirtual 246, 3) := by decide +kernel
theorem dX12_oneSet_93 : decode cX12_oneSet 93 = .ok (.iaload, 1) := by decide +kernel
theorem dX12_oneSet_94 : decode cX12_oneSet 94 = .ok (.iadd, 1) := by decide +kernel
theorem dX12_oneSet_95 : decode cX12_oneSet 95 = .ok (.istore 7, 2) := by decide +kernel
theorem dX12_oneSet_97 : decode cX12_oneSet 97 = .ok (.iload 7, 2) := by decide +kernel
theorem dX12_oneSet_99 : decode cX12_oneSet 99 = .ok (.iload 5, 2) := by decide +kernel
theorem dX12_oneSet_101 : decode cX12_oneSet 101 = .ok (.if_icmp .ge 8, 3) := by decide +kernel
theorem dX12_oneSet_104 : decode cX12_oneSet 104 = .ok (.iload 7, 2) := by decide +kernel
theorem dX12_oneSet_106 : decode cX12_oneSet 106 = .ok (.goto 5, 3) := by decide +kernel
theorem dX12_oneSet_109 : decode cX12_oneSet 109 = .ok (.iload 5, 2) := by decide +kernel
theorem dX12_oneSet_111 : decode cX12_oneSet 111 = .ok (.istore 5, 2) := by decide +kernel
theorem dX12_oneSet_113 : decode cX12_oneSet 113 = .ok (.iinc 6 1, 3) := by decide +kernel
theorem dX12_oneSet_116 : decode cX12_oneSet 116 = .ok (.goto (-77), 3) := by decide +kernel
theorem dX12_oneSet_119 : decode cX12_oneSet 119 = .ok (.iload_n 2, 1) := by decide +kernel
theorem dX12_oneSet_120 : decode cX12_oneSet 120 = .ok (.ifCond .ne 20, 3) := by decide +kernel
theorem dX12_oneSet_123 : decode cX12_oneSet 123 = .ok (.iload 5, 2) := by decide +kernel
theorem dX12_oneSet_125 : decode cX12_oneSet 125 = .ok (.aload_n 0, 1) := by decide +kernel
theorem dX12_oneSet_126 : decode cX12_oneSet 126 = .ok (.getfield 61, 3) := by decide +kernel
theorem dX12_oneSet_129 : decode cX12_oneSet 129 = .ok (.sipush 144, 3) := by decide +kernel
theorem dX12_oneSet_132 : decode cX12_oneSet 132 = .ok (.iload_n 1, 1) := by decide +kernel
theorem dX12_oneSet_133 : decode cX12_oneSet 133 = .ok (.imul, 1) := by decide +kernel
theorem dX12_oneSet_134 : decode cX12_oneSet 134 = .ok (.iload_n 3, 1) := by decide +kernel
theorem dX12_oneSet_135 : decode cX12_oneSet 135 = .ok (.iadd, 1) := by decide +kernel
theorem dX12_oneSet_136 : decode cX12_oneSet 136 = .ok (.iaload, 1) := by decide +kernel
theorem dX12_oneSet_137 : decode cX12_oneSet 137 = .ok (.if_icmp .ge 7, 3) := by decide +kernel
theorem dX12_oneSet_140 : decode cX12_oneSet 140 = .ok (.iconst 1, 1) := by decide +kernel
theorem dX12_oneSet_141 : decode cX12_oneSet 141 = .ok (.goto 4, 3) := by decide +kernel
theorem dX12_oneSet_144 : decode cX12_oneSet 144 = .ok (.iconst 0, 1) := by decide +kernel
theorem dX12_oneSet_145 : decode cX12_oneSet 145 = .ok (.istore_n 2, 1) := by decide +kernel
theorem dX12_oneSet_146 : decode cX12_oneSet 146 = .ok (.aload_n 0, 1) := by decide +kernel
theorem dX12_oneSet_147 : decode cX12_oneSet 147 = .ok (.getfield 61, 3) := by decide +kernel
theorem dX12_oneSet_150 : decode cX12_oneSet 150 = .ok (.sipush 144, 3) := by decide +kernel
theorem dX12_oneSet_153 : decode cX12_oneSet 153 = .ok (.iload_n 1, 1) := by decide +kernel
theorem dX12_oneSet_154 : decode cX12_oneSet 154 = .ok (.imul, 1) := by decide +kernel
theorem dX12_oneSet_155 : decode cX12_oneSet 155 = .ok (.iload_n 3, 1) := by decide +kernel
theorem dX12_oneSet_156 : decode cX12_oneSet 156 = .ok (.iadd, 1) := by decide +kernel
theorem dX12_oneSet_157 : decode cX12_oneSet 157 = .ok (.iload 5, 2) := by decide +kernel
theorem dX12_oneSet_159 : decode cX12_oneSet 159 = .ok (.iastore, 1) := by decide +kernel
theorem dX12_oneSet_160 : decode cX12_oneSet 160 = .ok (.iinc 3 1, 3) := by decide +kernel
theorem dX12_oneSet_163 : decode cX12_oneSet 163 = .ok (.goto (-153), 3) := by decide +kernel
theorem dX12_oneSet_166 : decode cX12_oneSet 166 = .ok (.goto (-164), 3) := by decide +kernel
theorem dX12_oneSet_169 : decode cX12_oneSet 169 = .ok (.return_, 1) := by decide +kernel
theorem dX12_layLeast_0 : decode cX12_layLeast 0 = .ok (.aload_n 0, 1) := by decide +kernel
theorem dX12_layLeast_1 : decode cX12_layLeast 1 = .ok (.iconst 0, 1) := by decide +kernel
theorem dX12_layLeast_2 : decode cX12_layLeast 2 = .ok (.putfield 249, 3) := by decide +kernel
theorem dX12_layLeast_5 : decode cX12_layLeast 5 = .ok (.iconst 0, 1) := by decide +kernel
theorem dX12_layLeast_6 : decode cX12_layLeast 6 = .ok (.istore_n 1, 1) := by decide +kernel
theorem dX12_layLeast_7 : decode cX12_layLeast 7 = .ok (.iload_n 1, 1) := by decide +kernel
theorem dX12_layLeast_8 : decode cX12_layLeast 8 = .ok (.bipush 36, 2) := by decide +kernel
theorem dX12_layLeast_10 : decode cX12_layLeast 10 = .ok (.if_icmp .ge 55, 3) := by decide +kernel
theorem dX12_layLeast_13 : decode cX12_layLeast 13 = .ok (.aload_n 0, 1) := by decide +kernel
theorem dX12_layLeast_14 : decode cX12_layLeast 14 = .ok (.getfield 58, 3) := by decide +kernel
theorem dX12_layLeast_17 : decode cX12_layLeast 17 = .ok (.iload_n 1, 1) := by decide +kernel
theorem dX12_layLeast_18 : decode cX12_layLeast 18 = .ok (.aload_n 0, 1) := by decide +kernel
theorem dX12_layLeast_19 : decode cX12_layLeast 19 = .ok (.iload_n 1, 1) := by decide +kernel
theorem dX12_layLeast_20 : decode cX12_layLeast 20 = .ok (.invokevirtual 196, 3) := by decide +kernel
theorem dX12_layLeast_23 : decode cX12_layLeast 23 = .ok (.ifCond .eq 12, 3) := by decide +kernel
theorem dX12_layLeast_26 : decode cX12_layLeast 26 = .ok (.iconst 1, 1) := by decide +kernel
theorem dX12_layLeast_27 : decode cX12_layLeast 27 = .ok (.aload_n 0, 1) := by decide +kernel
theorem dX12_layLeast_28 : decode cX12_layLeast 28 = .ok (.getfield 249, 3) := by decide +kernel
theorem dX12_layLeast_31 : decode cX12_layLeast 31 = .ok (.ishl, 1) := by decide +kernel
theorem dX12_layLeast_32 : decode cX12_layLeast 32 = .ok (.goto 4, 3) := by decide +kernel
theorem dX12_layLeast_35 : decode cX12_layLeast 35 = .ok (.iconst 0, 1) := by decide +kernel
theorem dX12_layLeast_36 : decode cX12_layLeast 36 = .ok (.iastore, 1) := by decide +kernel
theorem dX12_layLeast_37 : decode cX12_layLeast 37 = .ok (.aload_n 0, 1) := by decide +kernel
theorem dX12_layLeast_38 : decode cX12_layLeast 38 = .ok (.dup, 1) := by decide +kernel
theorem dX12_layLeast_39 : decode cX12_layLeast 39 = .ok (.getfield 249, 3) := by decide +kernel
theorem dX12_layLeast_42 : decode cX12_layLeast 42 = .ok (.aload_n 0, 1) := by decide +kernel
theorem dX12_layLeast_43 : decode cX12_layLeast 43 = .ok (.iload_n 1, 1) := by decide +kernel
theorem dX12_layLeast_44 : decode cX12_layLeast 44 = .ok (.invokevirtual 196, 3) := by decide +kernel
theorem dX12_layLeast_47 : decode cX12_layLeast 47 = .ok (.ifCond .eq 7, 3) := by decide +kernel
theorem dX12_layLeast_50 : decode cX12_layLeast 50 = .ok (.iconst 1, 1) := by decide +kernel
theorem dX12_layLeast_51 : decode cX12_layLeast 51 = .ok (.goto 4, 3) := by decide +kernel
theorem dX12_layLeast_54 : decode cX12_layLeast 54 = .ok (.iconst 0, 1) := by decide +kernel
theorem dX12_layLeast_55 : decode cX12_layLeast 55 = .ok (.iadd, 1) := by decide +kernel
theorem dX12_layLeast_56 : decode cX12_layLeast 56 = .ok (.putfield 249, 3) := by decide +kernel
theorem dX12_layLeast_59 : decode cX12_layLeast 59 = .ok (.iinc 1 1, 3) := by decide +kernel
theorem dX12_layLeast_62 : decode cX12_layLeast 62 = .ok (.goto (-55), 3) := by decide +kernel
theorem dX12_layLeast_65 : decode cX12_layLeast 65 = .ok (.iconst 1, 1) := by decide +kernel
theorem dX12_layLeast_66 : decode cX12_layLeast 66 = .ok (.aload_n 0, 1) := by decide +kernel
theorem dX12_layLeast_67 : decode cX12_layLeast 67 = .ok (.getfield 249, 3) := by decide +kernel
theorem dX12_layLeast_70 : decode cX12_layLeast 70 = .ok (.ishl, 1) := by decide +kernel
theorem dX12_layLeast_71 : decode cX12_layLeast 71 = .ok (.iconst 1, 1) := by decide +kernel
theorem dX12_layLeast_72 : decode cX12_layLeast 72 = .ok (.isub, 1) := by decide +kernel
theorem dX12_layLeast_73 : decode cX12_layLeast 73 = .ok (.istore_n 1, 1) := by decide +kernel
theorem dX12_layLeast_74 : decode cX12_layLeast 74 = .ok (.iload_n 1, 1) := by decide +kernel
theorem dX12_layLeast_75 : decode cX12_layLeast 75 = .ok (.istore_n 2, 1) := by decide +kernel
theorem dX12_layLeast_76 : decode cX12_layLeast 76 = .ok (.iload_n 2, 1) := by decide +kernel
theorem dX12_layLeast_77 : decode cX12_layLeast 77 = .ok (.ifCond .lt 57, 3) := by decide +kernel
theorem dX12_layLeast_80 : decode cX12_layLeast 80 = .ok (.iconst 0, 1) := by decide +kernel
theorem dX12_layLeast_81 : decode cX12_layLeast 81 = .ok (.istore_n 3, 1) := by decide +kernel
theorem dX12_layLeast_82 : decode cX12_layLeast 82 = .ok (.iload_n 3, 1) := by decide +kernel
theorem dX12_layLeast_83 : decode cX12_layLeast 83 = .ok (.sipush 144, 3) := by decide +kernel
theorem dX12_layLeast_86 : decode cX12_layLeast 86 = .ok (.if_icmp .ge 32, 3) := by decide +kernel
theorem dX12_layLeast_89 : decode cX12_layLeast 89 = .ok (.aload_n 0, 1) := by decide +kernel
theorem dX12_layLeast_90 : decode cX12_layLeast 90 = .ok (.getfield 61, 3) := by decide +kernel
theorem dX12_layLeast_93 : decode cX12_layLeast 93 = .ok (.sipush 144, 3) := by decide +kernel
theorem dX12_layLeast_96 : decode cX12_layLeast 96 = .ok (.iload_n 2, 1) := by decide +kernel
theorem dX12_layLeast_97 : decode cX12_layLeast 97 = .ok (.imul, 1) := by decide +kernel
theorem dX12_layLeast_98 : decode cX12_layLeast 98 = .ok (.iload_n 3, 1) := by decide +kernel
theorem dX12_layLeast_99 : decode cX12_layLeast 99 = .ok (.iadd, 1) := by decide +kernel
theorem dX12_layLeast_100 : decode cX12_layLeast 100 = .ok (.iload_n 2, 1) := by decide +kernel
theorem dX12_layLeast_101 : decode cX12_layLeast 101 = .ok (.iload_n 1, 1) := by decide +kernel
theorem dX12_layLeast_102 : decode cX12_layLeast 102 = .ok (.if_icmp .ne 7, 3) := by decide +kernel
theorem dX12_layLeast_105 : decode cX12_layLeast 105 = .ok (.iconst 0, 1) := by decide +kernel
theorem dX12_layLeast_106 : decode cX12_layLeast 106 = .ok (.goto 5, 3) := by decide +kernel
theorem dX12_layLeast_109 : decode cX12_layLeast 109 = .ok (.ldc 252, 2) := by decide +kernel
theorem dX12_layLeast_111 : decode cX12_layLeast 111 = .ok (.iastore, 1) := by decide +kernel
theorem dX12_layLeast_112 : decode cX12_layLeast 112 = .ok (.iinc 3 1, 3) := by decide +kernel
theorem dX12_layLeast_115 : decode cX12_layLeast 115 = .ok (.goto (-33), 3) := by decide +kernel
theorem dX12_layLeast_118 : decode cX12_layLeast 118 = .ok (.iload_n 2, 1) := by decide +kernel
theorem dX12_layLeast_119 : decode cX12_layLeast 119 = .ok (.iload_n 1, 1) := by decide +kernel
theorem dX12_layLeast_120 : decode cX12_layLeast 120 = .ok (.if_icmp .ge 8, 3) := by decide +kernel
theorem dX12_layLeast_123 : decode cX12_layLeast 123 = .ok (.aload_n 0, 1) := by decide +kernel
theorem dX12_layLeast_124 : decode cX12_layLeast 124 = .ok (.iload_n 2, 1) := by decide +kernel
theorem dX12_layLeast_125 : decode cX12_layLeast 125 = .ok (.invokevirtual 253, 3) := by decide +kernel
theorem dX12_layLeast_128 : decode cX12_layLeast 128 = .ok (.iinc 2 (-1), 3) := by decide +kernel
theorem dX12_layLeast_131 : decode cX12_layLeast 131 = .ok (.goto (-55), 3) := by decide +kernel
theorem dX12_layLeast_134 : decode cX12_layLeast 134 = .ok (.aload_n 0, 1) := by decide +kernel
theorem dX12_layLeast_135 : decode cX12_layLeast 135 = .ok (.getfield 61, 3) := by decide +kernel
theorem dX12_layLeast_138 : decode cX12_layLeast 138 = .ok (.sipush 144, 3) := by decide +kernel
theorem dX12_layLeast_141 : decode cX12_layLeast 141 = .ok (.aload_n 0, 1) := by decide +kernel
theorem dX12_layLeast_142 : decode cX12_layLeast 142 = .ok (.getfield 58, 3) := by decide +kernel
theorem dX12_layLeast_145 : decode cX12_layLeast 145 = .ok (.aload_n 0, 1) := by decide +kernel
theorem dX12_layLeast_146 : decode cX12_layLeast 146 = .ok (.getfield 28, 3) := by decide +kernel
theorem dX12_layLeast_149 : decode cX12_layLeast 149 = .ok (.iconst 0, 1) := by decide +kernel
theorem dX12_layLeast_150 : decode cX12_layLeast 150 = .ok (.iaload, 1) := by decide +kernel
theorem dX12_layLeast_151 : decode cX12_layLeast 151 = .ok (.iaload, 1) := by decide +kernel
theorem dX12_layLeast_152 : decode cX12_layLeast 152 = .ok (.imul, 1) := by decide +kernel
theorem dX12_layLeast_153 : decode cX12_layLeast 153 = .ok (.iconst 4, 1) := by decide +kernel
theorem dX12_layLeast_154 : decode cX12_layLeast 154 = .ok (.aload_n 0, 1) := by decide +kernel
theorem dX12_layLeast_155 : decode cX12_layLeast 155 = .ok (.getfield 28, 3) := by decide +kernel
theorem dX12_layLeast_158 : decode cX12_layLeast 158 = .ok (.iconst 0, 1) := by decide +kernel
theorem dX12_layLeast_159 : decode cX12_layLeast 159 = .ok (.iaload, 1) := by decide +kernel
theorem dX12_layLeast_160 : decode cX12_layLeast 160 = .ok (.imul, 1) := by decide +kernel
theorem dX12_layLeast_161 : decode cX12_layLeast 161 = .ok (.iadd, 1) := by decide +kernel
theorem dX12_layLeast_162 : decode cX12_layLeast 162 = .ok (.iaload, 1) := by decide +kernel
theorem dX12_layLeast_163 : decode cX12_layLeast 163 = .ok (.ireturn, 1) := by decide +kernel
theorem dX12_layWay_0 : decode cX12_layWay 0 = .ok (.aload_n 0, 1) := by decide +kernel
theorem dX12_layWay_1 : decode cX12_layWay 1 = .ok (.getfield 58, 3) := by decide +kernel
theorem dX12_layWay_4 : decode cX12_layWay 4 = .ok (.aload_n 0, 1) := by decide +kernel
theorem dX12_layWay_5 : decode cX12_layWay 5 = .ok (.getfield 28, 3) := by decide +kernel
theorem dX12_layWay_8 : decode cX12_layWay 8 = .ok (.iconst 0, 1) := by decide +kernel
theorem dX12_layWay_9 : decode cX12_layWay 9 = .ok (.iaload, 1) := by decide +kernel
theorem dX12_layWay_10 : decode cX12_layWay 10 = .ok (.iaload, 1) := by decide +kernel
theorem dX12_layWay_11 : decode cX12_layWay 11 = .ok (.istore_n 1, 1) := by decide +kernel
theorem dX12_layWay_12 : decode cX12_layWay 12 = .ok (.aload_n 0, 1) := by decide +kernel
theorem dX12_layWay_13 : decode cX12_layWay 13 = .ok (.getfield 28, 3) := by decide +kernel
theorem dX12_layWay_16 : decode cX12_layWay 16 = .ok (.iconst 0, 1) := by decide +kernel
theorem dX12_layWay_17 : decode cX12_layWay 17 = .ok (.iaload, 1) := by decide +kernel
theorem dX12_layWay_18 : decode cX12_layWay 18 = .ok (.istore_n 2, 1) := by decide +kernel
theorem dX12_layWay_19 : decode cX12_layWay 19 = .ok (.iconst 0, 1) := by decide +kernel
theorem dX12_layWay_20 : decode cX12_layWay 20 = .ok (.istore_n 3, 1) := by decide +kernel
theorem dX12_layWay_21 : decode cX12_layWay 21 = .ok (.aload_n 0, 1) := by decide +kernel
theorem dX12_layWay_22 : decode cX12_layWay 22 = .ok (.iconst 0, 1) := by decide +kernel
theorem dX12_layWay_23 : decode cX12_layWay 23 = .ok (.putfield 256, 3) := by decide +kernel
theorem dX12_layWay_26 : decode cX12_layWay 26 = .ok (.aload_n 0, 1) := by decide +kernel
theorem dX12_layWay_27 : decode cX12_layWay 27 = .ok (.iconst 0, 1) := by decide +kernel
theorem dX12_layWay_28 : decode cX12_layWay 28 = .ok (.putfield 259, 3) := by decide +kernel
theorem dX12_layWay_31 : decode cX12_layWay 31 = .ok (.iconst 1, 1) := by decide +kernel
theorem dX12_layWay_32 : decode cX12_layWay 32 = .ok (.aload_n 0, 1) := by decide +kernel
theorem dX12_layWay_33 : decode cX12_layWay 33 = .ok (.getfield 249, 3) := by decide +kernel
theorem dX12_layWay_36 : decode cX12_layWay 36 = .ok (.ishl, 1) := by decide +kernel
theorem dX12_layWay_37 : decode cX12_layWay 37 = .ok (.iconst 1, 1) := by decide +kernel
theorem dX12_layWay_38 : decode cX12_layWay 38 = .ok (.isub, 1) := by decide +kernel
theorem dX12_layWay_39 : decode cX12_layWay 39 = .ok (.istore 4, 2) := by decide +kernel
theorem dX12_layWay_41 : decode cX12_layWay 41 = .ok (.iload_n 1, 1) := by decide +kernel
theorem dX12_layWay_42 : decode cX12_layWay 42 = .ok (.iload 4, 2) := by decide +kernel
theorem dX12_layWay_44 : decode cX12_layWay 44 = .ok (.if_icmp .eq 128, 3) := by decide +kernel
theorem dX12_layWay_47 : decode cX12_layWay 47 = .ok (.iconst 0, 1) := by decide +kernel
theorem dX12_layWay_48 : decode cX12_layWay 48 = .ok (.istore 5, 2) := by decide +kernel
theorem dX12_layWay_50 : decode cX12_layWay 50 = .ok (.sipush 144, 3) := by decide +kernel
theorem dX12_layWay_53 : decode cX12_layWay 53 = .ok (.iload_n 1, 1) := by decide +kernel
theorem dX12_layWay_54 : decode cX12_layWay 54 = .ok (.imul, 1) := by decide +kernel
theorem dX12_layWay_55 : decode cX12_layWay 55 = .ok (.iconst 4, 1) := by decide +kernel
theorem dX12_layWay_56 : decode cX12_layWay 56 = .ok (.iload_n 2, 1) := by decide +kernel
theorem dX12_layWay_57 : decode cX12_layWay 57 = .ok (.imul, 1) := by decide +kernel
theorem dX12_layWay_58 : decode cX12_layWay 58 = .ok (.iadd, 1) := by decide +kernel
theorem dX12_layWay_59 : decode cX12_layWay 59 = .ok (.iload_n 3, 1) := by decide +kernel
theorem dX12_layWay_60 : decode cX12_layWay 60 = .ok (.iadd, 1) := by decide +kernel
theorem dX12_layWay_61 : decode cX12_layWay 61 = .ok (.istore 6, 2) := by decide +kernel
theorem dX12_layWay_63 : decode cX12_layWay 63 = .ok (.aload_n 0, 1) := by decide +kernel
theorem dX12_layWay_64 : decode cX12_layWay 64 = .ok (.iload_n 2, 1) := by decide +kernel
theorem dX12_layWay_65 : decode cX12_layWay 65 = .ok (.iload 5, 2) := by decide +kernel
theorem dX12_layWay_67 : decode cX12_layWay 67 = .ok (.invokevirtual 202, 3) := by decide +kernel
theorem dX12_layWay_70 : decode cX12_layWay 70 = .ok (.bipush (-4), 2) := by decide +kernel
theorem dX12_layWay_72 : decode cX12_layWay 72 = .ok (.if_icmp .eq 35, 3) := by decide +kernel
theorem dX12_layWay_75 : decode cX12_layWay 75 = .ok (.aload_n 0, 1) := by decide +kernel
theorem dX12_layWay_76 : decode cX12_layWay 76 = .ok (.iload_n 2, 1) := by decide +kernel
theorem dX12_layWay_77 : decode cX12_layWay 77 = .ok (.iload_n 3, 1) := by decide +kernel
theorem dX12_layWay_78 : decode cX12_layWay 78 = .ok (.iload 5, 2) := by decide +kernel
theorem dX12_layWay_80 : decode cX12_layWay 80 = .ok (.invokevirtual 242, 3) := by decide +kernel
theorem dX12_layWay_83 : decode cX12_layWay 83 = .ok (.aload_n 0, 1) := by decide +kernel
theorem dX12_layWay_84 : decode cX12_layWay 84 = .ok (.getfield 61, 3) := by decide +kernel
theorem dX12_layWay_87 : decode cX12_layWay 87 = .ok (.aload_n 0, 1) := by decide +kernel
theorem dX12_layWay_88 : decode cX12_layWay 88 = .ok (.iload_n 1, 1) := by decide +kernel
theorem dX12_layWay_89 : decode cX12_layWay 89 = .ok (.iload_n 2, 1) := by decide +kernel
theorem dX12_layWay_90 : decode cX12_layWay 90 = .ok (.iload 5, 2) := by decide +kernel
theorem dX12_layWay_92 : decode cX12_layWay 92 = .ok (.invokevirtual 246, 3) := by decide +kernel
theorem dX12_layWay_95 : decode cX12_layWay 95 = .ok (.iaload, 1) := by decide +kernel
theorem dX12_layWay_96 : decode cX12_layWay 96 = .ok (.iadd, 1) := by decide +kernel
theorem dX12_layWay_97 : decode cX12_layWay 97 = .ok (.aload_n 0, 1) := by decide +kernel
theorem dX12_layWay_98 : decode cX12_layWay 98 = .ok (.getfield 61, 3) := by decide +kernel
theorem dX12_layWay_101 : decode cX12_layWay 101 = .ok (.iload 6, 2) := by decide +kernel
theorem dX12_layWay_103 : decode cX12_layWay 103 = .ok (.iaload, 1) := by decide +kernel
theorem dX12_layWay_104 : decode cX12_layWay 104 = .ok (.if_icmp .eq 9, 3) := by decide +kernel
theorem dX12_layWay_107 : decode cX12_layWay 107 = .ok (.iinc 5 1, 3) := by decide +kernel
theorem dX12_layWay_110 : decode cX12_layWay 110 = .ok (.goto (-47), 3) := by decide +kernel
theorem dX12_layWay_113 : decode cX12_layWay 113 = .ok (.aload_n 0, 1) := by decide +kernel
theorem dX12_layWay_114 : decode cX12_layWay 114 = .ok (.dup, 1) := by decide +kernel
theorem dX12_layWay_115 : decode cX12_layWay 115 = .ok (.getfield 259, 3) := by decide +kernel
theorem dX12_layWay_118 : decode cX12_layWay 118 = .ok (.iload_n 3, 1) := by decide +kernel
theorem dX12_layWay_119 : decode cX12_layWay 119 = .ok (.iload 5, 2) := by decide +kernel
theorem dX12_layWay_121 : decode cX12_layWay 121 = .ok (.invokestatic 199, 3) := by decide +kernel
theorem dX12_layWay_124 : decode cX12_layWay 124 = .ok (.iadd, 1) := by decide +kernel
theorem dX12_layWay_125 : decode cX12_layWay 125 = .ok (.putfield 259, 3) := by decide +kernel
theorem dX12_layWay_128 : decode cX12_layWay 128 = .ok (.aload_n 0, 1) := by decide +kernel
theorem dX12_layWay_129 : decode cX12_layWay 129 = .ok (.getfield 64, 3) := by decide +kernel
theorem dX12_layWay_132 : decode cX12_layWay 132 = .ok (.aload_n 0, 1) := by decide +kernel
theorem dX12_layWay_133 : decode cX12_layWay 133 = .ok (.getfield 256, 3) := by decide +kernel
theorem dX12_layWay_136 : decode cX12_layWay 136 = .ok (.iload 5, 2) := by decide +kernel
theorem dX12_layWay_138 : decode cX12_layWay 138 = .ok (.iastore, 1) := by decide +kernel
theorem dX12_layWay_139 : decode cX12_layWay 139 = .ok (.aload_n 0, 1) := by decide +kernel
theorem dX12_layWay_140 : decode cX12_layWay 140 = .ok (.dup, 1) := by decide +kernel
theorem dX12_layWay_141 : decode cX12_layWay 141 = .ok (.getfield 256, 3) := by decide +kernel
theorem dX12_layWay_144 : decode cX12_layWay 144 = .ok (.iconst 1, 1) := by decide +kernel
theorem dX12_layWay_145 : decode cX12_layWay 145 = .ok (.iadd, 1) := by decide +kernel
theorem dX12_layWay_146 : decode cX12_layWay 146 = .ok (.putfield 256, 3) := by decide +kernel
theorem dX12_layWay_149 : decode cX12_layWay 149 = .ok (.aload_n 0, 1) := by decide +kernel
theorem dX12_layWay_150 : decode cX12_layWay 150 = .ok (.iload_n 2, 1) := by decide +kernel
theorem dX12_layWay_151 : decode cX12_layWay 151 = .ok (.iload 5, 2) := by decide +kernel
theorem dX12_layWay_153 : decode cX12_layWay 153 = .ok (.invokevirtual 202, 3) := by decide +kernel
theorem dX12_layWay_156 : decode cX12_layWay 156 = .ok (.istore_n 2, 1) := by decide +kernel
theorem dX12_layWay_157 : decode cX12_layWay 157 = .ok (.iload_n 1, 1) := by decide +kernel
theorem dX12_layWay_158 : decode cX12_layWay 158 = .ok (.aload_n 0, 1) := by decide +kernel
theorem dX12_layWay_159 : decode cX12_layWay 159 = .ok (.getfield 58, 3) := by decide +kernel
theorem dX12_layWay_162 : decode cX12_layWay 162 = .ok (.iload_n 2, 1) := by decide +kernel
theorem dX12_layWay_163 : decode cX12_layWay 163 = .ok (.iaload, 1) := by decide +kernel
theorem dX12_layWay_164 : decode cX12_layWay 164 = .ok (.ior, 1) := by decide +kernel
theorem dX12_layWay_165 : decode cX12_layWay 165 = .ok (.istore_n 1, 1) := by decide +kernel
theorem dX12_layWay_166 : decode cX12_layWay 166 = .ok (.iload 5, 2) := by decide +kernel
theorem dX12_layWay_168 : decode cX12_layWay 168 = .ok (.istore_n 3, 1) := by decide +kernel
theorem dX12_layWay_169 : decode cX12_layWay 169 = .ok (.goto (-128), 3) := by decide +kernel
theorem dX12_layWay_172 : decode cX12_layWay 172 = .ok (.return_, 1) := by decide +kernel
theorem dX12_hinders_0 : decode cX12_hinders 0 = .ok (.aload_n 0, 1) := by decide +kernel
theorem dX12_hinders_1 : decode cX12_hinders 1 = .ok (.invokevirtual 262, 3) := by decide +kernel
theorem dX12_hinders_4 : decode cX12_hinders 4 = .ok (.bipush 7, 2) := by decide +kernel
theorem dX12_hinders_6 : decode cX12_hinders 6 = .ok (.if_icmp .le 8, 3) := by decide +kernel
theorem dX12_hinders_9 : decode cX12_hinders 9 = .ok (.bipush (-2), 2) := by decide +kernel
theorem dX12_hinders_11 : decode cX12_hinders 11 = .ok (.goto 18, 3) := by decide +kernel
theorem dX12_hinders_14 : decode cX12_hinders 14 = .ok (.aload_n 0, 1) := by decide +kernel
theorem dX12_hinders_15 : decode cX12_hinders 15 = .ok (.invokevirtual 265, 3) := by decide +kernel
theorem dX12_hinders_18 : decode cX12_hinders 18 = .ok (.ldc 252, 2) := by decide +kernel
theorem dX12_hinders_20 : decode cX12_hinders 20 = .ok (.if_icmp .lt 8, 3) := by decide +kernel
theorem dX12_hinders_23 : decode cX12_hinders 23 = .ok (.bipush (-4), 2) := by decide +kernel
theorem dX12_hinders_25 : decode cX12_hinders 25 = .ok (.goto 4, 3) := by decide +kernel
theorem dX12_hinders_28 : decode cX12_hinders 28 = .ok (.iconst 0, 1) := by decide +kernel
theorem dX12_hinders_29 : decode cX12_hinders 29 = .ok (.ireturn, 1) := by decide +kernel
theorem dX12_least_0 : decode cX12_least 0 = .ok (.aload_n 0, 1) := by decide +kernel
theorem dX12_least_1 : decode cX12_least 1 = .ok (.invokevirtual 175, 3) := by decide +kernel
theorem dX12_least_4 : decode cX12_least 4 = .ok (.iload_n 1, 1) := by decide +kernel
theorem dX12_least_5 : decode cX12_least 5 = .ok (.i2l, 1) := by decide +kernel
theorem dX12_least_6 : decode cX12_least 6 = .ok (.lconst 0, 1) := by decide +kernel
theorem dX12_least_7 : decode cX12_least 7 = .ok (.ldc2_w 268, 3) := by decide +kernel
theorem dX12_least_10 : decode cX12_least 10 = .ok (.invokestatic 94, 3) := by decide +kernel
theorem dX12_least_13 : decode cX12_least 13 = .ok (.ifCond .ne 11, 3) := by decide +kernel
theorem dX12_least_16 : decode cX12_least 16 = .ok (.iload_n 1, 1) := by decide +kernel
theorem dX12_least_17 : decode cX12_least 17 = .ok (.bipush 10, 2) := by decide +kernel
theorem dX12_least_19 : decode cX12_least 19 = .ok (.if_icmp .ge 5, 3) := by decide +kernel
theorem dX12_least_22 : decode cX12_least 22 = .ok (.iconst (-1), 1) := by decide +kernel
theorem dX12_least_23 : decode cX12_least 23 = .ok (.ireturn, 1) := by decide +kernel
theorem dX12_least_24 : decode cX12_least 24 = .ok (.aload_n 0, 1) := by decide +kernel
theorem dX12_least_25 : decode cX12_least 25 = .ok (.invokevirtual 270, 3) := by decide +kernel
theorem dX12_least_28 : decode cX12_least 28 = .ok (.istore_n 2, 1) := by decide +kernel
theorem dX12_least_29 : decode cX12_least 29 = .ok (.iload_n 2, 1) := by decide +kernel
theorem dX12_least_30 : decode cX12_least 30 = .ok (.ifCond .eq 5, 3) := by decide +kernel
theorem dX12_least_33 : decode cX12_least 33 = .ok (.iload_n 2, 1) := by decide +kernel
theorem dX12_least_34 : decode cX12_least 34 = .ok (.ireturn, 1) := by decide +kernel
theorem dX12_least_35 : decode cX12_least 35 = .ok (.aload_n 0, 1) := by decide +kernel
theorem dX12_least_36 : decode cX12_least 36 = .ok (.getfield 61, 3) := by decide +kernel
theorem dX12_least_39 : decode cX12_least 39 = .ok (.sipush 144, 3) := by decide +kernel
theorem dX12_least_42 : decode cX12_least 42 = .ok (.aload_n 0, 1) := by decide +kernel
theorem dX12_least_43 : decode cX12_least 43 = .ok (.getfield 58, 3) := by decide +kernel
theorem dX12_least_46 : decode cX12_least 46 = .ok (.aload_n 0, 1) := by decide +kernel
theorem dX12_least_47 : decode cX12_least 47 = .ok (.getfield 28, 3) := by decide +kernel
theorem dX12_least_50 : decode cX12_least 50 = .ok (.iconst 0, 1) := by decide +kernel
theorem dX12_least_51 : decode cX12_least 51 = .ok (.iaload, 1) := by decide +kernel
theorem dX12_least_52 : decode cX12_least 52 = .ok (.iaload, 1) := by decide +kernel
theorem dX12_least_53 : decode cX12_least 53 = .ok (.imul, 1) := by decide +kernel
theorem dX12_least_54 : decode cX12_least 54 = .ok (.iconst 4, 1) := by decide +kernel
theorem dX12_least_55 : decode cX12_least 55 = .ok (.aload_n 0, 1) := by decide +kernel
theorem dX12_least_56 : decode cX12_least 56 = .ok (.getfield 28, 3) := by decide +kernel
theorem dX12_least_59 : decode cX12_least 59 = .ok (.iconst 0, 1) := by decide +kernel
theorem dX12_least_60 : decode cX12_least 60 = .ok (.iaload, 1) := by decide +kernel
theorem dX12_least_61 : decode cX12_least 61 = .ok (.imul, 1) := by decide +kernel
theorem dX12_least_62 : decode cX12_least 62 = .ok (.iadd, 1) := by decide +kernel
theorem dX12_least_63 : decode cX12_least 63 = .ok (.iaload, 1) := by decide +kernel
theorem dX12_least_64 : decode cX12_least 64 = .ok (.istore_n 3, 1) := by decide +kernel
theorem dX12_least_65 : decode cX12_least 65 = .ok (.aload_n 0, 1) := by decide +kernel
theorem dX12_least_66 : decode cX12_least 66 = .ok (.invokevirtual 273, 3) := by decide +kernel
theorem dX12_least_69 : decode cX12_least 69 = .ok (.iload_n 1, 1) := by decide +kernel
theorem dX12_least_70 : decode cX12_least 70 = .ok (.ifCond .ne 7, 3) := by decide +kernel
theorem dX12_least_73 : decode cX12_least 73 = .ok (.iload_n 3, 1) := by decide +kernel
theorem dX12_least_74 : decode cX12_least 74 = .ok (.goto 51, 3) := by decide +kernel
theorem dX12_least_77 : decode cX12_least 77 = .ok (.iload_n 1, 1) := by decide +kernel
theorem dX12_least_78 : decode cX12_least 78 = .ok (.iconst 1, 1) := by decide +kernel
theorem dX12_least_79 : decode cX12_least 79 = .ok (.if_icmp .ne 10, 3) := by decide +kernel
theorem dX12_least_82 : decode cX12_least 82 = .ok (.aload_n 0, 1) := by decide +kernel
theorem dX12_least_83 : decode cX12_least 83 = .ok (.getfield 256, 3) := by decide +kernel
theorem dX12_least_86 : decode cX12_least 86 = .ok (.goto 39, 3) := by decide +kernel
theorem dX12_least_89 : decode cX12_least 89 = .ok (.iload_n 1, 1) := by decide +kernel
theorem dX12_least_90 : decode cX12_least 90 = .ok (.iconst 2, 1) := by decide +kernel
theorem dX12_least_91 : decode cX12_least 91 = .ok (.if_icmp .ne 10, 3) := by decide +kernel
theorem dX12_least_94 : decode cX12_least 94 = .ok (.aload_n 0, 1) := by decide +kernel
theorem dX12_least_95 : decode cX12_least 95 = .ok (.getfield 259, 3) := by decide +kernel
theorem dX12_least_98 : decode cX12_least 98 = .ok (.goto 27, 3) := by decide +kernel
theorem dX12_least_101 : decode cX12_least 101 = .ok (.iload_n 1, 1) := by decide +kernel
theorem dX12_least_102 : decode cX12_least 102 = .ok (.bipush 10, 2) := by decide +kernel
theorem dX12_least_104 : decode cX12_least 104 = .ok (.isub, 1) := by decide +kernel
theorem dX12_least_105 : decode cX12_least 105 = .ok (.aload_n 0, 1) := by decide +kernel
theorem dX12_least_106 : decode cX12_least 106 = .ok (.getfield 256, 3) := by decide +kernel
theorem dX12_least_109 : decode cX12_least 109 = .ok (.if_icmp .ge 15, 3) := by decide +kernel
theorem dX12_least_112 : decode cX12_least 112 = .ok (.aload_n 0, 1) := by decide +kernel
theorem dX12_least_113 : decode cX12_least 113 = .ok (.getfield 64, 3) := by decide +kernel
theorem dX12_least_116 : decode cX12_least 116 = .ok (.iload_n 1, 1) := by decide +kernel
theorem dX12_least_117 : decode cX12_least 117 = .ok (.bipush 10, 2) := by decide +kernel
theorem dX12_least_119 : decode cX12_least 119 = .ok (.isub, 1) := by decide +kernel
theorem dX12_least_120 : decode cX12_least 120 = .ok (.iaload, 1) := by decide +kernel
theorem dX12_least_121 : decode cX12_least 121 = .ok (.goto 4, 3) := by decide +kernel
theorem dX12_least_124 : decode cX12_least 124 = .ok (.iconst (-1), 1) := by decide +kernel
theorem dX12_least_125 : decode cX12_least 125 = .ok (.ireturn, 1) := by decide +kernel
theorem dX12_withoutTree_0 : decode cX12_withoutTree 0 = .ok (.aload_n 0, 1) := by decide +kernel
theorem dX12_withoutTree_1 : decode cX12_withoutTree 1 = .ok (.getfield 40, 3) := by decide +kernel
theorem dX12_withoutTree_4 : decode cX12_withoutTree 4 = .ok (.iload_n 1, 1) := by decide +kernel
theorem dX12_withoutTree_5 : decode cX12_withoutTree 5 = .ok (.iconst 3, 1) := by decide +kernel
theorem dX12_withoutTree_6 : decode cX12_withoutTree 6 = .ok (.iastore, 1) := by decide +kernel
theorem dX12_withoutTree_7 : decode cX12_withoutTree 7 = .ok (.aload_n 0, 1) := by decide +kernel
theorem dX12_withoutTree_8 : decode cX12_withoutTree 8 = .ok (.invokevirtual 265, 3) := by decide +kernel
theorem dX12_withoutTree_11 : decode cX12_withoutTree 11 = .ok (.istore_n 2, 1) := by decide +kernel
theorem dX12_withoutTree_12 : decode cX12_withoutTree 12 = .ok (.aload_n 0, 1) := by decide +kernel
theorem dX12_withoutTree_13 : decode cX12_withoutTree 13 = .ok (.getfield 40, 3) := by decide +kernel
theorem dX12_withoutTree_16 : decode cX12_withoutTree 16 = .ok (.iload_n 1, 1) := by decide +kernel
theorem dX12_withoutTree_17 : decode cX12_withoutTree 17 = .ok (.iconst 2, 1) := by decide +kernel
theorem dX12_withoutTree_18 : decode cX12_withoutTree 18 = .ok (.iastore, 1) := by decide +kernel
theorem dX12_withoutTree_19 : decode cX12_withoutTree 19 = .ok (.iload_n 2, 1) := by decide +kernel
theorem dX12_withoutTree_20 : decode cX12_withoutTree 20 = .ok (.ireturn, 1) := by decide +kernel
theorem dX12_tree_0 : decode cX12_tree 0 = .ok (.aload_n 0, 1) := by decide +kernel
theorem dX12_tree_1 : decode cX12_tree 1 = .ok (.invokevirtual 175, 3) := by decide +kernel
theorem dX12_tree_4 : decode cX12_tree 4 = .ok (.iload_n 1, 1) := by decide +kernel
theorem dX12_tree_5 : decode cX12_tree 5 = .ok (.invokestatic 178, 3) := by decide +kernel
theorem dX12_tree_8 : decode cX12_tree 8 = .ok (.ifCond .eq 13, 3) := by decide +kernel
theorem dX12_tree_11 : decode cX12_tree 11 = .ok (.aload_n 0, 1) := by decide +kernel
theorem dX12_tree_12 : decode cX12_tree 12 = .ok (.getfield 40, 3) := by decide +kernel
theorem dX12_tree_15 : decode cX12_tree 15 = .ok (.iload_n 1, 1) := by decide +kernel
theorem dX12_tree_16 : decode cX12_tree 16 = .ok (.iaload, 1) := by decide +kernel
theorem dX12_tree_17 : decode cX12_tree 17 = .ok (.iconst 2, 1) := by decide +kernel
theorem dX12_tree_18 : decode cX12_tree 18 = .ok (.if_icmp .eq 5, 3) := by decide +kernel
theorem dX12_tree_21 : decode cX12_tree 21 = .ok (.iconst (-1), 1) := by decide +kernel
theorem dX12_tree_22 : decode cX12_tree 22 = .ok (.ireturn, 1) := by decide +kernel
theorem dX12_tree_23 : decode cX12_tree 23 = .ok (.aload_n 0, 1) := by decide +kernel
theorem dX12_tree_24 : decode cX12_tree 24 = .ok (.invokevirtual 270, 3) := by decide +kernel
theorem dX12_tree_27 : decode cX12_tree 27 = .ok (.istore_n 2, 1) := by decide +kernel
theorem dX12_tree_28 : decode cX12_tree 28 = .ok (.iload_n 2, 1) := by decide +kernel
theorem dX12_tree_29 : decode cX12_tree 29 = .ok (.ifCond .eq 5, 3) := by decide +kernel
theorem dX12_tree_32 : decode cX12_tree 32 = .ok (.iload_n 2, 1) := by decide +kernel
theorem dX12_tree_33 : decode cX12_tree 33 = .ok (.ireturn, 1) := by decide +kernel
theorem dX12_tree_34 : decode cX12_tree 34 = .ok (.aload_n 0, 1) := by decide +kernel
theorem dX12_tree_35 : decode cX12_tree 35 = .ok (.invokevirtual 265, 3) := by decide +kernel
theorem dX12_tree_38 : decode cX12_tree 38 = .ok (.istore_n 3, 1) := by decide +kernel
theorem dX12_tree_39 : decode cX12_tree 39 = .ok (.iload_n 3, 1) := by decide +kernel
theorem dX12_tree_40 : decode cX12_tree 40 = .ok (.aload_n 0, 1) := by decide +kernel
theorem dX12_tree_41 : decode cX12_tree 41 = .ok (.iload_n 1, 1) := by decide +kernel
theorem dX12_tree_42 : decode cX12_tree 42 = .ok (.invokevirtual 276, 3) := by decide +kernel
theorem dX12_tree_45 : decode cX12_tree 45 = .ok (.isub, 1) := by decide +kernel
theorem dX12_tree_46 : decode cX12_tree 46 = .ok (.ireturn, 1) := by decide +kernel
theorem dX12_dearest_0 : decode cX12_dearest 0 = .ok (.aload_n 0, 1) := by decide +kernel
theorem dX12_dearest_1 : decode cX12_dearest 1 = .ok (.invokevirtual 175, 3) := by decide +kernel
theorem dX12_dearest_4 : decode cX12_dearest 4 = .ok (.iload_n 1, 1) := by decide +kernel
theorem dX12_dearest_5 : decode cX12_dearest 5 = .ok (.i2l, 1) := by decide +kernel
theorem dX12_dearest_6 : decode cX12_dearest 6 = .ok (.lconst 0, 1) := by decide +kernel
theorem dX12_dearest_7 : decode cX12_dearest 7 = .ok (.lconst 1, 1) := by decide +kernel
theorem dX12_dearest_8 : decode cX12_dearest 8 = .ok (.invokestatic 94, 3) := by decide +kernel
theorem dX12_dearest_11 : decode cX12_dearest 11 = .ok (.ifCond .ne 5, 3) := by decide +kernel
theorem dX12_dearest_14 : decode cX12_dearest 14 = .ok (.iconst (-1), 1) := by decide +kernel
theorem dX12_dearest_15 : decode cX12_dearest 15 = .ok (.ireturn, 1) := by decide +kernel
theorem dX12_dearest_16 : decode cX12_dearest 16 = .ok (.aload_n 0, 1) := by decide +kernel
theorem dX12_dearest_17 : decode cX12_dearest 17 = .ok (.invokevirtual 270, 3) := by decide +kernel
theorem dX12_dearest_20 : decode cX12_dearest 20 = .ok (.istore_n 2, 1) := by decide +kernel
theorem dX12_dearest_21 : decode cX12_dearest 21 = .ok (.iload_n 2, 1) := by decide +kernel
theorem dX12_dearest_22 : decode cX12_dearest 22 = .ok (.ifCond .eq 5, 3) := by decide +kernel
theorem dX12_dearest_25 : decode cX12_dearest 25 = .ok (.iload_n 2, 1) := by decide +kernel
theorem dX12_dearest_26 : decode cX12_dearest 26 = .ok (.ireturn, 1) := by decide +kernel
theorem dX12_dearest_27 : decode cX12_dearest 27 = .ok (.aload_n 0, 1) := by decide +kernel
theorem dX12_dearest_28 : decode cX12_dearest 28 = .ok (.invokevirtual 265, 3) := by decide +kernel
theorem dX12_dearest_31 : decode cX12_dearest 31 = .ok (.istore_n 3, 1) := by decide +kernel
theorem dX12_dearest_32 : decode cX12_dearest 32 = .ok (.bipush (-4), 2) := by decide +kernel
theorem dX12_dearest_34 : decode cX12_dearest 34 = .ok (.istore 4, 2) := by decide +kernel
theorem dX12_dearest_36 : decode cX12_dearest 36 = .ok (.iconst 0, 1) := by decide +kernel
theorem dX12_dearest_37 : decode cX12_dearest 37 = .ok (.istore 5, 2) := by decide +kernel
theorem dX12_dearest_39 : decode cX12_dearest 39 = .ok (.iconst 0, 1) := by decide +kernel
theorem dX12_dearest_40 : decode cX12_dearest 40 = .ok (.istore 6, 2) := by decide +kernel
theorem dX12_dearest_42 : decode cX12_dearest 42 = .ok (.iload 6, 2) := by decide +kernel
theorem dX12_dearest_44 : decode cX12_dearest 44 = .ok (.bipush 36, 2) := by decide +kernel
theorem dX12_dearest_46 : decode cX12_dearest 46 = .ok (.if_icmp .ge 62, 3) := by decide +kernel
theorem dX12_dearest_49 : decode cX12_dearest 49 = .ok (.aload_n 0, 1) := by decide +kernel
theorem dX12_dearest_50 : decode cX12_dearest 50 = .ok (.getfield 40, 3) := by decide +kernel
theorem dX12_dearest_53 : decode cX12_dearest 53 = .ok (.iload 6, 2) := by decide +kernel
theorem dX12_dearest_55 : decode cX12_dearest 55 = .ok (.iaload, 1) := by decide +kernel
theorem dX12_dearest_56 : decode cX12_dearest 56 = .ok (.iconst 2, 1) := by decide +kernel
theorem dX12_dearest_57 : decode cX12_dearest 57 = .ok (.if_icmp .ne 45, 3) := by decide +kernel
theorem dX12_dearest_60 : decode cX12_dearest 60 = .ok (.iload_n 3, 1) := by decide +kernel
theorem dX12_dearest_61 : decode cX12_dearest 61 = .ok (.aload_n 0, 1) := by decide +kernel
theorem dX12_dearest_62 : decode cX12_dearest 62 = .ok (.iload 6, 2) := by decide +kernel
theorem dX12_dearest_64 : decode cX12_dearest 64 = .ok (.invokevirtual 276, 3) := by decide +kernel
theorem dX12_dearest_67 : decode cX12_dearest 67 = .ok (.isub, 1) := by decide +kernel
theorem dX12_dearest_68 : decode cX12_dearest 68 = .ok (.istore 7, 2) := by decide +kernel
theorem dX12_dearest_70 : decode cX12_dearest 70 = .ok (.iload 7, 2) := by decide +kernel
theorem dX12_dearest_72 : decode cX12_dearest 72 = .ok (.iload 5, 2) := by decide +kernel
theorem dX12_dearest_74 : decode cX12_dearest 74 = .ok (.if_icmp .le 8, 3) := by decide +kernel
theorem dX12_dearest_77 : decode cX12_dearest 77 = .ok (.iload 6, 2) := by decide +kernel
theorem dX12_dearest_79 : decode cX12_dearest 79 = .ok (.goto 5, 3) := by decide +kernel
theorem dX12_dearest_82 : decode cX12_dearest 82 = .ok (.iload 4, 2) := by decide +kernel
theorem dX12_dearest_84 : decode cX12_dearest 84 = .ok (.istore 4, 2) := by decide +kernel
theorem dX12_dearest_86 : decode cX12_dearest 86 = .ok (.iload 7, 2) := by decide +kernel
theorem dX12_dearest_88 : decode cX12_dearest 88 = .ok (.iload 5, 2) := by decide +kernel
theorem dX12_dearest_90 : decode cX12_dearest 90 = .ok (.if_icmp .le 8, 3) := by decide +kernel
theorem dX12_dearest_93 : decode cX12_dearest 93 = .ok (.iload 7, 2) := by decide +kernel
theorem dX12_dearest_95 : decode cX12_dearest 95 = .ok (.goto 5, 3) := by decide +kernel
theorem dX12_dearest_98 : decode cX12_dearest 98 = .ok (.iload 5, 2) := by decide +kernel
theorem dX12_dearest_100 : decode cX12_dearest 100 = .ok (.istore 5, 2) := by decide +kernel
theorem dX12_dearest_102 : decode cX12_dearest 102 = .ok (.iinc 6 1, 3) := by decide +kernel
theorem dX12_dearest_105 : decode cX12_dearest 105 = .ok (.goto (-63), 3) := by decide +kernel
theorem dX12_dearest_108 : decode cX12_dearest 108 = .ok (.iload 4, 2) := by decide +kernel
theorem dX12_dearest_110 : decode cX12_dearest 110 = .ok (.bipush (-4), 2) := by decide +kernel
theorem dX12_dearest_112 : decode cX12_dearest 112 = .ok (.if_icmp .ne 8, 3) := by decide +kernel
theorem dX12_dearest_115 : decode cX12_dearest 115 = .ok (.bipush (-4), 2) := by decide +kernel
theorem dX12_dearest_117 : decode cX12_dearest 117 = .ok (.goto 14, 3) := by decide +kernel
theorem dX12_dearest_120 : decode cX12_dearest 120 = .ok (.iload_n 1, 1) := by decide +kernel
theorem dX12_dearest_121 : decode cX12_dearest 121 = .ok (.ifCond .ne 8, 3) := by decide +kernel
theorem dX12_dearest_124 : decode cX12_dearest 124 = .ok (.iload 4, 2) := by decide +kernel
theorem dX12_dearest_126 : decode cX12_dearest 126 = .ok (.goto 5, 3) := by decide +kernel
theorem dX12_dearest_129 : decode cX12_dearest 129 = .ok (.iload 5, 2) := by decide +kernel
theorem dX12_dearest_131 : decode cX12_dearest 131 = .ok (.ireturn, 1) := by decide +kernel
theorem dX12_adopt_0 : decode cX12_adopt 0 = .ok (.aload_n 0, 1) := by decide +kernel
theorem dX12_adopt_1 : decode cX12_adopt 1 = .ok (.invokevirtual 175, 3) := by decide +kernel
theorem dX12_adopt_4 : decode cX12_adopt 4 = .ok (.aload_n 0, 1) := by decide +kernel
theorem dX12_adopt_5 : decode cX12_adopt 5 = .ok (.invokevirtual 270, 3) := by decide +kernel
theorem dX12_adopt_8 : decode cX12_adopt 8 = .ok (.istore_n 1, 1) := by decide +kernel
theorem dX12_adopt_9 : decode cX12_adopt 9 = .ok (.iload_n 1, 1) := by decide +kernel
theorem dX12_adopt_10 : decode cX12_adopt 10 = .ok (.ifCond .eq 5, 3) := by decide +kernel
theorem dX12_adopt_13 : decode cX12_adopt 13 = .ok (.iload_n 1, 1) := by decide +kernel
theorem dX12_adopt_14 : decode cX12_adopt 14 = .ok (.ireturn, 1) := by decide +kernel
theorem dX12_adopt_15 : decode cX12_adopt 15 = .ok (.aload_n 0, 1) := by decide +kernel
theorem dX12_adopt_16 : decode cX12_adopt 16 = .ok (.invokevirtual 273, 3) := by decide +kernel
theorem dX12_adopt_19 : decode cX12_adopt 19 = .ok (.iconst 0, 1) := by decide +kernel
theorem dX12_adopt_20 : decode cX12_adopt 20 = .ok (.istore_n 2, 1) := by decide +kernel
theorem dX12_adopt_21 : decode cX12_adopt 21 = .ok (.iconst 0, 1) := by decide +kernel
theorem dX12_adopt_22 : decode cX12_adopt 22 = .ok (.istore_n 3, 1) := by decide +kernel
theorem dX12_adopt_23 : decode cX12_adopt 23 = .ok (.iconst 0, 1) := by decide +kernel
theorem dX12_adopt_24 : decode cX12_adopt 24 = .ok (.istore 4, 2) := by decide +kernel
theorem dX12_adopt_26 : decode cX12_adopt 26 = .ok (.iload 4, 2) := by decide +kernel
theorem dX12_adopt_28 : decode cX12_adopt 28 = .ok (.aload_n 0, 1) := by decide +kernel
theorem dX12_adopt_29 : decode cX12_adopt 29 = .ok (.getfield 256, 3) := by decide +kernel
theorem dX12_adopt_32 : decode cX12_adopt 32 = .ok (.if_icmp .ge 71, 3) := by decide +kernel
theorem dX12_adopt_35 : decode cX12_adopt 35 = .ok (.iload 4, 2) := by decide +kernel
theorem dX12_adopt_37 : decode cX12_adopt 37 = .ok (.ifCond .le 31, 3) := by decide +kernel
theorem dX12_adopt_40 : decode cX12_adopt 40 = .ok (.aload_n 0, 1) := by decide +kernel
theorem dX12_adopt_41 : decode cX12_adopt 41 = .ok (.getfield 64, 3) := by decide +kernel
theorem dX12_adopt_44 : decode cX12_adopt 44 = .ok (.iload 4, 2) := by decide +kernel
theorem dX12_adopt_46 : decode cX12_adopt 46 = .ok (.iaload, 1) := by decide +kernel
theorem dX12_adopt_47 : decode cX12_adopt 47 = .ok (.aload_n 0, 1) := by decide +kernel
theorem dX12_adopt_48 : decode cX12_adopt 48 = .ok (.getfield 64, 3) := by decide +kernel
theorem dX12_adopt_51 : decode cX12_adopt 51 = .ok (.iload 4, 2) := by decide +kernel
theorem dX12_adopt_53 : decode cX12_adopt 53 = .ok (.iconst 1, 1) := by decide +kernel
theorem dX12_adopt_54 : decode cX12_adopt 54 = .ok (.isub, 1) := by decide +kernel
theorem dX12_adopt_55 : decode cX12_adopt 55 = .ok (.iaload, 1) := by decide +kernel
theorem dX12_adopt_56 : decode cX12_adopt 56 = .ok (.if_icmp .ne 12, 3) := by decide +kernel
theorem dX12_adopt_59 : decode cX12_adopt 59 = .ok (.iload_n 3, 1) := by decide +kernel
theorem dX12_adopt_60 : decode cX12_adopt 60 = .ok (.iconst 5, 1) := by decide +kernel
theorem dX12_adopt_61 : decode cX12_adopt 61 = .ok (.if_icmp .ge 7, 3) := by decide +kernel
theorem dX12_adopt_64 : decode cX12_adopt 64 = .ok (.iconst 1, 1) := by decide +kernel
theorem dX12_adopt_65 : decode cX12_adopt 65 = .ok (.goto 4, 3) := by decide +kernel
theorem dX12_adopt_68 : decode cX12_adopt 68 = .ok (.iconst 0, 1) := by decide +kernel
theorem dX12_adopt_69 : decode cX12_adopt 69 = .ok (.istore 5, 2) := by decide +kernel
theorem dX12_adopt_71 : decode cX12_adopt 71 = .ok (.iload_n 2, 1) := by decide +kernel
theorem dX12_adopt_72 : decode cX12_adopt 72 = .ok (.iload 5, 2) := by decide +kernel
theorem dX12_adopt_74 : decode cX12_adopt 74 = .ok (.ifCond .eq 7, 3) := by decide +kernel
theorem dX12_adopt_77 : decode cX12_adopt 77 = .ok (.iconst 0, 1) := by decide +kernel
theorem dX12_adopt_78 : decode cX12_adopt 78 = .ok (.goto 4, 3) := by decide +kernel
theorem dX12_adopt_81 : decode cX12_adopt 81 = .ok (.iconst 1, 1) := by decide +kernel
theorem dX12_adopt_82 : decode cX12_adopt 82 = .ok (.iadd, 1) := by decide +kernel
theorem dX12_adopt_83 : decode cX12_adopt 83 = .ok (.istore_n 2, 1) := by decide +kernel
theorem dX12_adopt_84 : decode cX12_adopt 84 = .ok (.iload 5, 2) := by decide +kernel
theorem dX12_adopt_86 : decode cX12_adopt 86 = .ok (.ifCond .eq 9, 3) := by decide +kernel
theorem dX12_adopt_89 : decode cX12_adopt 89 = .ok (.iload_n 3, 1) := by decide +kernel
theorem dX12_adopt_90 : decode cX12_adopt 90 = .ok (.iconst 1, 1) := by decide +kernel
theorem dX12_adopt_91 : decode cX12_adopt 91 = .ok (.iadd, 1) := by decide +kernel
theorem dX12_adopt_92 : decode cX12_adopt 92 = .ok (.goto 4, 3) := by decide +kernel
theorem dX12_adopt_95 : decode cX12_adopt 95 = .ok (.iconst 1, 1) := by decide +kernel
theorem dX12_adopt_96 : decode cX12_adopt 96 = .ok (.istore_n 3, 1) := by decide +kernel
theorem dX12_adopt_97 : decode cX12_adopt 97 = .ok (.iinc 4 1, 3) := by decide +kernel
theorem dX12_adopt_100 : decode cX12_adopt 100 = .ok (.goto (-74), 3) := by decide +kernel
theorem dX12_adopt_103 : decode cX12_adopt 103 = .ok (.iload_n 2, 1) := by decide +kernel
theorem dX12_adopt_104 : decode cX12_adopt 104 = .ok (.bipush 24, 2) := by decide +kernel
theorem dX12_adopt_106 : decode cX12_adopt 106 = .ok (.if_icmp .le 6, 3) := by decide +kernel
theorem dX12_adopt_109 : decode cX12_adopt 109 = .ok (.bipush (-3), 2) := by decide +kernel
theorem dX12_adopt_111 : decode cX12_adopt 111 = .ok (.ireturn, 1) := by decide +kernel
theorem dX12_adopt_112 : decode cX12_adopt 112 = .ok (.aload_n 0, 1) := by decide +kernel
theorem dX12_adopt_113 : decode cX12_adopt 113 = .ok (.getfield 40, 3) := by decide +kernel
theorem dX12_adopt_116 : decode cX12_adopt 116 = .ok (.sipush 192, 3) := by decide +kernel
theorem dX12_adopt_119 : decode cX12_adopt 119 = .ok (.iconst 0, 1) := by decide +kernel
theorem dX12_adopt_120 : decode cX12_adopt 120 = .ok (.iastore, 1) := by decide +kernel
theorem dX12_adopt_121 : decode cX12_adopt 121 = .ok (.iconst 0, 1) := by decide +kernel
theorem dX12_adopt_122 : decode cX12_adopt 122 = .ok (.istore 4, 2) := by decide +kernel
theorem dX12_adopt_124 : decode cX12_adopt 124 = .ok (.iload 4, 2) := by decide +kernel
theorem dX12_adopt_126 : decode cX12_adopt 126 = .ok (.aload_n 0, 1) := by decide +kernel
theorem dX12_adopt_127 : decode cX12_adopt 127 = .ok (.getfield 256, 3) := by decide +kernel
theorem dX12_adopt_130 : decode cX12_adopt 130 = .ok (.if_icmp .ge 88, 3) := by decide +kernel
theorem dX12_adopt_133 : decode cX12_adopt 133 = .ok (.sipush 144, 3) := by decide +kernel
theorem dX12_adopt_136 : decode cX12_adopt 136 = .ok (.iconst 2, 1) := by decide +kernel
theorem dX12_adopt_137 : decode cX12_adopt 137 = .ok (.aload_n 0, 1) := by decide +kernel
theorem dX12_adopt_138 : decode cX12_adopt 138 = .ok (.getfield 40, 3) := by decide +kernel
theorem dX12_adopt_141 : decode cX12_adopt 141 = .ok (.sipush 192, 3) := by decide +kernel
theorem dX12_adopt_144 : decode cX12_adopt 144 = .ok (.iaload, 1) := by decide +kernel
theorem dX12_adopt_145 : decode cX12_adopt 145 = .ok (.imul, 1) := by decide +kernel
theorem dX12_adopt_146 : decode cX12_adopt 146 = .ok (.iadd, 1) := by decide +kernel
theorem dX12_adopt_147 : decode cX12_adopt 147 = .ok (.iconst 1, 1) := by decide +kernel
theorem dX12_adopt_148 : decode cX12_adopt 148 = .ok (.isub, 1) := by decide +kernel
theorem dX12_adopt_149 : decode cX12_adopt 149 = .ok (.istore 5, 2) := by decide +kernel
theorem dX12_adopt_151 : decode cX12_adopt 151 = .ok (.iload 4, 2) := by decide +kernel
theorem dX12_adopt_153 : decode cX12_adopt 153 = .ok (.ifCond .le 47, 3) := by decide +kernel
