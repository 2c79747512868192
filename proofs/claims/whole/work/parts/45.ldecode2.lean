theorem d_L_law_511 : decode code 511 = .ok (.iaload, 1) := by decide +kernel
theorem d_L_law_512 : decode code 512 = .ok (.aload_n 0, 1) := by decide +kernel
theorem d_L_law_513 : decode code 513 = .ok (.iload 4, 2) := by decide +kernel
theorem d_L_law_515 : decode code 515 = .ok (.iconst 3, 1) := by decide +kernel
theorem d_L_law_516 : decode code 516 = .ok (.iadd, 1) := by decide +kernel
theorem d_L_law_517 : decode code 517 = .ok (.iaload, 1) := by decide +kernel
theorem d_L_law_518 : decode code 518 = .ok (.aload_n 3, 1) := by decide +kernel
theorem d_L_law_519 : decode code 519 = .ok (.invokestatic 77, 3) := by decide +kernel
theorem d_L_law_522 : decode code 522 = .ok (.istore 5, 2) := by decide +kernel
theorem d_L_law_524 : decode code 524 = .ok (.aload_n 2, 1) := by decide +kernel
theorem d_L_law_525 : decode code 525 = .ok (.aload_n 0, 1) := by decide +kernel
theorem d_L_law_526 : decode code 526 = .ok (.iload 4, 2) := by decide +kernel
theorem d_L_law_528 : decode code 528 = .ok (.iconst 1, 1) := by decide +kernel
theorem d_L_law_529 : decode code 529 = .ok (.iadd, 1) := by decide +kernel
theorem d_L_law_530 : decode code 530 = .ok (.iaload, 1) := by decide +kernel
theorem d_L_law_531 : decode code 531 = .ok (.aload_n 0, 1) := by decide +kernel
theorem d_L_law_532 : decode code 532 = .ok (.iload 4, 2) := by decide +kernel
theorem d_L_law_534 : decode code 534 = .ok (.iconst 2, 1) := by decide +kernel
theorem d_L_law_535 : decode code 535 = .ok (.iadd, 1) := by decide +kernel
theorem d_L_law_536 : decode code 536 = .ok (.iaload, 1) := by decide +kernel
theorem d_L_law_537 : decode code 537 = .ok (.aload_n 0, 1) := by decide +kernel
theorem d_L_law_538 : decode code 538 = .ok (.iload 4, 2) := by decide +kernel
theorem d_L_law_540 : decode code 540 = .ok (.iconst 3, 1) := by decide +kernel
theorem d_L_law_541 : decode code 541 = .ok (.iadd, 1) := by decide +kernel
theorem d_L_law_542 : decode code 542 = .ok (.iaload, 1) := by decide +kernel
theorem d_L_law_543 : decode code 543 = .ok (.invokevirtual 79, 3) := by decide +kernel
theorem d_L_law_546 : decode code 546 = .ok (.istore 6, 2) := by decide +kernel
theorem d_L_law_548 : decode code 548 = .ok (.aload_n 2, 1) := by decide +kernel
theorem d_L_law_549 : decode code 549 = .ok (.invokevirtual 49, 3) := by decide +kernel
theorem d_L_law_552 : decode code 552 = .ok (.iload 5, 2) := by decide +kernel
theorem d_L_law_554 : decode code 554 = .ok (.if_icmp .eq 5, 3) := by decide +kernel
theorem d_L_law_557 : decode code 557 = .ok (.iconst 0, 1) := by decide +kernel
theorem d_L_law_558 : decode code 558 = .ok (.ireturn, 1) := by decide +kernel
theorem d_L_law_559 : decode code 559 = .ok (.iload 5, 2) := by decide +kernel
theorem d_L_law_561 : decode code 561 = .ok (.ifCond .ne 15, 3) := by decide +kernel
theorem d_L_law_564 : decode code 564 = .ok (.aload_n 3, 1) := by decide +kernel
theorem d_L_law_565 : decode code 565 = .ok (.iconst 0, 1) := by decide +kernel
theorem d_L_law_566 : decode code 566 = .ok (.laload, 1) := by decide +kernel
theorem d_L_law_567 : decode code 567 = .ok (.iload 6, 2) := by decide +kernel
theorem d_L_law_569 : decode code 569 = .ok (.i2l, 1) := by decide +kernel
theorem d_L_law_570 : decode code 570 = .ok (.lcmp, 1) := by decide +kernel
theorem d_L_law_571 : decode code 571 = .ok (.ifCond .eq 5, 3) := by decide +kernel
theorem d_L_law_574 : decode code 574 = .ok (.iconst 0, 1) := by decide +kernel
theorem d_L_law_575 : decode code 575 = .ok (.ireturn, 1) := by decide +kernel
theorem d_L_law_576 : decode code 576 = .ok (.goto 146, 3) := by decide +kernel
theorem d_L_law_579 : decode code 579 = .ok (.aload_n 1, 1) := by decide +kernel
theorem d_L_law_580 : decode code 580 = .ok (.aload_n 0, 1) := by decide +kernel
theorem d_L_law_581 : decode code 581 = .ok (.iload 4, 2) := by decide +kernel
theorem d_L_law_583 : decode code 583 = .ok (.iconst 1, 1) := by decide +kernel
theorem d_L_law_584 : decode code 584 = .ok (.iadd, 1) := by decide +kernel
theorem d_L_law_585 : decode code 585 = .ok (.iaload, 1) := by decide +kernel
theorem d_L_law_586 : decode code 586 = .ok (.invokevirtual 80, 3) := by decide +kernel
theorem d_L_law_589 : decode code 589 = .ok (.aload_n 2, 1) := by decide +kernel
theorem d_L_law_590 : decode code 590 = .ok (.aload_n 0, 1) := by decide +kernel
theorem d_L_law_591 : decode code 591 = .ok (.iload 4, 2) := by decide +kernel
theorem d_L_law_593 : decode code 593 = .ok (.iconst 1, 1) := by decide +kernel
theorem d_L_law_594 : decode code 594 = .ok (.iadd, 1) := by decide +kernel
theorem d_L_law_595 : decode code 595 = .ok (.iaload, 1) := by decide +kernel
theorem d_L_law_596 : decode code 596 = .ok (.invokevirtual 83, 3) := by decide +kernel
theorem d_L_law_599 : decode code 599 = .ok (.if_icmp .eq 123, 3) := by decide +kernel
theorem d_L_law_602 : decode code 602 = .ok (.iconst 0, 1) := by decide +kernel
theorem d_L_law_603 : decode code 603 = .ok (.ireturn, 1) := by decide +kernel
theorem d_L_law_604 : decode code 604 = .ok (.aload_n 1, 1) := by decide +kernel
theorem d_L_law_605 : decode code 605 = .ok (.aload_n 0, 1) := by decide +kernel
theorem d_L_law_606 : decode code 606 = .ok (.iload 4, 2) := by decide +kernel
theorem d_L_law_608 : decode code 608 = .ok (.iconst 1, 1) := by decide +kernel
theorem d_L_law_609 : decode code 609 = .ok (.iadd, 1) := by decide +kernel
theorem d_L_law_610 : decode code 610 = .ok (.iaload, 1) := by decide +kernel
theorem d_L_law_611 : decode code 611 = .ok (.invokevirtual 84, 3) := by decide +kernel
theorem d_L_law_614 : decode code 614 = .ok (.aload_n 2, 1) := by decide +kernel
theorem d_L_law_615 : decode code 615 = .ok (.aload_n 0, 1) := by decide +kernel
theorem d_L_law_616 : decode code 616 = .ok (.iload 4, 2) := by decide +kernel
theorem d_L_law_618 : decode code 618 = .ok (.iconst 1, 1) := by decide +kernel
theorem d_L_law_619 : decode code 619 = .ok (.iadd, 1) := by decide +kernel
theorem d_L_law_620 : decode code 620 = .ok (.iaload, 1) := by decide +kernel
theorem d_L_law_621 : decode code 621 = .ok (.invokevirtual 87, 3) := by decide +kernel
theorem d_L_law_624 : decode code 624 = .ok (.if_icmp .eq 98, 3) := by decide +kernel
theorem d_L_law_627 : decode code 627 = .ok (.iconst 0, 1) := by decide +kernel
theorem d_L_law_628 : decode code 628 = .ok (.ireturn, 1) := by decide +kernel
theorem d_L_law_629 : decode code 629 = .ok (.aload_n 1, 1) := by decide +kernel
theorem d_L_law_630 : decode code 630 = .ok (.aload_n 0, 1) := by decide +kernel
theorem d_L_law_631 : decode code 631 = .ok (.iload 4, 2) := by decide +kernel
theorem d_L_law_633 : decode code 633 = .ok (.iconst 1, 1) := by decide +kernel
theorem d_L_law_634 : decode code 634 = .ok (.iadd, 1) := by decide +kernel
theorem d_L_law_635 : decode code 635 = .ok (.iaload, 1) := by decide +kernel
theorem d_L_law_636 : decode code 636 = .ok (.aload_n 0, 1) := by decide +kernel
theorem d_L_law_637 : decode code 637 = .ok (.iload 4, 2) := by decide +kernel
theorem d_L_law_639 : decode code 639 = .ok (.iconst 2, 1) := by decide +kernel
theorem d_L_law_640 : decode code 640 = .ok (.iadd, 1) := by decide +kernel
theorem d_L_law_641 : decode code 641 = .ok (.iaload, 1) := by decide +kernel
theorem d_L_law_642 : decode code 642 = .ok (.aload_n 3, 1) := by decide +kernel
theorem d_L_law_643 : decode code 643 = .ok (.invokestatic 88, 3) := by decide +kernel
theorem d_L_law_646 : decode code 646 = .ok (.istore 5, 2) := by decide +kernel
theorem d_L_law_648 : decode code 648 = .ok (.aload_n 2, 1) := by decide +kernel
theorem d_L_law_649 : decode code 649 = .ok (.aload_n 0, 1) := by decide +kernel
theorem d_L_law_650 : decode code 650 = .ok (.iload 4, 2) := by decide +kernel
theorem d_L_law_652 : decode code 652 = .ok (.iconst 1, 1) := by decide +kernel
theorem d_L_law_653 : decode code 653 = .ok (.iadd, 1) := by decide +kernel
theorem d_L_law_654 : decode code 654 = .ok (.iaload, 1) := by decide +kernel
theorem d_L_law_655 : decode code 655 = .ok (.aload_n 0, 1) := by decide +kernel
theorem d_L_law_656 : decode code 656 = .ok (.iload 4, 2) := by decide +kernel
theorem d_L_law_658 : decode code 658 = .ok (.iconst 2, 1) := by decide +kernel
theorem d_L_law_659 : decode code 659 = .ok (.iadd, 1) := by decide +kernel
theorem d_L_law_660 : decode code 660 = .ok (.iaload, 1) := by decide +kernel
theorem d_L_law_661 : decode code 661 = .ok (.invokevirtual 90, 3) := by decide +kernel
theorem d_L_law_664 : decode code 664 = .ok (.istore 6, 2) := by decide +kernel
theorem d_L_law_666 : decode code 666 = .ok (.aload_n 2, 1) := by decide +kernel
theorem d_L_law_667 : decode code 667 = .ok (.invokevirtual 49, 3) := by decide +kernel
theorem d_L_law_670 : decode code 670 = .ok (.iload 5, 2) := by decide +kernel
theorem d_L_law_672 : decode code 672 = .ok (.if_icmp .eq 5, 3) := by decide +kernel
theorem d_L_law_675 : decode code 675 = .ok (.iconst 0, 1) := by decide +kernel
theorem d_L_law_676 : decode code 676 = .ok (.ireturn, 1) := by decide +kernel
theorem d_L_law_677 : decode code 677 = .ok (.iload 5, 2) := by decide +kernel
theorem d_L_law_679 : decode code 679 = .ok (.ifCond .ne 15, 3) := by decide +kernel
theorem d_L_law_682 : decode code 682 = .ok (.aload_n 3, 1) := by decide +kernel
theorem d_L_law_683 : decode code 683 = .ok (.iconst 0, 1) := by decide +kernel
theorem d_L_law_684 : decode code 684 = .ok (.laload, 1) := by decide +kernel
theorem d_L_law_685 : decode code 685 = .ok (.iload 6, 2) := by decide +kernel
theorem d_L_law_687 : decode code 687 = .ok (.i2l, 1) := by decide +kernel
theorem d_L_law_688 : decode code 688 = .ok (.lcmp, 1) := by decide +kernel
theorem d_L_law_689 : decode code 689 = .ok (.ifCond .eq 5, 3) := by decide +kernel
theorem d_L_law_692 : decode code 692 = .ok (.iconst 0, 1) := by decide +kernel
theorem d_L_law_693 : decode code 693 = .ok (.ireturn, 1) := by decide +kernel
theorem d_L_law_694 : decode code 694 = .ok (.goto 28, 3) := by decide +kernel
theorem d_L_law_697 : decode code 697 = .ok (.aload_n 1, 1) := by decide +kernel
theorem d_L_law_698 : decode code 698 = .ok (.aload_n 0, 1) := by decide +kernel
theorem d_L_law_699 : decode code 699 = .ok (.iload 4, 2) := by decide +kernel
theorem d_L_law_701 : decode code 701 = .ok (.iconst 1, 1) := by decide +kernel
theorem d_L_law_702 : decode code 702 = .ok (.iadd, 1) := by decide +kernel
theorem d_L_law_703 : decode code 703 = .ok (.iaload, 1) := by decide +kernel
theorem d_L_law_704 : decode code 704 = .ok (.invokevirtual 91, 3) := by decide +kernel
theorem d_L_law_707 : decode code 707 = .ok (.aload_n 2, 1) := by decide +kernel
theorem d_L_law_708 : decode code 708 = .ok (.aload_n 0, 1) := by decide +kernel
theorem d_L_law_709 : decode code 709 = .ok (.iload 4, 2) := by decide +kernel
theorem d_L_law_711 : decode code 711 = .ok (.iconst 1, 1) := by decide +kernel
theorem d_L_law_712 : decode code 712 = .ok (.iadd, 1) := by decide +kernel
theorem d_L_law_713 : decode code 713 = .ok (.iaload, 1) := by decide +kernel
theorem d_L_law_714 : decode code 714 = .ok (.invokevirtual 94, 3) := by decide +kernel
theorem d_L_law_717 : decode code 717 = .ok (.if_icmp .eq 5, 3) := by decide +kernel
theorem d_L_law_720 : decode code 720 = .ok (.iconst 0, 1) := by decide +kernel
theorem d_L_law_721 : decode code 721 = .ok (.ireturn, 1) := by decide +kernel
theorem d_L_law_722 : decode code 722 = .ok (.iinc 4 4, 3) := by decide +kernel
theorem d_L_law_725 : decode code 725 = .ok (.goto (-662), 3) := by decide +kernel
theorem d_L_law_728 : decode code 728 = .ok (.iconst 1, 1) := by decide +kernel
theorem d_L_law_729 : decode code 729 = .ok (.ireturn, 1) := by decide +kernel
