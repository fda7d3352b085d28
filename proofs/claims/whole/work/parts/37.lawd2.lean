theorem d_L_law_477 : decode b_L_law 477 = .ok (.ireturn, 1) := by decide +kernel
theorem d_L_law_478 : decode b_L_law 478 = .ok (.iload 5, 2) := by decide +kernel
theorem d_L_law_480 : decode b_L_law 480 = .ok (.ifCond .ne 15, 3) := by decide +kernel
theorem d_L_law_483 : decode b_L_law 483 = .ok (.aload_n 3, 1) := by decide +kernel
theorem d_L_law_484 : decode b_L_law 484 = .ok (.iconst 0, 1) := by decide +kernel
theorem d_L_law_485 : decode b_L_law 485 = .ok (.laload, 1) := by decide +kernel
theorem d_L_law_486 : decode b_L_law 486 = .ok (.iload 6, 2) := by decide +kernel
theorem d_L_law_488 : decode b_L_law 488 = .ok (.i2l, 1) := by decide +kernel
theorem d_L_law_489 : decode b_L_law 489 = .ok (.lcmp, 1) := by decide +kernel
theorem d_L_law_490 : decode b_L_law 490 = .ok (.ifCond .eq 5, 3) := by decide +kernel
theorem d_L_law_493 : decode b_L_law 493 = .ok (.iconst 0, 1) := by decide +kernel
theorem d_L_law_494 : decode b_L_law 494 = .ok (.ireturn, 1) := by decide +kernel
theorem d_L_law_495 : decode b_L_law 495 = .ok (.goto 401, 3) := by decide +kernel
theorem d_L_law_498 : decode b_L_law 498 = .ok (.aload_n 1, 1) := by decide +kernel
theorem d_L_law_499 : decode b_L_law 499 = .ok (.aload_n 0, 1) := by decide +kernel
theorem d_L_law_500 : decode b_L_law 500 = .ok (.iload 4, 2) := by decide +kernel
theorem d_L_law_502 : decode b_L_law 502 = .ok (.iconst 1, 1) := by decide +kernel
theorem d_L_law_503 : decode b_L_law 503 = .ok (.iadd, 1) := by decide +kernel
theorem d_L_law_504 : decode b_L_law 504 = .ok (.iaload, 1) := by decide +kernel
theorem d_L_law_505 : decode b_L_law 505 = .ok (.aload_n 3, 1) := by decide +kernel
theorem d_L_law_506 : decode b_L_law 506 = .ok (.invokestatic 85, 3) := by decide +kernel
theorem d_L_law_509 : decode b_L_law 509 = .ok (.istore 5, 2) := by decide +kernel
theorem d_L_law_511 : decode b_L_law 511 = .ok (.aload_n 2, 1) := by decide +kernel
theorem d_L_law_512 : decode b_L_law 512 = .ok (.aload_n 0, 1) := by decide +kernel
theorem d_L_law_513 : decode b_L_law 513 = .ok (.iload 4, 2) := by decide +kernel
theorem d_L_law_515 : decode b_L_law 515 = .ok (.iconst 1, 1) := by decide +kernel
theorem d_L_law_516 : decode b_L_law 516 = .ok (.iadd, 1) := by decide +kernel
theorem d_L_law_517 : decode b_L_law 517 = .ok (.iaload, 1) := by decide +kernel
theorem d_L_law_518 : decode b_L_law 518 = .ok (.invokevirtual 87, 3) := by decide +kernel
theorem d_L_law_521 : decode b_L_law 521 = .ok (.istore 6, 2) := by decide +kernel
theorem d_L_law_523 : decode b_L_law 523 = .ok (.aload_n 2, 1) := by decide +kernel
theorem d_L_law_524 : decode b_L_law 524 = .ok (.invokevirtual 60, 3) := by decide +kernel
theorem d_L_law_527 : decode b_L_law 527 = .ok (.iload 5, 2) := by decide +kernel
theorem d_L_law_529 : decode b_L_law 529 = .ok (.if_icmp .eq 5, 3) := by decide +kernel
theorem d_L_law_532 : decode b_L_law 532 = .ok (.iconst 0, 1) := by decide +kernel
theorem d_L_law_533 : decode b_L_law 533 = .ok (.ireturn, 1) := by decide +kernel
theorem d_L_law_534 : decode b_L_law 534 = .ok (.iload 5, 2) := by decide +kernel
theorem d_L_law_536 : decode b_L_law 536 = .ok (.ifCond .ne 15, 3) := by decide +kernel
theorem d_L_law_539 : decode b_L_law 539 = .ok (.aload_n 3, 1) := by decide +kernel
theorem d_L_law_540 : decode b_L_law 540 = .ok (.iconst 0, 1) := by decide +kernel
theorem d_L_law_541 : decode b_L_law 541 = .ok (.laload, 1) := by decide +kernel
theorem d_L_law_542 : decode b_L_law 542 = .ok (.iload 6, 2) := by decide +kernel
theorem d_L_law_544 : decode b_L_law 544 = .ok (.i2l, 1) := by decide +kernel
theorem d_L_law_545 : decode b_L_law 545 = .ok (.lcmp, 1) := by decide +kernel
theorem d_L_law_546 : decode b_L_law 546 = .ok (.ifCond .eq 5, 3) := by decide +kernel
theorem d_L_law_549 : decode b_L_law 549 = .ok (.iconst 0, 1) := by decide +kernel
theorem d_L_law_550 : decode b_L_law 550 = .ok (.ireturn, 1) := by decide +kernel
theorem d_L_law_551 : decode b_L_law 551 = .ok (.goto 345, 3) := by decide +kernel
theorem d_L_law_554 : decode b_L_law 554 = .ok (.aload_n 1, 1) := by decide +kernel
theorem d_L_law_555 : decode b_L_law 555 = .ok (.aload_n 0, 1) := by decide +kernel
theorem d_L_law_556 : decode b_L_law 556 = .ok (.iload 4, 2) := by decide +kernel
theorem d_L_law_558 : decode b_L_law 558 = .ok (.iconst 1, 1) := by decide +kernel
theorem d_L_law_559 : decode b_L_law 559 = .ok (.iadd, 1) := by decide +kernel
theorem d_L_law_560 : decode b_L_law 560 = .ok (.iaload, 1) := by decide +kernel
theorem d_L_law_561 : decode b_L_law 561 = .ok (.aload_n 3, 1) := by decide +kernel
theorem d_L_law_562 : decode b_L_law 562 = .ok (.invokestatic 88, 3) := by decide +kernel
theorem d_L_law_565 : decode b_L_law 565 = .ok (.istore 5, 2) := by decide +kernel
theorem d_L_law_567 : decode b_L_law 567 = .ok (.aload_n 2, 1) := by decide +kernel
theorem d_L_law_568 : decode b_L_law 568 = .ok (.aload_n 0, 1) := by decide +kernel
theorem d_L_law_569 : decode b_L_law 569 = .ok (.iload 4, 2) := by decide +kernel
theorem d_L_law_571 : decode b_L_law 571 = .ok (.iconst 1, 1) := by decide +kernel
theorem d_L_law_572 : decode b_L_law 572 = .ok (.iadd, 1) := by decide +kernel
theorem d_L_law_573 : decode b_L_law 573 = .ok (.iaload, 1) := by decide +kernel
theorem d_L_law_574 : decode b_L_law 574 = .ok (.invokevirtual 90, 3) := by decide +kernel
theorem d_L_law_577 : decode b_L_law 577 = .ok (.istore 6, 2) := by decide +kernel
theorem d_L_law_579 : decode b_L_law 579 = .ok (.aload_n 2, 1) := by decide +kernel
theorem d_L_law_580 : decode b_L_law 580 = .ok (.invokevirtual 60, 3) := by decide +kernel
theorem d_L_law_583 : decode b_L_law 583 = .ok (.iload 5, 2) := by decide +kernel
theorem d_L_law_585 : decode b_L_law 585 = .ok (.if_icmp .eq 5, 3) := by decide +kernel
theorem d_L_law_588 : decode b_L_law 588 = .ok (.iconst 0, 1) := by decide +kernel
theorem d_L_law_589 : decode b_L_law 589 = .ok (.ireturn, 1) := by decide +kernel
theorem d_L_law_590 : decode b_L_law 590 = .ok (.iload 5, 2) := by decide +kernel
theorem d_L_law_592 : decode b_L_law 592 = .ok (.ifCond .ne 15, 3) := by decide +kernel
theorem d_L_law_595 : decode b_L_law 595 = .ok (.aload_n 3, 1) := by decide +kernel
theorem d_L_law_596 : decode b_L_law 596 = .ok (.iconst 0, 1) := by decide +kernel
theorem d_L_law_597 : decode b_L_law 597 = .ok (.laload, 1) := by decide +kernel
theorem d_L_law_598 : decode b_L_law 598 = .ok (.iload 6, 2) := by decide +kernel
theorem d_L_law_600 : decode b_L_law 600 = .ok (.i2l, 1) := by decide +kernel
theorem d_L_law_601 : decode b_L_law 601 = .ok (.lcmp, 1) := by decide +kernel
theorem d_L_law_602 : decode b_L_law 602 = .ok (.ifCond .eq 5, 3) := by decide +kernel
theorem d_L_law_605 : decode b_L_law 605 = .ok (.iconst 0, 1) := by decide +kernel
theorem d_L_law_606 : decode b_L_law 606 = .ok (.ireturn, 1) := by decide +kernel
theorem d_L_law_607 : decode b_L_law 607 = .ok (.goto 289, 3) := by decide +kernel
theorem d_L_law_610 : decode b_L_law 610 = .ok (.aload_n 1, 1) := by decide +kernel
theorem d_L_law_611 : decode b_L_law 611 = .ok (.aload_n 0, 1) := by decide +kernel
theorem d_L_law_612 : decode b_L_law 612 = .ok (.iload 4, 2) := by decide +kernel
theorem d_L_law_614 : decode b_L_law 614 = .ok (.iconst 1, 1) := by decide +kernel
theorem d_L_law_615 : decode b_L_law 615 = .ok (.iadd, 1) := by decide +kernel
theorem d_L_law_616 : decode b_L_law 616 = .ok (.iaload, 1) := by decide +kernel
theorem d_L_law_617 : decode b_L_law 617 = .ok (.aload_n 0, 1) := by decide +kernel
theorem d_L_law_618 : decode b_L_law 618 = .ok (.iload 4, 2) := by decide +kernel
theorem d_L_law_620 : decode b_L_law 620 = .ok (.iconst 2, 1) := by decide +kernel
theorem d_L_law_621 : decode b_L_law 621 = .ok (.iadd, 1) := by decide +kernel
theorem d_L_law_622 : decode b_L_law 622 = .ok (.iaload, 1) := by decide +kernel
theorem d_L_law_623 : decode b_L_law 623 = .ok (.invokevirtual 91, 3) := by decide +kernel
theorem d_L_law_626 : decode b_L_law 626 = .ok (.aload_n 2, 1) := by decide +kernel
theorem d_L_law_627 : decode b_L_law 627 = .ok (.aload_n 0, 1) := by decide +kernel
theorem d_L_law_628 : decode b_L_law 628 = .ok (.iload 4, 2) := by decide +kernel
theorem d_L_law_630 : decode b_L_law 630 = .ok (.iconst 1, 1) := by decide +kernel
theorem d_L_law_631 : decode b_L_law 631 = .ok (.iadd, 1) := by decide +kernel
theorem d_L_law_632 : decode b_L_law 632 = .ok (.iaload, 1) := by decide +kernel
theorem d_L_law_633 : decode b_L_law 633 = .ok (.aload_n 0, 1) := by decide +kernel
theorem d_L_law_634 : decode b_L_law 634 = .ok (.iload 4, 2) := by decide +kernel
theorem d_L_law_636 : decode b_L_law 636 = .ok (.iconst 2, 1) := by decide +kernel
theorem d_L_law_637 : decode b_L_law 637 = .ok (.iadd, 1) := by decide +kernel
theorem d_L_law_638 : decode b_L_law 638 = .ok (.iaload, 1) := by decide +kernel
theorem d_L_law_639 : decode b_L_law 639 = .ok (.invokevirtual 94, 3) := by decide +kernel
theorem d_L_law_642 : decode b_L_law 642 = .ok (.if_icmp .eq 254, 3) := by decide +kernel
theorem d_L_law_645 : decode b_L_law 645 = .ok (.iconst 0, 1) := by decide +kernel
theorem d_L_law_646 : decode b_L_law 646 = .ok (.ireturn, 1) := by decide +kernel
theorem d_L_law_647 : decode b_L_law 647 = .ok (.aload_n 1, 1) := by decide +kernel
theorem d_L_law_648 : decode b_L_law 648 = .ok (.aload_n 0, 1) := by decide +kernel
theorem d_L_law_649 : decode b_L_law 649 = .ok (.iload 4, 2) := by decide +kernel
theorem d_L_law_651 : decode b_L_law 651 = .ok (.iconst 1, 1) := by decide +kernel
theorem d_L_law_652 : decode b_L_law 652 = .ok (.iadd, 1) := by decide +kernel
theorem d_L_law_653 : decode b_L_law 653 = .ok (.iaload, 1) := by decide +kernel
theorem d_L_law_654 : decode b_L_law 654 = .ok (.aload_n 0, 1) := by decide +kernel
theorem d_L_law_655 : decode b_L_law 655 = .ok (.iload 4, 2) := by decide +kernel
theorem d_L_law_657 : decode b_L_law 657 = .ok (.iconst 2, 1) := by decide +kernel
theorem d_L_law_658 : decode b_L_law 658 = .ok (.iadd, 1) := by decide +kernel
theorem d_L_law_659 : decode b_L_law 659 = .ok (.iaload, 1) := by decide +kernel
theorem d_L_law_660 : decode b_L_law 660 = .ok (.aload_n 3, 1) := by decide +kernel
theorem d_L_law_661 : decode b_L_law 661 = .ok (.invokestatic 95, 3) := by decide +kernel
theorem d_L_law_664 : decode b_L_law 664 = .ok (.istore 5, 2) := by decide +kernel
theorem d_L_law_666 : decode b_L_law 666 = .ok (.aload_n 2, 1) := by decide +kernel
theorem d_L_law_667 : decode b_L_law 667 = .ok (.aload_n 0, 1) := by decide +kernel
theorem d_L_law_668 : decode b_L_law 668 = .ok (.iload 4, 2) := by decide +kernel
theorem d_L_law_670 : decode b_L_law 670 = .ok (.iconst 1, 1) := by decide +kernel
theorem d_L_law_671 : decode b_L_law 671 = .ok (.iadd, 1) := by decide +kernel
theorem d_L_law_672 : decode b_L_law 672 = .ok (.iaload, 1) := by decide +kernel
theorem d_L_law_673 : decode b_L_law 673 = .ok (.aload_n 0, 1) := by decide +kernel
theorem d_L_law_674 : decode b_L_law 674 = .ok (.iload 4, 2) := by decide +kernel
theorem d_L_law_676 : decode b_L_law 676 = .ok (.iconst 2, 1) := by decide +kernel
theorem d_L_law_677 : decode b_L_law 677 = .ok (.iadd, 1) := by decide +kernel
theorem d_L_law_678 : decode b_L_law 678 = .ok (.iaload, 1) := by decide +kernel
theorem d_L_law_679 : decode b_L_law 679 = .ok (.invokevirtual 98, 3) := by decide +kernel
theorem d_L_law_682 : decode b_L_law 682 = .ok (.istore 6, 2) := by decide +kernel
theorem d_L_law_684 : decode b_L_law 684 = .ok (.aload_n 2, 1) := by decide +kernel
theorem d_L_law_685 : decode b_L_law 685 = .ok (.invokevirtual 60, 3) := by decide +kernel
theorem d_L_law_688 : decode b_L_law 688 = .ok (.iload 5, 2) := by decide +kernel
theorem d_L_law_690 : decode b_L_law 690 = .ok (.if_icmp .eq 5, 3) := by decide +kernel
theorem d_L_law_693 : decode b_L_law 693 = .ok (.iconst 0, 1) := by decide +kernel
theorem d_L_law_694 : decode b_L_law 694 = .ok (.ireturn, 1) := by decide +kernel
theorem d_L_law_695 : decode b_L_law 695 = .ok (.iload 5, 2) := by decide +kernel
theorem d_L_law_697 : decode b_L_law 697 = .ok (.ifCond .ne 15, 3) := by decide +kernel
theorem d_L_law_700 : decode b_L_law 700 = .ok (.aload_n 3, 1) := by decide +kernel
theorem d_L_law_701 : decode b_L_law 701 = .ok (.iconst 0, 1) := by decide +kernel
theorem d_L_law_702 : decode b_L_law 702 = .ok (.laload, 1) := by decide +kernel
theorem d_L_law_703 : decode b_L_law 703 = .ok (.iload 6, 2) := by decide +kernel
theorem d_L_law_705 : decode b_L_law 705 = .ok (.i2l, 1) := by decide +kernel
theorem d_L_law_706 : decode b_L_law 706 = .ok (.lcmp, 1) := by decide +kernel
theorem d_L_law_707 : decode b_L_law 707 = .ok (.ifCond .eq 5, 3) := by decide +kernel
theorem d_L_law_710 : decode b_L_law 710 = .ok (.iconst 0, 1) := by decide +kernel
theorem d_L_law_711 : decode b_L_law 711 = .ok (.ireturn, 1) := by decide +kernel
theorem d_L_law_712 : decode b_L_law 712 = .ok (.goto 184, 3) := by decide +kernel
theorem d_L_law_715 : decode b_L_law 715 = .ok (.aload_n 1, 1) := by decide +kernel
theorem d_L_law_716 : decode b_L_law 716 = .ok (.aload_n 0, 1) := by decide +kernel
theorem d_L_law_717 : decode b_L_law 717 = .ok (.iload 4, 2) := by decide +kernel
theorem d_L_law_719 : decode b_L_law 719 = .ok (.iconst 1, 1) := by decide +kernel
theorem d_L_law_720 : decode b_L_law 720 = .ok (.iadd, 1) := by decide +kernel
theorem d_L_law_721 : decode b_L_law 721 = .ok (.iaload, 1) := by decide +kernel
theorem d_L_law_722 : decode b_L_law 722 = .ok (.aload_n 3, 1) := by decide +kernel
theorem d_L_law_723 : decode b_L_law 723 = .ok (.invokestatic 99, 3) := by decide +kernel
theorem d_L_law_726 : decode b_L_law 726 = .ok (.istore 5, 2) := by decide +kernel
theorem d_L_law_728 : decode b_L_law 728 = .ok (.aload_n 2, 1) := by decide +kernel
theorem d_L_law_729 : decode b_L_law 729 = .ok (.aload_n 0, 1) := by decide +kernel
theorem d_L_law_730 : decode b_L_law 730 = .ok (.iload 4, 2) := by decide +kernel
theorem d_L_law_732 : decode b_L_law 732 = .ok (.iconst 1, 1) := by decide +kernel
theorem d_L_law_733 : decode b_L_law 733 = .ok (.iadd, 1) := by decide +kernel
theorem d_L_law_734 : decode b_L_law 734 = .ok (.iaload, 1) := by decide +kernel
theorem d_L_law_735 : decode b_L_law 735 = .ok (.invokevirtual 101, 3) := by decide +kernel
theorem d_L_law_738 : decode b_L_law 738 = .ok (.istore 6, 2) := by decide +kernel
theorem d_L_law_740 : decode b_L_law 740 = .ok (.aload_n 2, 1) := by decide +kernel
theorem d_L_law_741 : decode b_L_law 741 = .ok (.invokevirtual 60, 3) := by decide +kernel
theorem d_L_law_744 : decode b_L_law 744 = .ok (.iload 5, 2) := by decide +kernel
theorem d_L_law_746 : decode b_L_law 746 = .ok (.if_icmp .eq 5, 3) := by decide +kernel
theorem d_L_law_749 : decode b_L_law 749 = .ok (.iconst 0, 1) := by decide +kernel
theorem d_L_law_750 : decode b_L_law 750 = .ok (.ireturn, 1) := by decide +kernel
theorem d_L_law_751 : decode b_L_law 751 = .ok (.iload 5, 2) := by decide +kernel
theorem d_L_law_753 : decode b_L_law 753 = .ok (.ifCond .ne 15, 3) := by decide +kernel
theorem d_L_law_756 : decode b_L_law 756 = .ok (.aload_n 3, 1) := by decide +kernel
theorem d_L_law_757 : decode b_L_law 757 = .ok (.iconst 0, 1) := by decide +kernel
theorem d_L_law_758 : decode b_L_law 758 = .ok (.laload, 1) := by decide +kernel
theorem d_L_law_759 : decode b_L_law 759 = .ok (.iload 6, 2) := by decide +kernel
theorem d_L_law_761 : decode b_L_law 761 = .ok (.i2l, 1) := by decide +kernel
theorem d_L_law_762 : decode b_L_law 762 = .ok (.lcmp, 1) := by decide +kernel
theorem d_L_law_763 : decode b_L_law 763 = .ok (.ifCond .eq 5, 3) := by decide +kernel
theorem d_L_law_766 : decode b_L_law 766 = .ok (.iconst 0, 1) := by decide +kernel
theorem d_L_law_767 : decode b_L_law 767 = .ok (.ireturn, 1) := by decide +kernel
theorem d_L_law_768 : decode b_L_law 768 = .ok (.goto 128, 3) := by decide +kernel
theorem d_L_law_771 : decode b_L_law 771 = .ok (.aload_n 1, 1) := by decide +kernel
theorem d_L_law_772 : decode b_L_law 772 = .ok (.aload_n 0, 1) := by decide +kernel
theorem d_L_law_773 : decode b_L_law 773 = .ok (.iload 4, 2) := by decide +kernel
theorem d_L_law_775 : decode b_L_law 775 = .ok (.iconst 1, 1) := by decide +kernel
theorem d_L_law_776 : decode b_L_law 776 = .ok (.iadd, 1) := by decide +kernel
theorem d_L_law_777 : decode b_L_law 777 = .ok (.iaload, 1) := by decide +kernel
theorem d_L_law_778 : decode b_L_law 778 = .ok (.aload_n 0, 1) := by decide +kernel
theorem d_L_law_779 : decode b_L_law 779 = .ok (.iload 4, 2) := by decide +kernel
theorem d_L_law_781 : decode b_L_law 781 = .ok (.iconst 2, 1) := by decide +kernel
theorem d_L_law_782 : decode b_L_law 782 = .ok (.iadd, 1) := by decide +kernel
theorem d_L_law_783 : decode b_L_law 783 = .ok (.iaload, 1) := by decide +kernel
theorem d_L_law_784 : decode b_L_law 784 = .ok (.aload_n 3, 1) := by decide +kernel
theorem d_L_law_785 : decode b_L_law 785 = .ok (.invokestatic 102, 3) := by decide +kernel
theorem d_L_law_788 : decode b_L_law 788 = .ok (.istore 5, 2) := by decide +kernel
theorem d_L_law_790 : decode b_L_law 790 = .ok (.aload_n 2, 1) := by decide +kernel
theorem d_L_law_791 : decode b_L_law 791 = .ok (.aload_n 0, 1) := by decide +kernel
theorem d_L_law_792 : decode b_L_law 792 = .ok (.iload 4, 2) := by decide +kernel
theorem d_L_law_794 : decode b_L_law 794 = .ok (.iconst 1, 1) := by decide +kernel
theorem d_L_law_795 : decode b_L_law 795 = .ok (.iadd, 1) := by decide +kernel
theorem d_L_law_796 : decode b_L_law 796 = .ok (.iaload, 1) := by decide +kernel
theorem d_L_law_797 : decode b_L_law 797 = .ok (.aload_n 0, 1) := by decide +kernel
theorem d_L_law_798 : decode b_L_law 798 = .ok (.iload 4, 2) := by decide +kernel
theorem d_L_law_800 : decode b_L_law 800 = .ok (.iconst 2, 1) := by decide +kernel
theorem d_L_law_801 : decode b_L_law 801 = .ok (.iadd, 1) := by decide +kernel
theorem d_L_law_802 : decode b_L_law 802 = .ok (.iaload, 1) := by decide +kernel
theorem d_L_law_803 : decode b_L_law 803 = .ok (.invokevirtual 104, 3) := by decide +kernel
theorem d_L_law_806 : decode b_L_law 806 = .ok (.istore 6, 2) := by decide +kernel
theorem d_L_law_808 : decode b_L_law 808 = .ok (.aload_n 2, 1) := by decide +kernel
theorem d_L_law_809 : decode b_L_law 809 = .ok (.invokevirtual 60, 3) := by decide +kernel
theorem d_L_law_812 : decode b_L_law 812 = .ok (.iload 5, 2) := by decide +kernel
theorem d_L_law_814 : decode b_L_law 814 = .ok (.if_icmp .eq 5, 3) := by decide +kernel
theorem d_L_law_817 : decode b_L_law 817 = .ok (.iconst 0, 1) := by decide +kernel
theorem d_L_law_818 : decode b_L_law 818 = .ok (.ireturn, 1) := by decide +kernel
theorem d_L_law_819 : decode b_L_law 819 = .ok (.iload 5, 2) := by decide +kernel
theorem d_L_law_821 : decode b_L_law 821 = .ok (.ifCond .ne 22, 3) := by decide +kernel
theorem d_L_law_824 : decode b_L_law 824 = .ok (.aload_n 3, 1) := by decide +kernel
theorem d_L_law_825 : decode b_L_law 825 = .ok (.iconst 0, 1) := by decide +kernel
theorem d_L_law_826 : decode b_L_law 826 = .ok (.laload, 1) := by decide +kernel
theorem d_L_law_827 : decode b_L_law 827 = .ok (.iload 6, 2) := by decide +kernel
theorem d_L_law_829 : decode b_L_law 829 = .ok (.ifCond .eq 7, 3) := by decide +kernel
theorem d_L_law_832 : decode b_L_law 832 = .ok (.lconst 1, 1) := by decide +kernel
theorem d_L_law_833 : decode b_L_law 833 = .ok (.goto 4, 3) := by decide +kernel
theorem d_L_law_836 : decode b_L_law 836 = .ok (.lconst 0, 1) := by decide +kernel
theorem d_L_law_837 : decode b_L_law 837 = .ok (.lcmp, 1) := by decide +kernel
theorem d_L_law_838 : decode b_L_law 838 = .ok (.ifCond .eq 5, 3) := by decide +kernel
theorem d_L_law_841 : decode b_L_law 841 = .ok (.iconst 0, 1) := by decide +kernel
theorem d_L_law_842 : decode b_L_law 842 = .ok (.ireturn, 1) := by decide +kernel
theorem d_L_law_843 : decode b_L_law 843 = .ok (.goto 53, 3) := by decide +kernel
theorem d_L_law_846 : decode b_L_law 846 = .ok (.aload_n 1, 1) := by decide +kernel
theorem d_L_law_847 : decode b_L_law 847 = .ok (.aload_n 0, 1) := by decide +kernel
theorem d_L_law_848 : decode b_L_law 848 = .ok (.iload 4, 2) := by decide +kernel
theorem d_L_law_850 : decode b_L_law 850 = .ok (.iconst 1, 1) := by decide +kernel
theorem d_L_law_851 : decode b_L_law 851 = .ok (.iadd, 1) := by decide +kernel
theorem d_L_law_852 : decode b_L_law 852 = .ok (.iaload, 1) := by decide +kernel
theorem d_L_law_853 : decode b_L_law 853 = .ok (.invokevirtual 105, 3) := by decide +kernel
theorem d_L_law_856 : decode b_L_law 856 = .ok (.aload_n 2, 1) := by decide +kernel
theorem d_L_law_857 : decode b_L_law 857 = .ok (.aload_n 0, 1) := by decide +kernel
theorem d_L_law_858 : decode b_L_law 858 = .ok (.iload 4, 2) := by decide +kernel
theorem d_L_law_860 : decode b_L_law 860 = .ok (.iconst 1, 1) := by decide +kernel
theorem d_L_law_861 : decode b_L_law 861 = .ok (.iadd, 1) := by decide +kernel
theorem d_L_law_862 : decode b_L_law 862 = .ok (.iaload, 1) := by decide +kernel
theorem d_L_law_863 : decode b_L_law 863 = .ok (.invokevirtual 108, 3) := by decide +kernel
theorem d_L_law_866 : decode b_L_law 866 = .ok (.if_icmp .eq 30, 3) := by decide +kernel
theorem d_L_law_869 : decode b_L_law 869 = .ok (.iconst 0, 1) := by decide +kernel
theorem d_L_law_870 : decode b_L_law 870 = .ok (.ireturn, 1) := by decide +kernel
theorem d_L_law_871 : decode b_L_law 871 = .ok (.aload_n 1, 1) := by decide +kernel
theorem d_L_law_872 : decode b_L_law 872 = .ok (.aload_n 0, 1) := by decide +kernel
theorem d_L_law_873 : decode b_L_law 873 = .ok (.iload 4, 2) := by decide +kernel
theorem d_L_law_875 : decode b_L_law 875 = .ok (.iconst 1, 1) := by decide +kernel
theorem d_L_law_876 : decode b_L_law 876 = .ok (.iadd, 1) := by decide +kernel
theorem d_L_law_877 : decode b_L_law 877 = .ok (.iaload, 1) := by decide +kernel
theorem d_L_law_878 : decode b_L_law 878 = .ok (.invokevirtual 109, 3) := by decide +kernel
theorem d_L_law_881 : decode b_L_law 881 = .ok (.aload_n 2, 1) := by decide +kernel
theorem d_L_law_882 : decode b_L_law 882 = .ok (.aload_n 0, 1) := by decide +kernel
theorem d_L_law_883 : decode b_L_law 883 = .ok (.iload 4, 2) := by decide +kernel
theorem d_L_law_885 : decode b_L_law 885 = .ok (.iconst 1, 1) := by decide +kernel
theorem d_L_law_886 : decode b_L_law 886 = .ok (.iadd, 1) := by decide +kernel
theorem d_L_law_887 : decode b_L_law 887 = .ok (.iaload, 1) := by decide +kernel
theorem d_L_law_888 : decode b_L_law 888 = .ok (.invokevirtual 112, 3) := by decide +kernel
theorem d_L_law_891 : decode b_L_law 891 = .ok (.if_icmp .eq 5, 3) := by decide +kernel
theorem d_L_law_894 : decode b_L_law 894 = .ok (.iconst 0, 1) := by decide +kernel
theorem d_L_law_895 : decode b_L_law 895 = .ok (.ireturn, 1) := by decide +kernel
theorem d_L_law_896 : decode b_L_law 896 = .ok (.iinc 4 6, 3) := by decide +kernel
theorem d_L_law_899 : decode b_L_law 899 = .ok (.goto (-876), 3) := by decide +kernel
theorem d_L_law_902 : decode b_L_law 902 = .ok (.iconst 1, 1) := by decide +kernel
theorem d_L_law_903 : decode b_L_law 903 = .ok (.ireturn, 1) := by decide +kernel
