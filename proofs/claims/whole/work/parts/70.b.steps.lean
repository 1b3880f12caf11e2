/-! the law's steps (printed by wip/gen/law.py) -/
theorem dl_498 : decode code 498 = .ok (.iconst 0, 1) := by decide +kernel
theorem dl_499 : decode code 499 = .ok (.ireturn, 1) := by decide +kernel
theorem dl_500 : decode code 500 = .ok (.aload_n 1, 1) := by decide +kernel
theorem dl_501 : decode code 501 = .ok (.aload_n 0, 1) := by decide +kernel
theorem dl_502 : decode code 502 = .ok (.iload_n 3, 1) := by decide +kernel
theorem dl_503 : decode code 503 = .ok (.iconst 1, 1) := by decide +kernel
theorem dl_504 : decode code 504 = .ok (.iadd, 1) := by decide +kernel
theorem dl_505 : decode code 505 = .ok (.iaload, 1) := by decide +kernel
theorem dl_506 : decode code 506 = .ok (.aload_n 0, 1) := by decide +kernel
theorem dl_507 : decode code 507 = .ok (.iload_n 3, 1) := by decide +kernel
theorem dl_508 : decode code 508 = .ok (.iconst 2, 1) := by decide +kernel
theorem dl_509 : decode code 509 = .ok (.iadd, 1) := by decide +kernel
theorem dl_510 : decode code 510 = .ok (.iaload, 1) := by decide +kernel
theorem dl_511 : decode code 511 = .ok (.invokevirtual 57, 3) := by decide +kernel
theorem dl_514 : decode code 514 = .ok (.aload_n 2, 1) := by decide +kernel
theorem dl_515 : decode code 515 = .ok (.aload_n 0, 1) := by decide +kernel
theorem dl_516 : decode code 516 = .ok (.iload_n 3, 1) := by decide +kernel
theorem dl_517 : decode code 517 = .ok (.iconst 1, 1) := by decide +kernel
theorem dl_518 : decode code 518 = .ok (.iadd, 1) := by decide +kernel
theorem dl_519 : decode code 519 = .ok (.iaload, 1) := by decide +kernel
theorem dl_520 : decode code 520 = .ok (.aload_n 0, 1) := by decide +kernel
theorem dl_521 : decode code 521 = .ok (.iload_n 3, 1) := by decide +kernel
theorem dl_522 : decode code 522 = .ok (.iconst 2, 1) := by decide +kernel
theorem dl_523 : decode code 523 = .ok (.iadd, 1) := by decide +kernel
theorem dl_524 : decode code 524 = .ok (.iaload, 1) := by decide +kernel
theorem dl_525 : decode code 525 = .ok (.invokevirtual 60, 3) := by decide +kernel
theorem dl_528 : decode code 528 = .ok (.if_icmp .eq 668, 3) := by decide +kernel
theorem dl_531 : decode code 531 = .ok (.iconst 0, 1) := by decide +kernel
theorem dl_532 : decode code 532 = .ok (.ireturn, 1) := by decide +kernel
theorem dl_533 : decode code 533 = .ok (.aload_n 1, 1) := by decide +kernel
theorem dl_534 : decode code 534 = .ok (.aload_n 0, 1) := by decide +kernel
theorem dl_535 : decode code 535 = .ok (.iload_n 3, 1) := by decide +kernel
theorem dl_536 : decode code 536 = .ok (.iconst 1, 1) := by decide +kernel
theorem dl_537 : decode code 537 = .ok (.iadd, 1) := by decide +kernel
theorem dl_538 : decode code 538 = .ok (.iaload, 1) := by decide +kernel
theorem dl_539 : decode code 539 = .ok (.aload_n 0, 1) := by decide +kernel
theorem dl_540 : decode code 540 = .ok (.iload_n 3, 1) := by decide +kernel
theorem dl_541 : decode code 541 = .ok (.iconst 2, 1) := by decide +kernel
theorem dl_542 : decode code 542 = .ok (.iadd, 1) := by decide +kernel
theorem dl_543 : decode code 543 = .ok (.iaload, 1) := by decide +kernel
theorem dl_544 : decode code 544 = .ok (.invokevirtual 61, 3) := by decide +kernel
theorem dl_547 : decode code 547 = .ok (.aload_n 2, 1) := by decide +kernel
theorem dl_548 : decode code 548 = .ok (.aload_n 0, 1) := by decide +kernel
theorem dl_549 : decode code 549 = .ok (.iload_n 3, 1) := by decide +kernel
theorem dl_550 : decode code 550 = .ok (.iconst 1, 1) := by decide +kernel
theorem dl_551 : decode code 551 = .ok (.iadd, 1) := by decide +kernel
theorem dl_552 : decode code 552 = .ok (.iaload, 1) := by decide +kernel
theorem dl_553 : decode code 553 = .ok (.aload_n 0, 1) := by decide +kernel
theorem dl_554 : decode code 554 = .ok (.iload_n 3, 1) := by decide +kernel
theorem dl_555 : decode code 555 = .ok (.iconst 2, 1) := by decide +kernel
theorem dl_556 : decode code 556 = .ok (.iadd, 1) := by decide +kernel
theorem dl_557 : decode code 557 = .ok (.iaload, 1) := by decide +kernel
theorem dl_558 : decode code 558 = .ok (.invokevirtual 64, 3) := by decide +kernel
theorem dl_561 : decode code 561 = .ok (.if_icmp .eq 635, 3) := by decide +kernel
theorem dl_564 : decode code 564 = .ok (.iconst 0, 1) := by decide +kernel
theorem dl_565 : decode code 565 = .ok (.ireturn, 1) := by decide +kernel
theorem dl_566 : decode code 566 = .ok (.aload_n 1, 1) := by decide +kernel
theorem dl_567 : decode code 567 = .ok (.aload_n 0, 1) := by decide +kernel
theorem dl_568 : decode code 568 = .ok (.iload_n 3, 1) := by decide +kernel
theorem dl_569 : decode code 569 = .ok (.iconst 1, 1) := by decide +kernel
theorem dl_570 : decode code 570 = .ok (.iadd, 1) := by decide +kernel
theorem dl_571 : decode code 571 = .ok (.iaload, 1) := by decide +kernel
theorem dl_572 : decode code 572 = .ok (.aload_n 0, 1) := by decide +kernel
theorem dl_573 : decode code 573 = .ok (.iload_n 3, 1) := by decide +kernel
theorem dl_574 : decode code 574 = .ok (.iconst 2, 1) := by decide +kernel
theorem dl_575 : decode code 575 = .ok (.iadd, 1) := by decide +kernel
theorem dl_576 : decode code 576 = .ok (.iaload, 1) := by decide +kernel
theorem dl_577 : decode code 577 = .ok (.aload_n 0, 1) := by decide +kernel
theorem dl_578 : decode code 578 = .ok (.iload_n 3, 1) := by decide +kernel
theorem dl_579 : decode code 579 = .ok (.iconst 3, 1) := by decide +kernel
theorem dl_580 : decode code 580 = .ok (.iadd, 1) := by decide +kernel
theorem dl_581 : decode code 581 = .ok (.iaload, 1) := by decide +kernel
theorem dl_582 : decode code 582 = .ok (.invokevirtual 65, 3) := by decide +kernel
theorem dl_585 : decode code 585 = .ok (.aload_n 2, 1) := by decide +kernel
theorem dl_586 : decode code 586 = .ok (.aload_n 0, 1) := by decide +kernel
theorem dl_587 : decode code 587 = .ok (.iload_n 3, 1) := by decide +kernel
theorem dl_588 : decode code 588 = .ok (.iconst 1, 1) := by decide +kernel
theorem dl_589 : decode code 589 = .ok (.iadd, 1) := by decide +kernel
theorem dl_590 : decode code 590 = .ok (.iaload, 1) := by decide +kernel
theorem dl_591 : decode code 591 = .ok (.aload_n 0, 1) := by decide +kernel
theorem dl_592 : decode code 592 = .ok (.iload_n 3, 1) := by decide +kernel
theorem dl_593 : decode code 593 = .ok (.iconst 2, 1) := by decide +kernel
theorem dl_594 : decode code 594 = .ok (.iadd, 1) := by decide +kernel
theorem dl_595 : decode code 595 = .ok (.iaload, 1) := by decide +kernel
theorem dl_596 : decode code 596 = .ok (.aload_n 0, 1) := by decide +kernel
theorem dl_597 : decode code 597 = .ok (.iload_n 3, 1) := by decide +kernel
theorem dl_598 : decode code 598 = .ok (.iconst 3, 1) := by decide +kernel
theorem dl_599 : decode code 599 = .ok (.iadd, 1) := by decide +kernel
theorem dl_600 : decode code 600 = .ok (.iaload, 1) := by decide +kernel
theorem dl_601 : decode code 601 = .ok (.invokevirtual 68, 3) := by decide +kernel
theorem dl_604 : decode code 604 = .ok (.if_icmp .eq 592, 3) := by decide +kernel
theorem dl_607 : decode code 607 = .ok (.iconst 0, 1) := by decide +kernel
theorem dl_608 : decode code 608 = .ok (.ireturn, 1) := by decide +kernel
theorem dl_609 : decode code 609 = .ok (.aload_n 1, 1) := by decide +kernel
theorem dl_610 : decode code 610 = .ok (.aload_n 0, 1) := by decide +kernel
theorem dl_611 : decode code 611 = .ok (.iload_n 3, 1) := by decide +kernel
theorem dl_612 : decode code 612 = .ok (.iconst 1, 1) := by decide +kernel
theorem dl_613 : decode code 613 = .ok (.iadd, 1) := by decide +kernel
theorem dl_614 : decode code 614 = .ok (.iaload, 1) := by decide +kernel
theorem dl_615 : decode code 615 = .ok (.aload_n 0, 1) := by decide +kernel
theorem dl_616 : decode code 616 = .ok (.iload_n 3, 1) := by decide +kernel
theorem dl_617 : decode code 617 = .ok (.iconst 2, 1) := by decide +kernel
theorem dl_618 : decode code 618 = .ok (.iadd, 1) := by decide +kernel
theorem dl_619 : decode code 619 = .ok (.iaload, 1) := by decide +kernel
theorem dl_620 : decode code 620 = .ok (.aload_n 0, 1) := by decide +kernel
theorem dl_621 : decode code 621 = .ok (.iload_n 3, 1) := by decide +kernel
theorem dl_622 : decode code 622 = .ok (.iconst 3, 1) := by decide +kernel
theorem dl_623 : decode code 623 = .ok (.iadd, 1) := by decide +kernel
theorem dl_624 : decode code 624 = .ok (.iaload, 1) := by decide +kernel
theorem dl_625 : decode code 625 = .ok (.invokevirtual 69, 3) := by decide +kernel
theorem dl_628 : decode code 628 = .ok (.aload_n 2, 1) := by decide +kernel
theorem dl_629 : decode code 629 = .ok (.aload_n 0, 1) := by decide +kernel
theorem dl_630 : decode code 630 = .ok (.iload_n 3, 1) := by decide +kernel
theorem dl_631 : decode code 631 = .ok (.iconst 1, 1) := by decide +kernel
theorem dl_632 : decode code 632 = .ok (.iadd, 1) := by decide +kernel
theorem dl_633 : decode code 633 = .ok (.iaload, 1) := by decide +kernel
theorem dl_634 : decode code 634 = .ok (.aload_n 0, 1) := by decide +kernel
theorem dl_635 : decode code 635 = .ok (.iload_n 3, 1) := by decide +kernel
theorem dl_636 : decode code 636 = .ok (.iconst 2, 1) := by decide +kernel
theorem dl_637 : decode code 637 = .ok (.iadd, 1) := by decide +kernel
theorem dl_638 : decode code 638 = .ok (.iaload, 1) := by decide +kernel
theorem dl_639 : decode code 639 = .ok (.aload_n 0, 1) := by decide +kernel
theorem dl_640 : decode code 640 = .ok (.iload_n 3, 1) := by decide +kernel
theorem dl_641 : decode code 641 = .ok (.iconst 3, 1) := by decide +kernel
theorem dl_642 : decode code 642 = .ok (.iadd, 1) := by decide +kernel
theorem dl_643 : decode code 643 = .ok (.iaload, 1) := by decide +kernel
theorem dl_644 : decode code 644 = .ok (.invokevirtual 72, 3) := by decide +kernel
theorem dl_647 : decode code 647 = .ok (.if_icmp .eq 549, 3) := by decide +kernel
theorem dl_650 : decode code 650 = .ok (.iconst 0, 1) := by decide +kernel
theorem dl_651 : decode code 651 = .ok (.ireturn, 1) := by decide +kernel
theorem dl_652 : decode code 652 = .ok (.aload_n 1, 1) := by decide +kernel
theorem dl_653 : decode code 653 = .ok (.aload_n 0, 1) := by decide +kernel
theorem dl_654 : decode code 654 = .ok (.iload_n 3, 1) := by decide +kernel
theorem dl_655 : decode code 655 = .ok (.iconst 1, 1) := by decide +kernel
theorem dl_656 : decode code 656 = .ok (.iadd, 1) := by decide +kernel
theorem dl_657 : decode code 657 = .ok (.iaload, 1) := by decide +kernel
theorem dl_658 : decode code 658 = .ok (.invokevirtual 73, 3) := by decide +kernel
theorem dl_661 : decode code 661 = .ok (.aload_n 2, 1) := by decide +kernel
theorem dl_662 : decode code 662 = .ok (.aload_n 0, 1) := by decide +kernel
theorem dl_663 : decode code 663 = .ok (.iload_n 3, 1) := by decide +kernel
theorem dl_664 : decode code 664 = .ok (.iconst 1, 1) := by decide +kernel
theorem dl_665 : decode code 665 = .ok (.iadd, 1) := by decide +kernel
theorem dl_666 : decode code 666 = .ok (.iaload, 1) := by decide +kernel
theorem dl_667 : decode code 667 = .ok (.invokevirtual 76, 3) := by decide +kernel
theorem dl_670 : decode code 670 = .ok (.if_icmp .eq 526, 3) := by decide +kernel
theorem dl_673 : decode code 673 = .ok (.iconst 0, 1) := by decide +kernel
theorem dl_674 : decode code 674 = .ok (.ireturn, 1) := by decide +kernel
theorem dl_675 : decode code 675 = .ok (.aload_n 1, 1) := by decide +kernel
theorem dl_676 : decode code 676 = .ok (.aload_n 0, 1) := by decide +kernel
theorem dl_677 : decode code 677 = .ok (.iload_n 3, 1) := by decide +kernel
theorem dl_678 : decode code 678 = .ok (.iconst 1, 1) := by decide +kernel
theorem dl_679 : decode code 679 = .ok (.iadd, 1) := by decide +kernel
theorem dl_680 : decode code 680 = .ok (.iaload, 1) := by decide +kernel
theorem dl_681 : decode code 681 = .ok (.aload_n 0, 1) := by decide +kernel
theorem dl_682 : decode code 682 = .ok (.iload_n 3, 1) := by decide +kernel
theorem dl_683 : decode code 683 = .ok (.iconst 2, 1) := by decide +kernel
theorem dl_684 : decode code 684 = .ok (.iadd, 1) := by decide +kernel
theorem dl_685 : decode code 685 = .ok (.iaload, 1) := by decide +kernel
theorem dl_686 : decode code 686 = .ok (.invokevirtual 77, 3) := by decide +kernel
theorem dl_689 : decode code 689 = .ok (.aload_n 2, 1) := by decide +kernel
theorem dl_690 : decode code 690 = .ok (.aload_n 0, 1) := by decide +kernel
theorem dl_691 : decode code 691 = .ok (.iload_n 3, 1) := by decide +kernel
theorem dl_692 : decode code 692 = .ok (.iconst 1, 1) := by decide +kernel
theorem dl_693 : decode code 693 = .ok (.iadd, 1) := by decide +kernel
theorem dl_694 : decode code 694 = .ok (.iaload, 1) := by decide +kernel
theorem dl_695 : decode code 695 = .ok (.aload_n 0, 1) := by decide +kernel
theorem dl_696 : decode code 696 = .ok (.iload_n 3, 1) := by decide +kernel
theorem dl_697 : decode code 697 = .ok (.iconst 2, 1) := by decide +kernel
theorem dl_698 : decode code 698 = .ok (.iadd, 1) := by decide +kernel
theorem dl_699 : decode code 699 = .ok (.iaload, 1) := by decide +kernel
theorem dl_700 : decode code 700 = .ok (.invokevirtual 81, 3) := by decide +kernel
theorem dl_703 : decode code 703 = .ok (.lcmp, 1) := by decide +kernel
theorem dl_704 : decode code 704 = .ok (.ifCond .eq 492, 3) := by decide +kernel
theorem dl_707 : decode code 707 = .ok (.iconst 0, 1) := by decide +kernel
theorem dl_708 : decode code 708 = .ok (.ireturn, 1) := by decide +kernel
theorem dl_709 : decode code 709 = .ok (.aload_n 1, 1) := by decide +kernel
theorem dl_710 : decode code 710 = .ok (.aload_n 0, 1) := by decide +kernel
theorem dl_711 : decode code 711 = .ok (.iload_n 3, 1) := by decide +kernel
theorem dl_712 : decode code 712 = .ok (.iconst 1, 1) := by decide +kernel
theorem dl_713 : decode code 713 = .ok (.iadd, 1) := by decide +kernel
theorem dl_714 : decode code 714 = .ok (.iaload, 1) := by decide +kernel
theorem dl_715 : decode code 715 = .ok (.aload_n 0, 1) := by decide +kernel
theorem dl_716 : decode code 716 = .ok (.iload_n 3, 1) := by decide +kernel
theorem dl_717 : decode code 717 = .ok (.iconst 2, 1) := by decide +kernel
theorem dl_718 : decode code 718 = .ok (.iadd, 1) := by decide +kernel
theorem dl_719 : decode code 719 = .ok (.iaload, 1) := by decide +kernel
theorem dl_720 : decode code 720 = .ok (.aload_n 0, 1) := by decide +kernel
theorem dl_721 : decode code 721 = .ok (.iload_n 3, 1) := by decide +kernel
theorem dl_722 : decode code 722 = .ok (.iconst 3, 1) := by decide +kernel
theorem dl_723 : decode code 723 = .ok (.iadd, 1) := by decide +kernel
theorem dl_724 : decode code 724 = .ok (.iaload, 1) := by decide +kernel
theorem dl_725 : decode code 725 = .ok (.aload_n 0, 1) := by decide +kernel
theorem dl_726 : decode code 726 = .ok (.iload_n 3, 1) := by decide +kernel
theorem dl_727 : decode code 727 = .ok (.iconst 4, 1) := by decide +kernel
theorem dl_728 : decode code 728 = .ok (.iadd, 1) := by decide +kernel
theorem dl_729 : decode code 729 = .ok (.iaload, 1) := by decide +kernel
theorem dl_730 : decode code 730 = .ok (.invokevirtual 82, 3) := by decide +kernel
theorem dl_733 : decode code 733 = .ok (.aload_n 2, 1) := by decide +kernel
theorem dl_734 : decode code 734 = .ok (.aload_n 0, 1) := by decide +kernel
theorem dl_735 : decode code 735 = .ok (.iload_n 3, 1) := by decide +kernel
theorem dl_736 : decode code 736 = .ok (.iconst 1, 1) := by decide +kernel
theorem dl_737 : decode code 737 = .ok (.iadd, 1) := by decide +kernel
theorem dl_738 : decode code 738 = .ok (.iaload, 1) := by decide +kernel
theorem dl_739 : decode code 739 = .ok (.aload_n 0, 1) := by decide +kernel
theorem dl_740 : decode code 740 = .ok (.iload_n 3, 1) := by decide +kernel
theorem dl_741 : decode code 741 = .ok (.iconst 2, 1) := by decide +kernel
theorem dl_742 : decode code 742 = .ok (.iadd, 1) := by decide +kernel
theorem dl_743 : decode code 743 = .ok (.iaload, 1) := by decide +kernel
theorem dl_744 : decode code 744 = .ok (.aload_n 0, 1) := by decide +kernel
theorem dl_745 : decode code 745 = .ok (.iload_n 3, 1) := by decide +kernel
theorem dl_746 : decode code 746 = .ok (.iconst 3, 1) := by decide +kernel
theorem dl_747 : decode code 747 = .ok (.iadd, 1) := by decide +kernel
theorem dl_748 : decode code 748 = .ok (.iaload, 1) := by decide +kernel
theorem dl_749 : decode code 749 = .ok (.aload_n 0, 1) := by decide +kernel
theorem dl_750 : decode code 750 = .ok (.iload_n 3, 1) := by decide +kernel
theorem dl_751 : decode code 751 = .ok (.iconst 4, 1) := by decide +kernel
theorem dl_752 : decode code 752 = .ok (.iadd, 1) := by decide +kernel
theorem dl_753 : decode code 753 = .ok (.iaload, 1) := by decide +kernel
theorem dl_754 : decode code 754 = .ok (.invokevirtual 86, 3) := by decide +kernel
theorem dl_757 : decode code 757 = .ok (.if_icmp .eq 439, 3) := by decide +kernel
theorem dl_760 : decode code 760 = .ok (.iconst 0, 1) := by decide +kernel
theorem dl_761 : decode code 761 = .ok (.ireturn, 1) := by decide +kernel
theorem dl_762 : decode code 762 = .ok (.aload_n 1, 1) := by decide +kernel
theorem dl_763 : decode code 763 = .ok (.aload_n 0, 1) := by decide +kernel
theorem dl_764 : decode code 764 = .ok (.iload_n 3, 1) := by decide +kernel
theorem dl_765 : decode code 765 = .ok (.iconst 1, 1) := by decide +kernel
theorem dl_766 : decode code 766 = .ok (.iadd, 1) := by decide +kernel
theorem dl_767 : decode code 767 = .ok (.iaload, 1) := by decide +kernel
theorem dl_768 : decode code 768 = .ok (.aload_n 0, 1) := by decide +kernel
theorem dl_769 : decode code 769 = .ok (.iload_n 3, 1) := by decide +kernel
theorem dl_770 : decode code 770 = .ok (.iconst 2, 1) := by decide +kernel
theorem dl_771 : decode code 771 = .ok (.iadd, 1) := by decide +kernel
theorem dl_772 : decode code 772 = .ok (.iaload, 1) := by decide +kernel
theorem dl_773 : decode code 773 = .ok (.aload_n 0, 1) := by decide +kernel
theorem dl_774 : decode code 774 = .ok (.iload_n 3, 1) := by decide +kernel
theorem dl_775 : decode code 775 = .ok (.iconst 3, 1) := by decide +kernel
theorem dl_776 : decode code 776 = .ok (.iadd, 1) := by decide +kernel
theorem dl_777 : decode code 777 = .ok (.iaload, 1) := by decide +kernel
theorem dl_778 : decode code 778 = .ok (.aload_n 0, 1) := by decide +kernel
theorem dl_779 : decode code 779 = .ok (.iload_n 3, 1) := by decide +kernel
theorem dl_780 : decode code 780 = .ok (.iconst 4, 1) := by decide +kernel
theorem dl_781 : decode code 781 = .ok (.iadd, 1) := by decide +kernel
theorem dl_782 : decode code 782 = .ok (.iaload, 1) := by decide +kernel
theorem dl_783 : decode code 783 = .ok (.invokevirtual 87, 3) := by decide +kernel
theorem dl_786 : decode code 786 = .ok (.aload_n 2, 1) := by decide +kernel
theorem dl_787 : decode code 787 = .ok (.aload_n 0, 1) := by decide +kernel
theorem dl_788 : decode code 788 = .ok (.iload_n 3, 1) := by decide +kernel
theorem dl_789 : decode code 789 = .ok (.iconst 1, 1) := by decide +kernel
theorem dl_790 : decode code 790 = .ok (.iadd, 1) := by decide +kernel
theorem dl_791 : decode code 791 = .ok (.iaload, 1) := by decide +kernel
theorem dl_792 : decode code 792 = .ok (.aload_n 0, 1) := by decide +kernel
theorem dl_793 : decode code 793 = .ok (.iload_n 3, 1) := by decide +kernel
theorem dl_794 : decode code 794 = .ok (.iconst 2, 1) := by decide +kernel
theorem dl_795 : decode code 795 = .ok (.iadd, 1) := by decide +kernel
theorem dl_796 : decode code 796 = .ok (.iaload, 1) := by decide +kernel
theorem dl_797 : decode code 797 = .ok (.aload_n 0, 1) := by decide +kernel
theorem dl_798 : decode code 798 = .ok (.iload_n 3, 1) := by decide +kernel
theorem dl_799 : decode code 799 = .ok (.iconst 3, 1) := by decide +kernel
theorem dl_800 : decode code 800 = .ok (.iadd, 1) := by decide +kernel
theorem dl_801 : decode code 801 = .ok (.iaload, 1) := by decide +kernel
theorem dl_802 : decode code 802 = .ok (.aload_n 0, 1) := by decide +kernel
theorem dl_803 : decode code 803 = .ok (.iload_n 3, 1) := by decide +kernel
theorem dl_804 : decode code 804 = .ok (.iconst 4, 1) := by decide +kernel
theorem dl_805 : decode code 805 = .ok (.iadd, 1) := by decide +kernel
theorem dl_806 : decode code 806 = .ok (.iaload, 1) := by decide +kernel
theorem dl_807 : decode code 807 = .ok (.invokevirtual 90, 3) := by decide +kernel
theorem dl_810 : decode code 810 = .ok (.if_icmp .eq 386, 3) := by decide +kernel
theorem dl_813 : decode code 813 = .ok (.iconst 0, 1) := by decide +kernel
theorem dl_814 : decode code 814 = .ok (.ireturn, 1) := by decide +kernel
theorem dl_815 : decode code 815 = .ok (.aload_n 1, 1) := by decide +kernel
theorem dl_816 : decode code 816 = .ok (.aload_n 0, 1) := by decide +kernel
theorem dl_817 : decode code 817 = .ok (.iload_n 3, 1) := by decide +kernel
theorem dl_818 : decode code 818 = .ok (.iconst 1, 1) := by decide +kernel
theorem dl_819 : decode code 819 = .ok (.iadd, 1) := by decide +kernel
theorem dl_820 : decode code 820 = .ok (.iaload, 1) := by decide +kernel
theorem dl_821 : decode code 821 = .ok (.aload_n 0, 1) := by decide +kernel
theorem dl_822 : decode code 822 = .ok (.iload_n 3, 1) := by decide +kernel
theorem dl_823 : decode code 823 = .ok (.iconst 2, 1) := by decide +kernel
theorem dl_824 : decode code 824 = .ok (.iadd, 1) := by decide +kernel
theorem dl_825 : decode code 825 = .ok (.iaload, 1) := by decide +kernel
theorem dl_826 : decode code 826 = .ok (.invokevirtual 91, 3) := by decide +kernel
theorem dl_829 : decode code 829 = .ok (.aload_n 2, 1) := by decide +kernel
theorem dl_830 : decode code 830 = .ok (.aload_n 0, 1) := by decide +kernel
theorem dl_831 : decode code 831 = .ok (.iload_n 3, 1) := by decide +kernel
theorem dl_832 : decode code 832 = .ok (.iconst 1, 1) := by decide +kernel
theorem dl_833 : decode code 833 = .ok (.iadd, 1) := by decide +kernel
theorem dl_834 : decode code 834 = .ok (.iaload, 1) := by decide +kernel
theorem dl_835 : decode code 835 = .ok (.aload_n 0, 1) := by decide +kernel
theorem dl_836 : decode code 836 = .ok (.iload_n 3, 1) := by decide +kernel
theorem dl_837 : decode code 837 = .ok (.iconst 2, 1) := by decide +kernel
theorem dl_838 : decode code 838 = .ok (.iadd, 1) := by decide +kernel
theorem dl_839 : decode code 839 = .ok (.iaload, 1) := by decide +kernel
theorem dl_840 : decode code 840 = .ok (.invokevirtual 94, 3) := by decide +kernel
theorem dl_843 : decode code 843 = .ok (.if_icmp .eq 353, 3) := by decide +kernel
theorem dl_846 : decode code 846 = .ok (.iconst 0, 1) := by decide +kernel
theorem dl_847 : decode code 847 = .ok (.ireturn, 1) := by decide +kernel
theorem dl_848 : decode code 848 = .ok (.aload_n 1, 1) := by decide +kernel
theorem dl_849 : decode code 849 = .ok (.aload_n 0, 1) := by decide +kernel
theorem dl_850 : decode code 850 = .ok (.iload_n 3, 1) := by decide +kernel
theorem dl_851 : decode code 851 = .ok (.iconst 1, 1) := by decide +kernel
