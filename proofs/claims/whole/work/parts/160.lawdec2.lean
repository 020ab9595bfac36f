theorem dLw_law_571 : decode code 571 = .ok (.aload_n 0, 1) := by decide +kernel
theorem dLw_law_572 : decode code 572 = .ok (.iload 4, 2) := by decide +kernel
theorem dLw_law_574 : decode code 574 = .ok (.iconst 5, 1) := by decide +kernel
theorem dLw_law_575 : decode code 575 = .ok (.iadd, 1) := by decide +kernel
theorem dLw_law_576 : decode code 576 = .ok (.iaload, 1) := by decide +kernel
theorem dLw_law_577 : decode code 577 = .ok (.invokevirtual 93, 3) := by decide +kernel
theorem dLw_law_580 : decode code 580 = .ok (.istore 6, 2) := by decide +kernel
theorem dLw_law_582 : decode code 582 = .ok (.aload_n 2, 1) := by decide +kernel
theorem dLw_law_583 : decode code 583 = .ok (.invokevirtual 75, 3) := by decide +kernel
theorem dLw_law_586 : decode code 586 = .ok (.iload 5, 2) := by decide +kernel
theorem dLw_law_588 : decode code 588 = .ok (.if_icmp .eq 5, 3) := by decide +kernel
theorem dLw_law_591 : decode code 591 = .ok (.iconst 0, 1) := by decide +kernel
theorem dLw_law_592 : decode code 592 = .ok (.ireturn, 1) := by decide +kernel
theorem dLw_law_593 : decode code 593 = .ok (.iload 5, 2) := by decide +kernel
theorem dLw_law_595 : decode code 595 = .ok (.ifCond .ne 15, 3) := by decide +kernel
theorem dLw_law_598 : decode code 598 = .ok (.aload_n 3, 1) := by decide +kernel
theorem dLw_law_599 : decode code 599 = .ok (.iconst 0, 1) := by decide +kernel
theorem dLw_law_600 : decode code 600 = .ok (.laload, 1) := by decide +kernel
theorem dLw_law_601 : decode code 601 = .ok (.iload 6, 2) := by decide +kernel
theorem dLw_law_603 : decode code 603 = .ok (.i2l, 1) := by decide +kernel
theorem dLw_law_604 : decode code 604 = .ok (.lcmp, 1) := by decide +kernel
theorem dLw_law_605 : decode code 605 = .ok (.ifCond .eq 5, 3) := by decide +kernel
theorem dLw_law_608 : decode code 608 = .ok (.iconst 0, 1) := by decide +kernel
theorem dLw_law_609 : decode code 609 = .ok (.ireturn, 1) := by decide +kernel
theorem dLw_law_610 : decode code 610 = .ok (.goto 485, 3) := by decide +kernel
theorem dLw_law_613 : decode code 613 = .ok (.aload_n 1, 1) := by decide +kernel
theorem dLw_law_614 : decode code 614 = .ok (.aload_n 0, 1) := by decide +kernel
theorem dLw_law_615 : decode code 615 = .ok (.iload 4, 2) := by decide +kernel
theorem dLw_law_617 : decode code 617 = .ok (.iconst 1, 1) := by decide +kernel
theorem dLw_law_618 : decode code 618 = .ok (.iadd, 1) := by decide +kernel
theorem dLw_law_619 : decode code 619 = .ok (.iaload, 1) := by decide +kernel
theorem dLw_law_620 : decode code 620 = .ok (.aload_n 0, 1) := by decide +kernel
theorem dLw_law_621 : decode code 621 = .ok (.iload 4, 2) := by decide +kernel
theorem dLw_law_623 : decode code 623 = .ok (.iconst 2, 1) := by decide +kernel
theorem dLw_law_624 : decode code 624 = .ok (.iadd, 1) := by decide +kernel
theorem dLw_law_625 : decode code 625 = .ok (.iaload, 1) := by decide +kernel
theorem dLw_law_626 : decode code 626 = .ok (.aload_n 3, 1) := by decide +kernel
theorem dLw_law_627 : decode code 627 = .ok (.invokestatic 94, 3) := by decide +kernel
theorem dLw_law_630 : decode code 630 = .ok (.istore 5, 2) := by decide +kernel
theorem dLw_law_632 : decode code 632 = .ok (.aload_n 2, 1) := by decide +kernel
theorem dLw_law_633 : decode code 633 = .ok (.aload_n 0, 1) := by decide +kernel
theorem dLw_law_634 : decode code 634 = .ok (.iload 4, 2) := by decide +kernel
theorem dLw_law_636 : decode code 636 = .ok (.iconst 1, 1) := by decide +kernel
theorem dLw_law_637 : decode code 637 = .ok (.iadd, 1) := by decide +kernel
theorem dLw_law_638 : decode code 638 = .ok (.iaload, 1) := by decide +kernel
theorem dLw_law_639 : decode code 639 = .ok (.aload_n 0, 1) := by decide +kernel
theorem dLw_law_640 : decode code 640 = .ok (.iload 4, 2) := by decide +kernel
theorem dLw_law_642 : decode code 642 = .ok (.iconst 2, 1) := by decide +kernel
theorem dLw_law_643 : decode code 643 = .ok (.iadd, 1) := by decide +kernel
theorem dLw_law_644 : decode code 644 = .ok (.iaload, 1) := by decide +kernel
theorem dLw_law_645 : decode code 645 = .ok (.invokevirtual 96, 3) := by decide +kernel
theorem dLw_law_648 : decode code 648 = .ok (.istore 6, 2) := by decide +kernel
theorem dLw_law_650 : decode code 650 = .ok (.aload_n 2, 1) := by decide +kernel
theorem dLw_law_651 : decode code 651 = .ok (.invokevirtual 75, 3) := by decide +kernel
theorem dLw_law_654 : decode code 654 = .ok (.iload 5, 2) := by decide +kernel
theorem dLw_law_656 : decode code 656 = .ok (.if_icmp .eq 5, 3) := by decide +kernel
theorem dLw_law_659 : decode code 659 = .ok (.iconst 0, 1) := by decide +kernel
theorem dLw_law_660 : decode code 660 = .ok (.ireturn, 1) := by decide +kernel
theorem dLw_law_661 : decode code 661 = .ok (.iload 5, 2) := by decide +kernel
theorem dLw_law_663 : decode code 663 = .ok (.ifCond .ne 15, 3) := by decide +kernel
theorem dLw_law_666 : decode code 666 = .ok (.aload_n 3, 1) := by decide +kernel
theorem dLw_law_667 : decode code 667 = .ok (.iconst 0, 1) := by decide +kernel
theorem dLw_law_668 : decode code 668 = .ok (.laload, 1) := by decide +kernel
theorem dLw_law_669 : decode code 669 = .ok (.iload 6, 2) := by decide +kernel
theorem dLw_law_671 : decode code 671 = .ok (.i2l, 1) := by decide +kernel
theorem dLw_law_672 : decode code 672 = .ok (.lcmp, 1) := by decide +kernel
theorem dLw_law_673 : decode code 673 = .ok (.ifCond .eq 5, 3) := by decide +kernel
theorem dLw_law_676 : decode code 676 = .ok (.iconst 0, 1) := by decide +kernel
theorem dLw_law_677 : decode code 677 = .ok (.ireturn, 1) := by decide +kernel
theorem dLw_law_678 : decode code 678 = .ok (.goto 417, 3) := by decide +kernel
theorem dLw_law_681 : decode code 681 = .ok (.aload_n 1, 1) := by decide +kernel
theorem dLw_law_682 : decode code 682 = .ok (.aload_n 0, 1) := by decide +kernel
theorem dLw_law_683 : decode code 683 = .ok (.iload 4, 2) := by decide +kernel
theorem dLw_law_685 : decode code 685 = .ok (.iconst 1, 1) := by decide +kernel
theorem dLw_law_686 : decode code 686 = .ok (.iadd, 1) := by decide +kernel
theorem dLw_law_687 : decode code 687 = .ok (.iaload, 1) := by decide +kernel
theorem dLw_law_688 : decode code 688 = .ok (.aload_n 0, 1) := by decide +kernel
theorem dLw_law_689 : decode code 689 = .ok (.iload 4, 2) := by decide +kernel
theorem dLw_law_691 : decode code 691 = .ok (.iconst 2, 1) := by decide +kernel
theorem dLw_law_692 : decode code 692 = .ok (.iadd, 1) := by decide +kernel
theorem dLw_law_693 : decode code 693 = .ok (.iaload, 1) := by decide +kernel
theorem dLw_law_694 : decode code 694 = .ok (.aload_n 3, 1) := by decide +kernel
theorem dLw_law_695 : decode code 695 = .ok (.invokestatic 97, 3) := by decide +kernel
theorem dLw_law_698 : decode code 698 = .ok (.istore 5, 2) := by decide +kernel
theorem dLw_law_700 : decode code 700 = .ok (.aload_n 2, 1) := by decide +kernel
theorem dLw_law_701 : decode code 701 = .ok (.aload_n 0, 1) := by decide +kernel
theorem dLw_law_702 : decode code 702 = .ok (.iload 4, 2) := by decide +kernel
theorem dLw_law_704 : decode code 704 = .ok (.iconst 1, 1) := by decide +kernel
theorem dLw_law_705 : decode code 705 = .ok (.iadd, 1) := by decide +kernel
theorem dLw_law_706 : decode code 706 = .ok (.iaload, 1) := by decide +kernel
theorem dLw_law_707 : decode code 707 = .ok (.aload_n 0, 1) := by decide +kernel
theorem dLw_law_708 : decode code 708 = .ok (.iload 4, 2) := by decide +kernel
theorem dLw_law_710 : decode code 710 = .ok (.iconst 2, 1) := by decide +kernel
theorem dLw_law_711 : decode code 711 = .ok (.iadd, 1) := by decide +kernel
theorem dLw_law_712 : decode code 712 = .ok (.iaload, 1) := by decide +kernel
theorem dLw_law_713 : decode code 713 = .ok (.invokevirtual 99, 3) := by decide +kernel
theorem dLw_law_716 : decode code 716 = .ok (.istore 6, 2) := by decide +kernel
theorem dLw_law_718 : decode code 718 = .ok (.aload_n 2, 1) := by decide +kernel
theorem dLw_law_719 : decode code 719 = .ok (.invokevirtual 75, 3) := by decide +kernel
theorem dLw_law_722 : decode code 722 = .ok (.iload 5, 2) := by decide +kernel
theorem dLw_law_724 : decode code 724 = .ok (.if_icmp .eq 5, 3) := by decide +kernel
theorem dLw_law_727 : decode code 727 = .ok (.iconst 0, 1) := by decide +kernel
theorem dLw_law_728 : decode code 728 = .ok (.ireturn, 1) := by decide +kernel
theorem dLw_law_729 : decode code 729 = .ok (.iload 5, 2) := by decide +kernel
theorem dLw_law_731 : decode code 731 = .ok (.ifCond .ne 15, 3) := by decide +kernel
theorem dLw_law_734 : decode code 734 = .ok (.aload_n 3, 1) := by decide +kernel
theorem dLw_law_735 : decode code 735 = .ok (.iconst 0, 1) := by decide +kernel
theorem dLw_law_736 : decode code 736 = .ok (.laload, 1) := by decide +kernel
theorem dLw_law_737 : decode code 737 = .ok (.iload 6, 2) := by decide +kernel
theorem dLw_law_739 : decode code 739 = .ok (.i2l, 1) := by decide +kernel
theorem dLw_law_740 : decode code 740 = .ok (.lcmp, 1) := by decide +kernel
theorem dLw_law_741 : decode code 741 = .ok (.ifCond .eq 5, 3) := by decide +kernel
theorem dLw_law_744 : decode code 744 = .ok (.iconst 0, 1) := by decide +kernel
theorem dLw_law_745 : decode code 745 = .ok (.ireturn, 1) := by decide +kernel
theorem dLw_law_746 : decode code 746 = .ok (.goto 349, 3) := by decide +kernel
theorem dLw_law_749 : decode code 749 = .ok (.aload_n 1, 1) := by decide +kernel
theorem dLw_law_750 : decode code 750 = .ok (.aload_n 0, 1) := by decide +kernel
theorem dLw_law_751 : decode code 751 = .ok (.iload 4, 2) := by decide +kernel
theorem dLw_law_753 : decode code 753 = .ok (.iconst 1, 1) := by decide +kernel
theorem dLw_law_754 : decode code 754 = .ok (.iadd, 1) := by decide +kernel
theorem dLw_law_755 : decode code 755 = .ok (.iaload, 1) := by decide +kernel
theorem dLw_law_756 : decode code 756 = .ok (.aload_n 0, 1) := by decide +kernel
theorem dLw_law_757 : decode code 757 = .ok (.iload 4, 2) := by decide +kernel
theorem dLw_law_759 : decode code 759 = .ok (.iconst 2, 1) := by decide +kernel
theorem dLw_law_760 : decode code 760 = .ok (.iadd, 1) := by decide +kernel
theorem dLw_law_761 : decode code 761 = .ok (.iaload, 1) := by decide +kernel
theorem dLw_law_762 : decode code 762 = .ok (.aload_n 0, 1) := by decide +kernel
theorem dLw_law_763 : decode code 763 = .ok (.iload 4, 2) := by decide +kernel
theorem dLw_law_765 : decode code 765 = .ok (.iconst 3, 1) := by decide +kernel
theorem dLw_law_766 : decode code 766 = .ok (.iadd, 1) := by decide +kernel
theorem dLw_law_767 : decode code 767 = .ok (.iaload, 1) := by decide +kernel
theorem dLw_law_768 : decode code 768 = .ok (.aload_n 0, 1) := by decide +kernel
theorem dLw_law_769 : decode code 769 = .ok (.iload 4, 2) := by decide +kernel
theorem dLw_law_771 : decode code 771 = .ok (.iconst 4, 1) := by decide +kernel
theorem dLw_law_772 : decode code 772 = .ok (.iadd, 1) := by decide +kernel
theorem dLw_law_773 : decode code 773 = .ok (.iaload, 1) := by decide +kernel
theorem dLw_law_774 : decode code 774 = .ok (.aload_n 3, 1) := by decide +kernel
theorem dLw_law_775 : decode code 775 = .ok (.invokestatic 100, 3) := by decide +kernel
theorem dLw_law_778 : decode code 778 = .ok (.istore 5, 2) := by decide +kernel
theorem dLw_law_780 : decode code 780 = .ok (.aload_n 2, 1) := by decide +kernel
theorem dLw_law_781 : decode code 781 = .ok (.aload_n 0, 1) := by decide +kernel
theorem dLw_law_782 : decode code 782 = .ok (.iload 4, 2) := by decide +kernel
theorem dLw_law_784 : decode code 784 = .ok (.iconst 1, 1) := by decide +kernel
theorem dLw_law_785 : decode code 785 = .ok (.iadd, 1) := by decide +kernel
theorem dLw_law_786 : decode code 786 = .ok (.iaload, 1) := by decide +kernel
theorem dLw_law_787 : decode code 787 = .ok (.aload_n 0, 1) := by decide +kernel
theorem dLw_law_788 : decode code 788 = .ok (.iload 4, 2) := by decide +kernel
theorem dLw_law_790 : decode code 790 = .ok (.iconst 2, 1) := by decide +kernel
theorem dLw_law_791 : decode code 791 = .ok (.iadd, 1) := by decide +kernel
theorem dLw_law_792 : decode code 792 = .ok (.iaload, 1) := by decide +kernel
theorem dLw_law_793 : decode code 793 = .ok (.aload_n 0, 1) := by decide +kernel
theorem dLw_law_794 : decode code 794 = .ok (.iload 4, 2) := by decide +kernel
theorem dLw_law_796 : decode code 796 = .ok (.iconst 3, 1) := by decide +kernel
theorem dLw_law_797 : decode code 797 = .ok (.iadd, 1) := by decide +kernel
theorem dLw_law_798 : decode code 798 = .ok (.iaload, 1) := by decide +kernel
theorem dLw_law_799 : decode code 799 = .ok (.aload_n 0, 1) := by decide +kernel
theorem dLw_law_800 : decode code 800 = .ok (.iload 4, 2) := by decide +kernel
theorem dLw_law_802 : decode code 802 = .ok (.iconst 4, 1) := by decide +kernel
theorem dLw_law_803 : decode code 803 = .ok (.iadd, 1) := by decide +kernel
theorem dLw_law_804 : decode code 804 = .ok (.iaload, 1) := by decide +kernel
theorem dLw_law_805 : decode code 805 = .ok (.invokevirtual 103, 3) := by decide +kernel
theorem dLw_law_808 : decode code 808 = .ok (.istore 6, 2) := by decide +kernel
theorem dLw_law_810 : decode code 810 = .ok (.aload_n 2, 1) := by decide +kernel
theorem dLw_law_811 : decode code 811 = .ok (.invokevirtual 75, 3) := by decide +kernel
theorem dLw_law_814 : decode code 814 = .ok (.iload 5, 2) := by decide +kernel
theorem dLw_law_816 : decode code 816 = .ok (.if_icmp .eq 5, 3) := by decide +kernel
theorem dLw_law_819 : decode code 819 = .ok (.iconst 0, 1) := by decide +kernel
theorem dLw_law_820 : decode code 820 = .ok (.ireturn, 1) := by decide +kernel
theorem dLw_law_821 : decode code 821 = .ok (.iload 5, 2) := by decide +kernel
theorem dLw_law_823 : decode code 823 = .ok (.ifCond .ne 15, 3) := by decide +kernel
theorem dLw_law_826 : decode code 826 = .ok (.aload_n 3, 1) := by decide +kernel
theorem dLw_law_827 : decode code 827 = .ok (.iconst 0, 1) := by decide +kernel
theorem dLw_law_828 : decode code 828 = .ok (.laload, 1) := by decide +kernel
theorem dLw_law_829 : decode code 829 = .ok (.iload 6, 2) := by decide +kernel
theorem dLw_law_831 : decode code 831 = .ok (.i2l, 1) := by decide +kernel
theorem dLw_law_832 : decode code 832 = .ok (.lcmp, 1) := by decide +kernel
theorem dLw_law_833 : decode code 833 = .ok (.ifCond .eq 5, 3) := by decide +kernel
theorem dLw_law_836 : decode code 836 = .ok (.iconst 0, 1) := by decide +kernel
theorem dLw_law_837 : decode code 837 = .ok (.ireturn, 1) := by decide +kernel
theorem dLw_law_838 : decode code 838 = .ok (.goto 257, 3) := by decide +kernel
theorem dLw_law_841 : decode code 841 = .ok (.aload_n 1, 1) := by decide +kernel
theorem dLw_law_842 : decode code 842 = .ok (.aload_n 0, 1) := by decide +kernel
theorem dLw_law_843 : decode code 843 = .ok (.iload 4, 2) := by decide +kernel
theorem dLw_law_845 : decode code 845 = .ok (.iconst 1, 1) := by decide +kernel
theorem dLw_law_846 : decode code 846 = .ok (.iadd, 1) := by decide +kernel
theorem dLw_law_847 : decode code 847 = .ok (.iaload, 1) := by decide +kernel
theorem dLw_law_848 : decode code 848 = .ok (.aload_n 3, 1) := by decide +kernel
theorem dLw_law_849 : decode code 849 = .ok (.invokestatic 104, 3) := by decide +kernel
theorem dLw_law_852 : decode code 852 = .ok (.istore 5, 2) := by decide +kernel
theorem dLw_law_854 : decode code 854 = .ok (.aload_n 2, 1) := by decide +kernel
theorem dLw_law_855 : decode code 855 = .ok (.aload_n 0, 1) := by decide +kernel
theorem dLw_law_856 : decode code 856 = .ok (.iload 4, 2) := by decide +kernel
theorem dLw_law_858 : decode code 858 = .ok (.iconst 1, 1) := by decide +kernel
theorem dLw_law_859 : decode code 859 = .ok (.iadd, 1) := by decide +kernel
theorem dLw_law_860 : decode code 860 = .ok (.iaload, 1) := by decide +kernel
theorem dLw_law_861 : decode code 861 = .ok (.invokevirtual 107, 3) := by decide +kernel
theorem dLw_law_864 : decode code 864 = .ok (.lstore 6, 2) := by decide +kernel
theorem dLw_law_866 : decode code 866 = .ok (.aload_n 2, 1) := by decide +kernel
theorem dLw_law_867 : decode code 867 = .ok (.invokevirtual 75, 3) := by decide +kernel
theorem dLw_law_870 : decode code 870 = .ok (.iload 5, 2) := by decide +kernel
theorem dLw_law_872 : decode code 872 = .ok (.if_icmp .eq 5, 3) := by decide +kernel
theorem dLw_law_875 : decode code 875 = .ok (.iconst 0, 1) := by decide +kernel
theorem dLw_law_876 : decode code 876 = .ok (.ireturn, 1) := by decide +kernel
theorem dLw_law_877 : decode code 877 = .ok (.iload 5, 2) := by decide +kernel
theorem dLw_law_879 : decode code 879 = .ok (.ifCond .ne 14, 3) := by decide +kernel
theorem dLw_law_882 : decode code 882 = .ok (.aload_n 3, 1) := by decide +kernel
theorem dLw_law_883 : decode code 883 = .ok (.iconst 0, 1) := by decide +kernel
theorem dLw_law_884 : decode code 884 = .ok (.laload, 1) := by decide +kernel
theorem dLw_law_885 : decode code 885 = .ok (.lload 6, 2) := by decide +kernel
theorem dLw_law_887 : decode code 887 = .ok (.lcmp, 1) := by decide +kernel
theorem dLw_law_888 : decode code 888 = .ok (.ifCond .eq 5, 3) := by decide +kernel
theorem dLw_law_891 : decode code 891 = .ok (.iconst 0, 1) := by decide +kernel
theorem dLw_law_892 : decode code 892 = .ok (.ireturn, 1) := by decide +kernel
theorem dLw_law_893 : decode code 893 = .ok (.goto 202, 3) := by decide +kernel
theorem dLw_law_896 : decode code 896 = .ok (.aload_n 1, 1) := by decide +kernel
theorem dLw_law_897 : decode code 897 = .ok (.aload_n 0, 1) := by decide +kernel
theorem dLw_law_898 : decode code 898 = .ok (.iload 4, 2) := by decide +kernel
theorem dLw_law_900 : decode code 900 = .ok (.iconst 1, 1) := by decide +kernel
theorem dLw_law_901 : decode code 901 = .ok (.iadd, 1) := by decide +kernel
theorem dLw_law_902 : decode code 902 = .ok (.iaload, 1) := by decide +kernel
theorem dLw_law_903 : decode code 903 = .ok (.aload_n 3, 1) := by decide +kernel
theorem dLw_law_904 : decode code 904 = .ok (.invokestatic 108, 3) := by decide +kernel
theorem dLw_law_907 : decode code 907 = .ok (.istore 5, 2) := by decide +kernel
theorem dLw_law_909 : decode code 909 = .ok (.aload_n 2, 1) := by decide +kernel
theorem dLw_law_910 : decode code 910 = .ok (.aload_n 0, 1) := by decide +kernel
theorem dLw_law_911 : decode code 911 = .ok (.iload 4, 2) := by decide +kernel
theorem dLw_law_913 : decode code 913 = .ok (.iconst 1, 1) := by decide +kernel
theorem dLw_law_914 : decode code 914 = .ok (.iadd, 1) := by decide +kernel
theorem dLw_law_915 : decode code 915 = .ok (.iaload, 1) := by decide +kernel
theorem dLw_law_916 : decode code 916 = .ok (.invokevirtual 110, 3) := by decide +kernel
theorem dLw_law_919 : decode code 919 = .ok (.istore 6, 2) := by decide +kernel
theorem dLw_law_921 : decode code 921 = .ok (.aload_n 2, 1) := by decide +kernel
theorem dLw_law_922 : decode code 922 = .ok (.invokevirtual 75, 3) := by decide +kernel
theorem dLw_law_925 : decode code 925 = .ok (.iload 5, 2) := by decide +kernel
theorem dLw_law_927 : decode code 927 = .ok (.if_icmp .eq 5, 3) := by decide +kernel
theorem dLw_law_930 : decode code 930 = .ok (.iconst 0, 1) := by decide +kernel
theorem dLw_law_931 : decode code 931 = .ok (.ireturn, 1) := by decide +kernel
theorem dLw_law_932 : decode code 932 = .ok (.iload 5, 2) := by decide +kernel
theorem dLw_law_934 : decode code 934 = .ok (.ifCond .ne 15, 3) := by decide +kernel
theorem dLw_law_937 : decode code 937 = .ok (.aload_n 3, 1) := by decide +kernel
theorem dLw_law_938 : decode code 938 = .ok (.iconst 0, 1) := by decide +kernel
theorem dLw_law_939 : decode code 939 = .ok (.laload, 1) := by decide +kernel
theorem dLw_law_940 : decode code 940 = .ok (.iload 6, 2) := by decide +kernel
theorem dLw_law_942 : decode code 942 = .ok (.i2l, 1) := by decide +kernel
theorem dLw_law_943 : decode code 943 = .ok (.lcmp, 1) := by decide +kernel
theorem dLw_law_944 : decode code 944 = .ok (.ifCond .eq 5, 3) := by decide +kernel
theorem dLw_law_947 : decode code 947 = .ok (.iconst 0, 1) := by decide +kernel
theorem dLw_law_948 : decode code 948 = .ok (.ireturn, 1) := by decide +kernel
theorem dLw_law_949 : decode code 949 = .ok (.goto 146, 3) := by decide +kernel
theorem dLw_law_952 : decode code 952 = .ok (.aload_n 1, 1) := by decide +kernel
theorem dLw_law_953 : decode code 953 = .ok (.aload_n 0, 1) := by decide +kernel
theorem dLw_law_954 : decode code 954 = .ok (.iload 4, 2) := by decide +kernel
theorem dLw_law_956 : decode code 956 = .ok (.iconst 1, 1) := by decide +kernel
theorem dLw_law_957 : decode code 957 = .ok (.iadd, 1) := by decide +kernel
theorem dLw_law_958 : decode code 958 = .ok (.iaload, 1) := by decide +kernel
theorem dLw_law_959 : decode code 959 = .ok (.aload_n 3, 1) := by decide +kernel
theorem dLw_law_960 : decode code 960 = .ok (.invokestatic 111, 3) := by decide +kernel
theorem dLw_law_963 : decode code 963 = .ok (.istore 5, 2) := by decide +kernel
theorem dLw_law_965 : decode code 965 = .ok (.aload_n 2, 1) := by decide +kernel
theorem dLw_law_966 : decode code 966 = .ok (.aload_n 0, 1) := by decide +kernel
theorem dLw_law_967 : decode code 967 = .ok (.iload 4, 2) := by decide +kernel
theorem dLw_law_969 : decode code 969 = .ok (.iconst 1, 1) := by decide +kernel
theorem dLw_law_970 : decode code 970 = .ok (.iadd, 1) := by decide +kernel
theorem dLw_law_971 : decode code 971 = .ok (.iaload, 1) := by decide +kernel
theorem dLw_law_972 : decode code 972 = .ok (.invokevirtual 113, 3) := by decide +kernel
theorem dLw_law_975 : decode code 975 = .ok (.istore 6, 2) := by decide +kernel
theorem dLw_law_977 : decode code 977 = .ok (.aload_n 2, 1) := by decide +kernel
theorem dLw_law_978 : decode code 978 = .ok (.invokevirtual 75, 3) := by decide +kernel
theorem dLw_law_981 : decode code 981 = .ok (.iload 5, 2) := by decide +kernel
theorem dLw_law_983 : decode code 983 = .ok (.if_icmp .eq 5, 3) := by decide +kernel
theorem dLw_law_986 : decode code 986 = .ok (.iconst 0, 1) := by decide +kernel
theorem dLw_law_987 : decode code 987 = .ok (.ireturn, 1) := by decide +kernel
theorem dLw_law_988 : decode code 988 = .ok (.iload 5, 2) := by decide +kernel
theorem dLw_law_990 : decode code 990 = .ok (.ifCond .ne 15, 3) := by decide +kernel
theorem dLw_law_993 : decode code 993 = .ok (.aload_n 3, 1) := by decide +kernel
theorem dLw_law_994 : decode code 994 = .ok (.iconst 0, 1) := by decide +kernel
theorem dLw_law_995 : decode code 995 = .ok (.laload, 1) := by decide +kernel
theorem dLw_law_996 : decode code 996 = .ok (.iload 6, 2) := by decide +kernel
theorem dLw_law_998 : decode code 998 = .ok (.i2l, 1) := by decide +kernel
theorem dLw_law_999 : decode code 999 = .ok (.lcmp, 1) := by decide +kernel
theorem dLw_law_1000 : decode code 1000 = .ok (.ifCond .eq 5, 3) := by decide +kernel
theorem dLw_law_1003 : decode code 1003 = .ok (.iconst 0, 1) := by decide +kernel
theorem dLw_law_1004 : decode code 1004 = .ok (.ireturn, 1) := by decide +kernel
theorem dLw_law_1005 : decode code 1005 = .ok (.goto 90, 3) := by decide +kernel
theorem dLw_law_1008 : decode code 1008 = .ok (.aload_n 1, 1) := by decide +kernel
theorem dLw_law_1009 : decode code 1009 = .ok (.aload_n 3, 1) := by decide +kernel
theorem dLw_law_1010 : decode code 1010 = .ok (.invokestatic 114, 3) := by decide +kernel
theorem dLw_law_1013 : decode code 1013 = .ok (.istore 5, 2) := by decide +kernel
theorem dLw_law_1015 : decode code 1015 = .ok (.aload_n 2, 1) := by decide +kernel
theorem dLw_law_1016 : decode code 1016 = .ok (.invokevirtual 117, 3) := by decide +kernel
theorem dLw_law_1019 : decode code 1019 = .ok (.istore 6, 2) := by decide +kernel
theorem dLw_law_1021 : decode code 1021 = .ok (.aload_n 2, 1) := by decide +kernel
theorem dLw_law_1022 : decode code 1022 = .ok (.invokevirtual 75, 3) := by decide +kernel
theorem dLw_law_1025 : decode code 1025 = .ok (.iload 5, 2) := by decide +kernel
theorem dLw_law_1027 : decode code 1027 = .ok (.if_icmp .eq 5, 3) := by decide +kernel
theorem dLw_law_1030 : decode code 1030 = .ok (.iconst 0, 1) := by decide +kernel
theorem dLw_law_1031 : decode code 1031 = .ok (.ireturn, 1) := by decide +kernel
theorem dLw_law_1032 : decode code 1032 = .ok (.iload 5, 2) := by decide +kernel
theorem dLw_law_1034 : decode code 1034 = .ok (.ifCond .ne 22, 3) := by decide +kernel
theorem dLw_law_1037 : decode code 1037 = .ok (.aload_n 3, 1) := by decide +kernel
theorem dLw_law_1038 : decode code 1038 = .ok (.iconst 0, 1) := by decide +kernel
theorem dLw_law_1039 : decode code 1039 = .ok (.laload, 1) := by decide +kernel
theorem dLw_law_1040 : decode code 1040 = .ok (.iload 6, 2) := by decide +kernel
theorem dLw_law_1042 : decode code 1042 = .ok (.ifCond .eq 7, 3) := by decide +kernel
theorem dLw_law_1045 : decode code 1045 = .ok (.lconst 1, 1) := by decide +kernel
theorem dLw_law_1046 : decode code 1046 = .ok (.goto 4, 3) := by decide +kernel
theorem dLw_law_1049 : decode code 1049 = .ok (.lconst 0, 1) := by decide +kernel
theorem dLw_law_1050 : decode code 1050 = .ok (.lcmp, 1) := by decide +kernel
theorem dLw_law_1051 : decode code 1051 = .ok (.ifCond .eq 5, 3) := by decide +kernel
theorem dLw_law_1054 : decode code 1054 = .ok (.iconst 0, 1) := by decide +kernel
theorem dLw_law_1055 : decode code 1055 = .ok (.ireturn, 1) := by decide +kernel
theorem dLw_law_1056 : decode code 1056 = .ok (.goto 39, 3) := by decide +kernel
theorem dLw_law_1059 : decode code 1059 = .ok (.aload_n 1, 1) := by decide +kernel
theorem dLw_law_1060 : decode code 1060 = .ok (.aload_n 0, 1) := by decide +kernel
theorem dLw_law_1061 : decode code 1061 = .ok (.iload 4, 2) := by decide +kernel
theorem dLw_law_1063 : decode code 1063 = .ok (.iconst 1, 1) := by decide +kernel
theorem dLw_law_1064 : decode code 1064 = .ok (.iadd, 1) := by decide +kernel
theorem dLw_law_1065 : decode code 1065 = .ok (.iaload, 1) := by decide +kernel
theorem dLw_law_1066 : decode code 1066 = .ok (.invokevirtual 118, 3) := by decide +kernel
theorem dLw_law_1069 : decode code 1069 = .ok (.aload_n 2, 1) := by decide +kernel
theorem dLw_law_1070 : decode code 1070 = .ok (.aload_n 0, 1) := by decide +kernel
theorem dLw_law_1071 : decode code 1071 = .ok (.iload 4, 2) := by decide +kernel
theorem dLw_law_1073 : decode code 1073 = .ok (.iconst 1, 1) := by decide +kernel
theorem dLw_law_1074 : decode code 1074 = .ok (.iadd, 1) := by decide +kernel
theorem dLw_law_1075 : decode code 1075 = .ok (.iaload, 1) := by decide +kernel
theorem dLw_law_1076 : decode code 1076 = .ok (.invokevirtual 121, 3) := by decide +kernel
theorem dLw_law_1079 : decode code 1079 = .ok (.if_icmp .eq 16, 3) := by decide +kernel
theorem dLw_law_1082 : decode code 1082 = .ok (.iconst 0, 1) := by decide +kernel
theorem dLw_law_1083 : decode code 1083 = .ok (.ireturn, 1) := by decide +kernel
theorem dLw_law_1084 : decode code 1084 = .ok (.aload_n 1, 1) := by decide +kernel
theorem dLw_law_1085 : decode code 1085 = .ok (.invokevirtual 122, 3) := by decide +kernel
theorem dLw_law_1088 : decode code 1088 = .ok (.aload_n 2, 1) := by decide +kernel
theorem dLw_law_1089 : decode code 1089 = .ok (.invokevirtual 125, 3) := by decide +kernel
theorem dLw_law_1092 : decode code 1092 = .ok (.goto 3, 3) := by decide +kernel
theorem dLw_law_1095 : decode code 1095 = .ok (.iinc 4 7, 3) := by decide +kernel
theorem dLw_law_1098 : decode code 1098 = .ok (.goto (-1055), 3) := by decide +kernel
theorem dLw_law_1101 : decode code 1101 = .ok (.iconst 1, 1) := by decide +kernel
theorem dLw_law_1102 : decode code 1102 = .ok (.ireturn, 1) := by decide +kernel
