/-! the law's instructions, 4 -/
theorem kw_d_642 : decode code 642 = .ok (.iadd, 1) := by decide +kernel
theorem kw_d_643 : decode code 643 = .ok (.iaload, 1) := by decide +kernel
theorem kw_d_644 : decode code 644 = .ok (.invokevirtual 73, 3) := by decide +kernel
theorem kw_d_647 : decode code 647 = .ok (.aload_n 2, 1) := by decide +kernel
theorem kw_d_648 : decode code 648 = .ok (.aload_n 0, 1) := by decide +kernel
theorem kw_d_649 : decode code 649 = .ok (.iload_n 3, 1) := by decide +kernel
theorem kw_d_650 : decode code 650 = .ok (.iconst 1, 1) := by decide +kernel
theorem kw_d_651 : decode code 651 = .ok (.iadd, 1) := by decide +kernel
theorem kw_d_652 : decode code 652 = .ok (.iaload, 1) := by decide +kernel
theorem kw_d_653 : decode code 653 = .ok (.aload_n 0, 1) := by decide +kernel
theorem kw_d_654 : decode code 654 = .ok (.iload_n 3, 1) := by decide +kernel
theorem kw_d_655 : decode code 655 = .ok (.iconst 2, 1) := by decide +kernel
theorem kw_d_656 : decode code 656 = .ok (.iadd, 1) := by decide +kernel
theorem kw_d_657 : decode code 657 = .ok (.iaload, 1) := by decide +kernel
theorem kw_d_658 : decode code 658 = .ok (.invokevirtual 76, 3) := by decide +kernel
theorem kw_d_661 : decode code 661 = .ok (.if_icmp .eq 191, 3) := by decide +kernel
theorem kw_d_664 : decode code 664 = .ok (.iconst 0, 1) := by decide +kernel
theorem kw_d_665 : decode code 665 = .ok (.ireturn, 1) := by decide +kernel
theorem kw_d_666 : decode code 666 = .ok (.aload_n 1, 1) := by decide +kernel
theorem kw_d_667 : decode code 667 = .ok (.aload_n 0, 1) := by decide +kernel
theorem kw_d_668 : decode code 668 = .ok (.iload_n 3, 1) := by decide +kernel
theorem kw_d_669 : decode code 669 = .ok (.iconst 1, 1) := by decide +kernel
theorem kw_d_670 : decode code 670 = .ok (.iadd, 1) := by decide +kernel
theorem kw_d_671 : decode code 671 = .ok (.iaload, 1) := by decide +kernel
theorem kw_d_672 : decode code 672 = .ok (.invokevirtual 77, 3) := by decide +kernel
theorem kw_d_675 : decode code 675 = .ok (.aload_n 2, 1) := by decide +kernel
theorem kw_d_676 : decode code 676 = .ok (.aload_n 0, 1) := by decide +kernel
theorem kw_d_677 : decode code 677 = .ok (.iload_n 3, 1) := by decide +kernel
theorem kw_d_678 : decode code 678 = .ok (.iconst 1, 1) := by decide +kernel
theorem kw_d_679 : decode code 679 = .ok (.iadd, 1) := by decide +kernel
theorem kw_d_680 : decode code 680 = .ok (.iaload, 1) := by decide +kernel
theorem kw_d_681 : decode code 681 = .ok (.invokevirtual 80, 3) := by decide +kernel
theorem kw_d_684 : decode code 684 = .ok (.if_icmp .eq 168, 3) := by decide +kernel
theorem kw_d_687 : decode code 687 = .ok (.iconst 0, 1) := by decide +kernel
theorem kw_d_688 : decode code 688 = .ok (.ireturn, 1) := by decide +kernel
theorem kw_d_689 : decode code 689 = .ok (.aload_n 1, 1) := by decide +kernel
theorem kw_d_690 : decode code 690 = .ok (.invokevirtual 81, 3) := by decide +kernel
theorem kw_d_693 : decode code 693 = .ok (.aload_n 2, 1) := by decide +kernel
theorem kw_d_694 : decode code 694 = .ok (.invokevirtual 85, 3) := by decide +kernel
theorem kw_d_697 : decode code 697 = .ok (.if_icmp .eq 155, 3) := by decide +kernel
theorem kw_d_700 : decode code 700 = .ok (.iconst 0, 1) := by decide +kernel
theorem kw_d_701 : decode code 701 = .ok (.ireturn, 1) := by decide +kernel
theorem kw_d_702 : decode code 702 = .ok (.aload_n 1, 1) := by decide +kernel
theorem kw_d_703 : decode code 703 = .ok (.aload_n 0, 1) := by decide +kernel
theorem kw_d_704 : decode code 704 = .ok (.iload_n 3, 1) := by decide +kernel
theorem kw_d_705 : decode code 705 = .ok (.iconst 1, 1) := by decide +kernel
theorem kw_d_706 : decode code 706 = .ok (.iadd, 1) := by decide +kernel
theorem kw_d_707 : decode code 707 = .ok (.iaload, 1) := by decide +kernel
theorem kw_d_708 : decode code 708 = .ok (.ifCond .eq 7, 3) := by decide +kernel
theorem kw_d_711 : decode code 711 = .ok (.iconst 1, 1) := by decide +kernel
theorem kw_d_712 : decode code 712 = .ok (.goto 4, 3) := by decide +kernel
theorem kw_d_715 : decode code 715 = .ok (.iconst 0, 1) := by decide +kernel
theorem kw_d_716 : decode code 716 = .ok (.invokevirtual 86, 3) := by decide +kernel
theorem kw_d_719 : decode code 719 = .ok (.aload_n 2, 1) := by decide +kernel
theorem kw_d_720 : decode code 720 = .ok (.aload_n 0, 1) := by decide +kernel
theorem kw_d_721 : decode code 721 = .ok (.iload_n 3, 1) := by decide +kernel
theorem kw_d_722 : decode code 722 = .ok (.iconst 1, 1) := by decide +kernel
theorem kw_d_723 : decode code 723 = .ok (.iadd, 1) := by decide +kernel
theorem kw_d_724 : decode code 724 = .ok (.iaload, 1) := by decide +kernel
theorem kw_d_725 : decode code 725 = .ok (.ifCond .eq 7, 3) := by decide +kernel
theorem kw_d_728 : decode code 728 = .ok (.iconst 1, 1) := by decide +kernel
theorem kw_d_729 : decode code 729 = .ok (.goto 4, 3) := by decide +kernel
theorem kw_d_732 : decode code 732 = .ok (.iconst 0, 1) := by decide +kernel
theorem kw_d_733 : decode code 733 = .ok (.invokevirtual 90, 3) := by decide +kernel
theorem kw_d_736 : decode code 736 = .ok (.if_icmp .eq 116, 3) := by decide +kernel
theorem kw_d_739 : decode code 739 = .ok (.iconst 0, 1) := by decide +kernel
theorem kw_d_740 : decode code 740 = .ok (.ireturn, 1) := by decide +kernel
theorem kw_d_741 : decode code 741 = .ok (.aload_n 1, 1) := by decide +kernel
theorem kw_d_742 : decode code 742 = .ok (.aload_n 0, 1) := by decide +kernel
theorem kw_d_743 : decode code 743 = .ok (.iload_n 3, 1) := by decide +kernel
theorem kw_d_744 : decode code 744 = .ok (.iconst 1, 1) := by decide +kernel
theorem kw_d_745 : decode code 745 = .ok (.iadd, 1) := by decide +kernel
theorem kw_d_746 : decode code 746 = .ok (.iaload, 1) := by decide +kernel
theorem kw_d_747 : decode code 747 = .ok (.aload_n 0, 1) := by decide +kernel
theorem kw_d_748 : decode code 748 = .ok (.iload_n 3, 1) := by decide +kernel
theorem kw_d_749 : decode code 749 = .ok (.iconst 2, 1) := by decide +kernel
theorem kw_d_750 : decode code 750 = .ok (.iadd, 1) := by decide +kernel
theorem kw_d_751 : decode code 751 = .ok (.iaload, 1) := by decide +kernel
theorem kw_d_752 : decode code 752 = .ok (.ifCond .eq 7, 3) := by decide +kernel
theorem kw_d_755 : decode code 755 = .ok (.iconst 1, 1) := by decide +kernel
theorem kw_d_756 : decode code 756 = .ok (.goto 4, 3) := by decide +kernel
theorem kw_d_759 : decode code 759 = .ok (.iconst 0, 1) := by decide +kernel
theorem kw_d_760 : decode code 760 = .ok (.invokevirtual 91, 3) := by decide +kernel
theorem kw_d_763 : decode code 763 = .ok (.aload_n 2, 1) := by decide +kernel
theorem kw_d_764 : decode code 764 = .ok (.aload_n 0, 1) := by decide +kernel
theorem kw_d_765 : decode code 765 = .ok (.iload_n 3, 1) := by decide +kernel
theorem kw_d_766 : decode code 766 = .ok (.iconst 1, 1) := by decide +kernel
theorem kw_d_767 : decode code 767 = .ok (.iadd, 1) := by decide +kernel
theorem kw_d_768 : decode code 768 = .ok (.iaload, 1) := by decide +kernel
theorem kw_d_769 : decode code 769 = .ok (.aload_n 0, 1) := by decide +kernel
theorem kw_d_770 : decode code 770 = .ok (.iload_n 3, 1) := by decide +kernel
theorem kw_d_771 : decode code 771 = .ok (.iconst 2, 1) := by decide +kernel
theorem kw_d_772 : decode code 772 = .ok (.iadd, 1) := by decide +kernel
theorem kw_d_773 : decode code 773 = .ok (.iaload, 1) := by decide +kernel
theorem kw_d_774 : decode code 774 = .ok (.ifCond .eq 7, 3) := by decide +kernel
theorem kw_d_777 : decode code 777 = .ok (.iconst 1, 1) := by decide +kernel
theorem kw_d_778 : decode code 778 = .ok (.goto 4, 3) := by decide +kernel
theorem kw_d_781 : decode code 781 = .ok (.iconst 0, 1) := by decide +kernel
theorem kw_d_782 : decode code 782 = .ok (.invokevirtual 94, 3) := by decide +kernel
theorem kw_d_785 : decode code 785 = .ok (.if_icmp .eq 67, 3) := by decide +kernel
theorem kw_d_788 : decode code 788 = .ok (.iconst 0, 1) := by decide +kernel
theorem kw_d_789 : decode code 789 = .ok (.ireturn, 1) := by decide +kernel
theorem kw_d_790 : decode code 790 = .ok (.aload_n 1, 1) := by decide +kernel
theorem kw_d_791 : decode code 791 = .ok (.aload_n 0, 1) := by decide +kernel
theorem kw_d_792 : decode code 792 = .ok (.iload_n 3, 1) := by decide +kernel
theorem kw_d_793 : decode code 793 = .ok (.iconst 1, 1) := by decide +kernel
theorem kw_d_794 : decode code 794 = .ok (.iadd, 1) := by decide +kernel
theorem kw_d_795 : decode code 795 = .ok (.iaload, 1) := by decide +kernel
theorem kw_d_796 : decode code 796 = .ok (.invokevirtual 95, 3) := by decide +kernel
theorem kw_d_799 : decode code 799 = .ok (.aload_n 2, 1) := by decide +kernel
theorem kw_d_800 : decode code 800 = .ok (.aload_n 0, 1) := by decide +kernel
theorem kw_d_801 : decode code 801 = .ok (.iload_n 3, 1) := by decide +kernel
theorem kw_d_802 : decode code 802 = .ok (.iconst 1, 1) := by decide +kernel
theorem kw_d_803 : decode code 803 = .ok (.iadd, 1) := by decide +kernel
theorem kw_d_804 : decode code 804 = .ok (.iaload, 1) := by decide +kernel
theorem kw_d_805 : decode code 805 = .ok (.invokevirtual 98, 3) := by decide +kernel
theorem kw_d_808 : decode code 808 = .ok (.if_icmp .eq 44, 3) := by decide +kernel
theorem kw_d_811 : decode code 811 = .ok (.iconst 0, 1) := by decide +kernel
theorem kw_d_812 : decode code 812 = .ok (.ireturn, 1) := by decide +kernel
theorem kw_d_813 : decode code 813 = .ok (.aload_n 1, 1) := by decide +kernel
theorem kw_d_814 : decode code 814 = .ok (.aload_n 0, 1) := by decide +kernel
theorem kw_d_815 : decode code 815 = .ok (.iload_n 3, 1) := by decide +kernel
theorem kw_d_816 : decode code 816 = .ok (.iconst 1, 1) := by decide +kernel
theorem kw_d_817 : decode code 817 = .ok (.iadd, 1) := by decide +kernel
theorem kw_d_818 : decode code 818 = .ok (.iaload, 1) := by decide +kernel
theorem kw_d_819 : decode code 819 = .ok (.ifCond .eq 7, 3) := by decide +kernel
theorem kw_d_822 : decode code 822 = .ok (.iconst 1, 1) := by decide +kernel
theorem kw_d_823 : decode code 823 = .ok (.goto 4, 3) := by decide +kernel
theorem kw_d_826 : decode code 826 = .ok (.iconst 0, 1) := by decide +kernel
theorem kw_d_827 : decode code 827 = .ok (.invokevirtual 99, 3) := by decide +kernel
theorem kw_d_830 : decode code 830 = .ok (.aload_n 2, 1) := by decide +kernel
theorem kw_d_831 : decode code 831 = .ok (.aload_n 0, 1) := by decide +kernel
theorem kw_d_832 : decode code 832 = .ok (.iload_n 3, 1) := by decide +kernel
theorem kw_d_833 : decode code 833 = .ok (.iconst 1, 1) := by decide +kernel
theorem kw_d_834 : decode code 834 = .ok (.iadd, 1) := by decide +kernel
theorem kw_d_835 : decode code 835 = .ok (.iaload, 1) := by decide +kernel
theorem kw_d_836 : decode code 836 = .ok (.ifCond .eq 7, 3) := by decide +kernel
theorem kw_d_839 : decode code 839 = .ok (.iconst 1, 1) := by decide +kernel
theorem kw_d_840 : decode code 840 = .ok (.goto 4, 3) := by decide +kernel
theorem kw_d_843 : decode code 843 = .ok (.iconst 0, 1) := by decide +kernel
theorem kw_d_844 : decode code 844 = .ok (.invokevirtual 102, 3) := by decide +kernel
theorem kw_d_847 : decode code 847 = .ok (.if_icmp .eq 5, 3) := by decide +kernel
theorem kw_d_850 : decode code 850 = .ok (.iconst 0, 1) := by decide +kernel
theorem kw_d_851 : decode code 851 = .ok (.ireturn, 1) := by decide +kernel
theorem kw_d_852 : decode code 852 = .ok (.iinc 3 5, 3) := by decide +kernel
theorem kw_d_855 : decode code 855 = .ok (.goto (-837), 3) := by decide +kernel
theorem kw_d_858 : decode code 858 = .ok (.iconst 1, 1) := by decide +kernel
theorem kw_d_859 : decode code 859 = .ok (.ireturn, 1) := by decide +kernel
