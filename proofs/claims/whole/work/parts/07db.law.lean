theorem dL_law_622 : decode cL_law 622 = .ok (.iadd, 1) := by decide +kernel
theorem dL_law_623 : decode cL_law 623 = .ok (.iaload, 1) := by decide +kernel
theorem dL_law_624 : decode cL_law 624 = .ok (.aload_n 0, 1) := by decide +kernel
theorem dL_law_625 : decode cL_law 625 = .ok (.iload_n 3, 1) := by decide +kernel
theorem dL_law_626 : decode cL_law 626 = .ok (.iconst 2, 1) := by decide +kernel
theorem dL_law_627 : decode cL_law 627 = .ok (.iadd, 1) := by decide +kernel
theorem dL_law_628 : decode cL_law 628 = .ok (.iaload, 1) := by decide +kernel
theorem dL_law_629 : decode cL_law 629 = .ok (.aload_n 0, 1) := by decide +kernel
theorem dL_law_630 : decode cL_law 630 = .ok (.iload_n 3, 1) := by decide +kernel
theorem dL_law_631 : decode cL_law 631 = .ok (.iconst 3, 1) := by decide +kernel
theorem dL_law_632 : decode cL_law 632 = .ok (.iadd, 1) := by decide +kernel
theorem dL_law_633 : decode cL_law 633 = .ok (.iaload, 1) := by decide +kernel
theorem dL_law_634 : decode cL_law 634 = .ok (.ifCond .eq 7, 3) := by decide +kernel
theorem dL_law_637 : decode cL_law 637 = .ok (.iconst 1, 1) := by decide +kernel
theorem dL_law_638 : decode cL_law 638 = .ok (.goto 4, 3) := by decide +kernel
theorem dL_law_641 : decode cL_law 641 = .ok (.iconst 0, 1) := by decide +kernel
theorem dL_law_642 : decode cL_law 642 = .ok (.invokevirtual 66, 3) := by decide +kernel
theorem dL_law_645 : decode cL_law 645 = .ok (.aload_n 2, 1) := by decide +kernel
theorem dL_law_646 : decode cL_law 646 = .ok (.aload_n 0, 1) := by decide +kernel
theorem dL_law_647 : decode cL_law 647 = .ok (.iload_n 3, 1) := by decide +kernel
theorem dL_law_648 : decode cL_law 648 = .ok (.iconst 1, 1) := by decide +kernel
theorem dL_law_649 : decode cL_law 649 = .ok (.iadd, 1) := by decide +kernel
theorem dL_law_650 : decode cL_law 650 = .ok (.iaload, 1) := by decide +kernel
theorem dL_law_651 : decode cL_law 651 = .ok (.aload_n 0, 1) := by decide +kernel
theorem dL_law_652 : decode cL_law 652 = .ok (.iload_n 3, 1) := by decide +kernel
theorem dL_law_653 : decode cL_law 653 = .ok (.iconst 2, 1) := by decide +kernel
theorem dL_law_654 : decode cL_law 654 = .ok (.iadd, 1) := by decide +kernel
theorem dL_law_655 : decode cL_law 655 = .ok (.iaload, 1) := by decide +kernel
theorem dL_law_656 : decode cL_law 656 = .ok (.aload_n 0, 1) := by decide +kernel
theorem dL_law_657 : decode cL_law 657 = .ok (.iload_n 3, 1) := by decide +kernel
theorem dL_law_658 : decode cL_law 658 = .ok (.iconst 3, 1) := by decide +kernel
theorem dL_law_659 : decode cL_law 659 = .ok (.iadd, 1) := by decide +kernel
theorem dL_law_660 : decode cL_law 660 = .ok (.iaload, 1) := by decide +kernel
theorem dL_law_661 : decode cL_law 661 = .ok (.ifCond .eq 7, 3) := by decide +kernel
theorem dL_law_664 : decode cL_law 664 = .ok (.iconst 1, 1) := by decide +kernel
theorem dL_law_665 : decode cL_law 665 = .ok (.goto 4, 3) := by decide +kernel
theorem dL_law_668 : decode cL_law 668 = .ok (.iconst 0, 1) := by decide +kernel
theorem dL_law_669 : decode cL_law 669 = .ok (.invokevirtual 70, 3) := by decide +kernel
theorem dL_law_672 : decode cL_law 672 = .ok (.if_icmp .eq 754, 3) := by decide +kernel
theorem dL_law_675 : decode cL_law 675 = .ok (.iconst 0, 1) := by decide +kernel
theorem dL_law_676 : decode cL_law 676 = .ok (.ireturn, 1) := by decide +kernel
theorem dL_law_677 : decode cL_law 677 = .ok (.aload_n 1, 1) := by decide +kernel
theorem dL_law_678 : decode cL_law 678 = .ok (.aload_n 0, 1) := by decide +kernel
theorem dL_law_679 : decode cL_law 679 = .ok (.iload_n 3, 1) := by decide +kernel
theorem dL_law_680 : decode cL_law 680 = .ok (.iconst 1, 1) := by decide +kernel
theorem dL_law_681 : decode cL_law 681 = .ok (.iadd, 1) := by decide +kernel
theorem dL_law_682 : decode cL_law 682 = .ok (.iaload, 1) := by decide +kernel
theorem dL_law_683 : decode cL_law 683 = .ok (.aload_n 0, 1) := by decide +kernel
theorem dL_law_684 : decode cL_law 684 = .ok (.iload_n 3, 1) := by decide +kernel
theorem dL_law_685 : decode cL_law 685 = .ok (.iconst 2, 1) := by decide +kernel
theorem dL_law_686 : decode cL_law 686 = .ok (.iadd, 1) := by decide +kernel
theorem dL_law_687 : decode cL_law 687 = .ok (.iaload, 1) := by decide +kernel
theorem dL_law_688 : decode cL_law 688 = .ok (.invokevirtual 71, 3) := by decide +kernel
theorem dL_law_691 : decode cL_law 691 = .ok (.aload_n 2, 1) := by decide +kernel
theorem dL_law_692 : decode cL_law 692 = .ok (.aload_n 0, 1) := by decide +kernel
theorem dL_law_693 : decode cL_law 693 = .ok (.iload_n 3, 1) := by decide +kernel
theorem dL_law_694 : decode cL_law 694 = .ok (.iconst 1, 1) := by decide +kernel
theorem dL_law_695 : decode cL_law 695 = .ok (.iadd, 1) := by decide +kernel
theorem dL_law_696 : decode cL_law 696 = .ok (.iaload, 1) := by decide +kernel
theorem dL_law_697 : decode cL_law 697 = .ok (.aload_n 0, 1) := by decide +kernel
theorem dL_law_698 : decode cL_law 698 = .ok (.iload_n 3, 1) := by decide +kernel
theorem dL_law_699 : decode cL_law 699 = .ok (.iconst 2, 1) := by decide +kernel
theorem dL_law_700 : decode cL_law 700 = .ok (.iadd, 1) := by decide +kernel
theorem dL_law_701 : decode cL_law 701 = .ok (.iaload, 1) := by decide +kernel
theorem dL_law_702 : decode cL_law 702 = .ok (.invokevirtual 74, 3) := by decide +kernel
theorem dL_law_705 : decode cL_law 705 = .ok (.if_icmp .eq 721, 3) := by decide +kernel
theorem dL_law_708 : decode cL_law 708 = .ok (.iconst 0, 1) := by decide +kernel
theorem dL_law_709 : decode cL_law 709 = .ok (.ireturn, 1) := by decide +kernel
theorem dL_law_710 : decode cL_law 710 = .ok (.aload_n 1, 1) := by decide +kernel
theorem dL_law_711 : decode cL_law 711 = .ok (.aload_n 0, 1) := by decide +kernel
theorem dL_law_712 : decode cL_law 712 = .ok (.iload_n 3, 1) := by decide +kernel
theorem dL_law_713 : decode cL_law 713 = .ok (.iconst 1, 1) := by decide +kernel
theorem dL_law_714 : decode cL_law 714 = .ok (.iadd, 1) := by decide +kernel
theorem dL_law_715 : decode cL_law 715 = .ok (.iaload, 1) := by decide +kernel
theorem dL_law_716 : decode cL_law 716 = .ok (.aload_n 0, 1) := by decide +kernel
theorem dL_law_717 : decode cL_law 717 = .ok (.iload_n 3, 1) := by decide +kernel
theorem dL_law_718 : decode cL_law 718 = .ok (.iconst 2, 1) := by decide +kernel
theorem dL_law_719 : decode cL_law 719 = .ok (.iadd, 1) := by decide +kernel
theorem dL_law_720 : decode cL_law 720 = .ok (.iaload, 1) := by decide +kernel
theorem dL_law_721 : decode cL_law 721 = .ok (.aload_n 0, 1) := by decide +kernel
theorem dL_law_722 : decode cL_law 722 = .ok (.iload_n 3, 1) := by decide +kernel
theorem dL_law_723 : decode cL_law 723 = .ok (.iconst 3, 1) := by decide +kernel
theorem dL_law_724 : decode cL_law 724 = .ok (.iadd, 1) := by decide +kernel
theorem dL_law_725 : decode cL_law 725 = .ok (.iaload, 1) := by decide +kernel
theorem dL_law_726 : decode cL_law 726 = .ok (.invokevirtual 75, 3) := by decide +kernel
theorem dL_law_729 : decode cL_law 729 = .ok (.aload_n 2, 1) := by decide +kernel
theorem dL_law_730 : decode cL_law 730 = .ok (.aload_n 0, 1) := by decide +kernel
theorem dL_law_731 : decode cL_law 731 = .ok (.iload_n 3, 1) := by decide +kernel
theorem dL_law_732 : decode cL_law 732 = .ok (.iconst 1, 1) := by decide +kernel
theorem dL_law_733 : decode cL_law 733 = .ok (.iadd, 1) := by decide +kernel
theorem dL_law_734 : decode cL_law 734 = .ok (.iaload, 1) := by decide +kernel
theorem dL_law_735 : decode cL_law 735 = .ok (.aload_n 0, 1) := by decide +kernel
theorem dL_law_736 : decode cL_law 736 = .ok (.iload_n 3, 1) := by decide +kernel
theorem dL_law_737 : decode cL_law 737 = .ok (.iconst 2, 1) := by decide +kernel
theorem dL_law_738 : decode cL_law 738 = .ok (.iadd, 1) := by decide +kernel
theorem dL_law_739 : decode cL_law 739 = .ok (.iaload, 1) := by decide +kernel
theorem dL_law_740 : decode cL_law 740 = .ok (.aload_n 0, 1) := by decide +kernel
theorem dL_law_741 : decode cL_law 741 = .ok (.iload_n 3, 1) := by decide +kernel
theorem dL_law_742 : decode cL_law 742 = .ok (.iconst 3, 1) := by decide +kernel
theorem dL_law_743 : decode cL_law 743 = .ok (.iadd, 1) := by decide +kernel
theorem dL_law_744 : decode cL_law 744 = .ok (.iaload, 1) := by decide +kernel
theorem dL_law_745 : decode cL_law 745 = .ok (.invokevirtual 78, 3) := by decide +kernel
theorem dL_law_748 : decode cL_law 748 = .ok (.if_icmp .eq 678, 3) := by decide +kernel
theorem dL_law_751 : decode cL_law 751 = .ok (.iconst 0, 1) := by decide +kernel
theorem dL_law_752 : decode cL_law 752 = .ok (.ireturn, 1) := by decide +kernel
theorem dL_law_753 : decode cL_law 753 = .ok (.aload_n 1, 1) := by decide +kernel
theorem dL_law_754 : decode cL_law 754 = .ok (.aload_n 0, 1) := by decide +kernel
theorem dL_law_755 : decode cL_law 755 = .ok (.iload_n 3, 1) := by decide +kernel
theorem dL_law_756 : decode cL_law 756 = .ok (.iconst 1, 1) := by decide +kernel
theorem dL_law_757 : decode cL_law 757 = .ok (.iadd, 1) := by decide +kernel
theorem dL_law_758 : decode cL_law 758 = .ok (.iaload, 1) := by decide +kernel
theorem dL_law_759 : decode cL_law 759 = .ok (.aload_n 0, 1) := by decide +kernel
theorem dL_law_760 : decode cL_law 760 = .ok (.iload_n 3, 1) := by decide +kernel
theorem dL_law_761 : decode cL_law 761 = .ok (.iconst 2, 1) := by decide +kernel
theorem dL_law_762 : decode cL_law 762 = .ok (.iadd, 1) := by decide +kernel
theorem dL_law_763 : decode cL_law 763 = .ok (.iaload, 1) := by decide +kernel
theorem dL_law_764 : decode cL_law 764 = .ok (.invokevirtual 79, 3) := by decide +kernel
theorem dL_law_767 : decode cL_law 767 = .ok (.aload_n 2, 1) := by decide +kernel
theorem dL_law_768 : decode cL_law 768 = .ok (.aload_n 0, 1) := by decide +kernel
theorem dL_law_769 : decode cL_law 769 = .ok (.iload_n 3, 1) := by decide +kernel
theorem dL_law_770 : decode cL_law 770 = .ok (.iconst 1, 1) := by decide +kernel
theorem dL_law_771 : decode cL_law 771 = .ok (.iadd, 1) := by decide +kernel
theorem dL_law_772 : decode cL_law 772 = .ok (.iaload, 1) := by decide +kernel
theorem dL_law_773 : decode cL_law 773 = .ok (.aload_n 0, 1) := by decide +kernel
theorem dL_law_774 : decode cL_law 774 = .ok (.iload_n 3, 1) := by decide +kernel
theorem dL_law_775 : decode cL_law 775 = .ok (.iconst 2, 1) := by decide +kernel
theorem dL_law_776 : decode cL_law 776 = .ok (.iadd, 1) := by decide +kernel
theorem dL_law_777 : decode cL_law 777 = .ok (.iaload, 1) := by decide +kernel
theorem dL_law_778 : decode cL_law 778 = .ok (.invokevirtual 82, 3) := by decide +kernel
theorem dL_law_781 : decode cL_law 781 = .ok (.if_icmp .eq 645, 3) := by decide +kernel
theorem dL_law_784 : decode cL_law 784 = .ok (.iconst 0, 1) := by decide +kernel
theorem dL_law_785 : decode cL_law 785 = .ok (.ireturn, 1) := by decide +kernel
theorem dL_law_786 : decode cL_law 786 = .ok (.aload_n 1, 1) := by decide +kernel
theorem dL_law_787 : decode cL_law 787 = .ok (.aload_n 0, 1) := by decide +kernel
theorem dL_law_788 : decode cL_law 788 = .ok (.iload_n 3, 1) := by decide +kernel
theorem dL_law_789 : decode cL_law 789 = .ok (.iconst 1, 1) := by decide +kernel
theorem dL_law_790 : decode cL_law 790 = .ok (.iadd, 1) := by decide +kernel
theorem dL_law_791 : decode cL_law 791 = .ok (.iaload, 1) := by decide +kernel
theorem dL_law_792 : decode cL_law 792 = .ok (.aload_n 0, 1) := by decide +kernel
theorem dL_law_793 : decode cL_law 793 = .ok (.iload_n 3, 1) := by decide +kernel
theorem dL_law_794 : decode cL_law 794 = .ok (.iconst 2, 1) := by decide +kernel
theorem dL_law_795 : decode cL_law 795 = .ok (.iadd, 1) := by decide +kernel
theorem dL_law_796 : decode cL_law 796 = .ok (.iaload, 1) := by decide +kernel
theorem dL_law_797 : decode cL_law 797 = .ok (.aload_n 0, 1) := by decide +kernel
theorem dL_law_798 : decode cL_law 798 = .ok (.iload_n 3, 1) := by decide +kernel
theorem dL_law_799 : decode cL_law 799 = .ok (.iconst 3, 1) := by decide +kernel
theorem dL_law_800 : decode cL_law 800 = .ok (.iadd, 1) := by decide +kernel
theorem dL_law_801 : decode cL_law 801 = .ok (.iaload, 1) := by decide +kernel
theorem dL_law_802 : decode cL_law 802 = .ok (.ifCond .eq 7, 3) := by decide +kernel
theorem dL_law_805 : decode cL_law 805 = .ok (.iconst 1, 1) := by decide +kernel
theorem dL_law_806 : decode cL_law 806 = .ok (.goto 4, 3) := by decide +kernel
theorem dL_law_809 : decode cL_law 809 = .ok (.iconst 0, 1) := by decide +kernel
theorem dL_law_810 : decode cL_law 810 = .ok (.invokevirtual 83, 3) := by decide +kernel
theorem dL_law_813 : decode cL_law 813 = .ok (.aload_n 2, 1) := by decide +kernel
theorem dL_law_814 : decode cL_law 814 = .ok (.aload_n 0, 1) := by decide +kernel
theorem dL_law_815 : decode cL_law 815 = .ok (.iload_n 3, 1) := by decide +kernel
theorem dL_law_816 : decode cL_law 816 = .ok (.iconst 1, 1) := by decide +kernel
theorem dL_law_817 : decode cL_law 817 = .ok (.iadd, 1) := by decide +kernel
theorem dL_law_818 : decode cL_law 818 = .ok (.iaload, 1) := by decide +kernel
theorem dL_law_819 : decode cL_law 819 = .ok (.aload_n 0, 1) := by decide +kernel
theorem dL_law_820 : decode cL_law 820 = .ok (.iload_n 3, 1) := by decide +kernel
theorem dL_law_821 : decode cL_law 821 = .ok (.iconst 2, 1) := by decide +kernel
theorem dL_law_822 : decode cL_law 822 = .ok (.iadd, 1) := by decide +kernel
theorem dL_law_823 : decode cL_law 823 = .ok (.iaload, 1) := by decide +kernel
theorem dL_law_824 : decode cL_law 824 = .ok (.aload_n 0, 1) := by decide +kernel
theorem dL_law_825 : decode cL_law 825 = .ok (.iload_n 3, 1) := by decide +kernel
theorem dL_law_826 : decode cL_law 826 = .ok (.iconst 3, 1) := by decide +kernel
theorem dL_law_827 : decode cL_law 827 = .ok (.iadd, 1) := by decide +kernel
theorem dL_law_828 : decode cL_law 828 = .ok (.iaload, 1) := by decide +kernel
theorem dL_law_829 : decode cL_law 829 = .ok (.ifCond .eq 7, 3) := by decide +kernel
theorem dL_law_832 : decode cL_law 832 = .ok (.iconst 1, 1) := by decide +kernel
theorem dL_law_833 : decode cL_law 833 = .ok (.goto 4, 3) := by decide +kernel
theorem dL_law_836 : decode cL_law 836 = .ok (.iconst 0, 1) := by decide +kernel
theorem dL_law_837 : decode cL_law 837 = .ok (.invokevirtual 87, 3) := by decide +kernel
theorem dL_law_840 : decode cL_law 840 = .ok (.lcmp, 1) := by decide +kernel
theorem dL_law_841 : decode cL_law 841 = .ok (.ifCond .eq 585, 3) := by decide +kernel
theorem dL_law_844 : decode cL_law 844 = .ok (.iconst 0, 1) := by decide +kernel
theorem dL_law_845 : decode cL_law 845 = .ok (.ireturn, 1) := by decide +kernel
theorem dL_law_846 : decode cL_law 846 = .ok (.aload_n 1, 1) := by decide +kernel
theorem dL_law_847 : decode cL_law 847 = .ok (.aload_n 0, 1) := by decide +kernel
theorem dL_law_848 : decode cL_law 848 = .ok (.iload_n 3, 1) := by decide +kernel
theorem dL_law_849 : decode cL_law 849 = .ok (.iconst 1, 1) := by decide +kernel
theorem dL_law_850 : decode cL_law 850 = .ok (.iadd, 1) := by decide +kernel
theorem dL_law_851 : decode cL_law 851 = .ok (.iaload, 1) := by decide +kernel
theorem dL_law_852 : decode cL_law 852 = .ok (.aload_n 0, 1) := by decide +kernel
theorem dL_law_853 : decode cL_law 853 = .ok (.iload_n 3, 1) := by decide +kernel
theorem dL_law_854 : decode cL_law 854 = .ok (.iconst 2, 1) := by decide +kernel
theorem dL_law_855 : decode cL_law 855 = .ok (.iadd, 1) := by decide +kernel
theorem dL_law_856 : decode cL_law 856 = .ok (.iaload, 1) := by decide +kernel
theorem dL_law_857 : decode cL_law 857 = .ok (.aload_n 0, 1) := by decide +kernel
theorem dL_law_858 : decode cL_law 858 = .ok (.iload_n 3, 1) := by decide +kernel
theorem dL_law_859 : decode cL_law 859 = .ok (.iconst 3, 1) := by decide +kernel
theorem dL_law_860 : decode cL_law 860 = .ok (.iadd, 1) := by decide +kernel
theorem dL_law_861 : decode cL_law 861 = .ok (.iaload, 1) := by decide +kernel
theorem dL_law_862 : decode cL_law 862 = .ok (.ifCond .eq 7, 3) := by decide +kernel
theorem dL_law_865 : decode cL_law 865 = .ok (.iconst 1, 1) := by decide +kernel
theorem dL_law_866 : decode cL_law 866 = .ok (.goto 4, 3) := by decide +kernel
theorem dL_law_869 : decode cL_law 869 = .ok (.iconst 0, 1) := by decide +kernel
theorem dL_law_870 : decode cL_law 870 = .ok (.invokevirtual 88, 3) := by decide +kernel
theorem dL_law_873 : decode cL_law 873 = .ok (.aload_n 2, 1) := by decide +kernel
theorem dL_law_874 : decode cL_law 874 = .ok (.aload_n 0, 1) := by decide +kernel
theorem dL_law_875 : decode cL_law 875 = .ok (.iload_n 3, 1) := by decide +kernel
theorem dL_law_876 : decode cL_law 876 = .ok (.iconst 1, 1) := by decide +kernel
theorem dL_law_877 : decode cL_law 877 = .ok (.iadd, 1) := by decide +kernel
theorem dL_law_878 : decode cL_law 878 = .ok (.iaload, 1) := by decide +kernel
theorem dL_law_879 : decode cL_law 879 = .ok (.aload_n 0, 1) := by decide +kernel
theorem dL_law_880 : decode cL_law 880 = .ok (.iload_n 3, 1) := by decide +kernel
theorem dL_law_881 : decode cL_law 881 = .ok (.iconst 2, 1) := by decide +kernel
theorem dL_law_882 : decode cL_law 882 = .ok (.iadd, 1) := by decide +kernel
theorem dL_law_883 : decode cL_law 883 = .ok (.iaload, 1) := by decide +kernel
theorem dL_law_884 : decode cL_law 884 = .ok (.aload_n 0, 1) := by decide +kernel
theorem dL_law_885 : decode cL_law 885 = .ok (.iload_n 3, 1) := by decide +kernel
theorem dL_law_886 : decode cL_law 886 = .ok (.iconst 3, 1) := by decide +kernel
theorem dL_law_887 : decode cL_law 887 = .ok (.iadd, 1) := by decide +kernel
theorem dL_law_888 : decode cL_law 888 = .ok (.iaload, 1) := by decide +kernel
theorem dL_law_889 : decode cL_law 889 = .ok (.ifCond .eq 7, 3) := by decide +kernel
theorem dL_law_892 : decode cL_law 892 = .ok (.iconst 1, 1) := by decide +kernel
theorem dL_law_893 : decode cL_law 893 = .ok (.goto 4, 3) := by decide +kernel
theorem dL_law_896 : decode cL_law 896 = .ok (.iconst 0, 1) := by decide +kernel
theorem dL_law_897 : decode cL_law 897 = .ok (.invokevirtual 91, 3) := by decide +kernel
theorem dL_law_900 : decode cL_law 900 = .ok (.if_icmp .eq 526, 3) := by decide +kernel
theorem dL_law_903 : decode cL_law 903 = .ok (.iconst 0, 1) := by decide +kernel
theorem dL_law_904 : decode cL_law 904 = .ok (.ireturn, 1) := by decide +kernel
theorem dL_law_905 : decode cL_law 905 = .ok (.aload_n 1, 1) := by decide +kernel
theorem dL_law_906 : decode cL_law 906 = .ok (.aload_n 0, 1) := by decide +kernel
theorem dL_law_907 : decode cL_law 907 = .ok (.iload_n 3, 1) := by decide +kernel
theorem dL_law_908 : decode cL_law 908 = .ok (.iconst 1, 1) := by decide +kernel
theorem dL_law_909 : decode cL_law 909 = .ok (.iadd, 1) := by decide +kernel
theorem dL_law_910 : decode cL_law 910 = .ok (.iaload, 1) := by decide +kernel
theorem dL_law_911 : decode cL_law 911 = .ok (.aload_n 0, 1) := by decide +kernel
theorem dL_law_912 : decode cL_law 912 = .ok (.iload_n 3, 1) := by decide +kernel
theorem dL_law_913 : decode cL_law 913 = .ok (.iconst 2, 1) := by decide +kernel
theorem dL_law_914 : decode cL_law 914 = .ok (.iadd, 1) := by decide +kernel
theorem dL_law_915 : decode cL_law 915 = .ok (.iaload, 1) := by decide +kernel
theorem dL_law_916 : decode cL_law 916 = .ok (.aload_n 0, 1) := by decide +kernel
theorem dL_law_917 : decode cL_law 917 = .ok (.iload_n 3, 1) := by decide +kernel
theorem dL_law_918 : decode cL_law 918 = .ok (.iconst 3, 1) := by decide +kernel
theorem dL_law_919 : decode cL_law 919 = .ok (.iadd, 1) := by decide +kernel
theorem dL_law_920 : decode cL_law 920 = .ok (.iaload, 1) := by decide +kernel
theorem dL_law_921 : decode cL_law 921 = .ok (.aload_n 0, 1) := by decide +kernel
theorem dL_law_922 : decode cL_law 922 = .ok (.iload_n 3, 1) := by decide +kernel
theorem dL_law_923 : decode cL_law 923 = .ok (.iconst 4, 1) := by decide +kernel
theorem dL_law_924 : decode cL_law 924 = .ok (.iadd, 1) := by decide +kernel
theorem dL_law_925 : decode cL_law 925 = .ok (.iaload, 1) := by decide +kernel
theorem dL_law_926 : decode cL_law 926 = .ok (.ifCond .eq 7, 3) := by decide +kernel
theorem dL_law_929 : decode cL_law 929 = .ok (.iconst 1, 1) := by decide +kernel
theorem dL_law_930 : decode cL_law 930 = .ok (.goto 4, 3) := by decide +kernel
theorem dL_law_933 : decode cL_law 933 = .ok (.iconst 0, 1) := by decide +kernel
theorem dL_law_934 : decode cL_law 934 = .ok (.invokevirtual 92, 3) := by decide +kernel
theorem dL_law_937 : decode cL_law 937 = .ok (.aload_n 2, 1) := by decide +kernel
theorem dL_law_938 : decode cL_law 938 = .ok (.aload_n 0, 1) := by decide +kernel
theorem dL_law_939 : decode cL_law 939 = .ok (.iload_n 3, 1) := by decide +kernel
theorem dL_law_940 : decode cL_law 940 = .ok (.iconst 1, 1) := by decide +kernel
theorem dL_law_941 : decode cL_law 941 = .ok (.iadd, 1) := by decide +kernel
theorem dL_law_942 : decode cL_law 942 = .ok (.iaload, 1) := by decide +kernel
theorem dL_law_943 : decode cL_law 943 = .ok (.aload_n 0, 1) := by decide +kernel
theorem dL_law_944 : decode cL_law 944 = .ok (.iload_n 3, 1) := by decide +kernel
theorem dL_law_945 : decode cL_law 945 = .ok (.iconst 2, 1) := by decide +kernel
theorem dL_law_946 : decode cL_law 946 = .ok (.iadd, 1) := by decide +kernel
theorem dL_law_947 : decode cL_law 947 = .ok (.iaload, 1) := by decide +kernel
theorem dL_law_948 : decode cL_law 948 = .ok (.aload_n 0, 1) := by decide +kernel
theorem dL_law_949 : decode cL_law 949 = .ok (.iload_n 3, 1) := by decide +kernel
theorem dL_law_950 : decode cL_law 950 = .ok (.iconst 3, 1) := by decide +kernel
theorem dL_law_951 : decode cL_law 951 = .ok (.iadd, 1) := by decide +kernel
theorem dL_law_952 : decode cL_law 952 = .ok (.iaload, 1) := by decide +kernel
theorem dL_law_953 : decode cL_law 953 = .ok (.aload_n 0, 1) := by decide +kernel
theorem dL_law_954 : decode cL_law 954 = .ok (.iload_n 3, 1) := by decide +kernel
theorem dL_law_955 : decode cL_law 955 = .ok (.iconst 4, 1) := by decide +kernel
theorem dL_law_956 : decode cL_law 956 = .ok (.iadd, 1) := by decide +kernel
theorem dL_law_957 : decode cL_law 957 = .ok (.iaload, 1) := by decide +kernel
theorem dL_law_958 : decode cL_law 958 = .ok (.ifCond .eq 7, 3) := by decide +kernel
theorem dL_law_961 : decode cL_law 961 = .ok (.iconst 1, 1) := by decide +kernel
theorem dL_law_962 : decode cL_law 962 = .ok (.goto 4, 3) := by decide +kernel
theorem dL_law_965 : decode cL_law 965 = .ok (.iconst 0, 1) := by decide +kernel
theorem dL_law_966 : decode cL_law 966 = .ok (.invokevirtual 96, 3) := by decide +kernel
theorem dL_law_969 : decode cL_law 969 = .ok (.if_icmp .eq 457, 3) := by decide +kernel
theorem dL_law_972 : decode cL_law 972 = .ok (.iconst 0, 1) := by decide +kernel
theorem dL_law_973 : decode cL_law 973 = .ok (.ireturn, 1) := by decide +kernel
theorem dL_law_974 : decode cL_law 974 = .ok (.aload_n 1, 1) := by decide +kernel
theorem dL_law_975 : decode cL_law 975 = .ok (.aload_n 0, 1) := by decide +kernel
theorem dL_law_976 : decode cL_law 976 = .ok (.iload_n 3, 1) := by decide +kernel
theorem dL_law_977 : decode cL_law 977 = .ok (.iconst 1, 1) := by decide +kernel
theorem dL_law_978 : decode cL_law 978 = .ok (.iadd, 1) := by decide +kernel
theorem dL_law_979 : decode cL_law 979 = .ok (.iaload, 1) := by decide +kernel
theorem dL_law_980 : decode cL_law 980 = .ok (.aload_n 0, 1) := by decide +kernel
theorem dL_law_981 : decode cL_law 981 = .ok (.iload_n 3, 1) := by decide +kernel
theorem dL_law_982 : decode cL_law 982 = .ok (.iconst 2, 1) := by decide +kernel
theorem dL_law_983 : decode cL_law 983 = .ok (.iadd, 1) := by decide +kernel
theorem dL_law_984 : decode cL_law 984 = .ok (.iaload, 1) := by decide +kernel
theorem dL_law_985 : decode cL_law 985 = .ok (.aload_n 0, 1) := by decide +kernel
theorem dL_law_986 : decode cL_law 986 = .ok (.iload_n 3, 1) := by decide +kernel
theorem dL_law_987 : decode cL_law 987 = .ok (.iconst 3, 1) := by decide +kernel
theorem dL_law_988 : decode cL_law 988 = .ok (.iadd, 1) := by decide +kernel
theorem dL_law_989 : decode cL_law 989 = .ok (.iaload, 1) := by decide +kernel
theorem dL_law_990 : decode cL_law 990 = .ok (.invokevirtual 97, 3) := by decide +kernel
theorem dL_law_993 : decode cL_law 993 = .ok (.aload_n 2, 1) := by decide +kernel
theorem dL_law_994 : decode cL_law 994 = .ok (.aload_n 0, 1) := by decide +kernel
theorem dL_law_995 : decode cL_law 995 = .ok (.iload_n 3, 1) := by decide +kernel
theorem dL_law_996 : decode cL_law 996 = .ok (.iconst 1, 1) := by decide +kernel
theorem dL_law_997 : decode cL_law 997 = .ok (.iadd, 1) := by decide +kernel
theorem dL_law_998 : decode cL_law 998 = .ok (.iaload, 1) := by decide +kernel
theorem dL_law_999 : decode cL_law 999 = .ok (.aload_n 0, 1) := by decide +kernel
theorem dL_law_1000 : decode cL_law 1000 = .ok (.iload_n 3, 1) := by decide +kernel
theorem dL_law_1001 : decode cL_law 1001 = .ok (.iconst 2, 1) := by decide +kernel
theorem dL_law_1002 : decode cL_law 1002 = .ok (.iadd, 1) := by decide +kernel
theorem dL_law_1003 : decode cL_law 1003 = .ok (.iaload, 1) := by decide +kernel
theorem dL_law_1004 : decode cL_law 1004 = .ok (.aload_n 0, 1) := by decide +kernel
theorem dL_law_1005 : decode cL_law 1005 = .ok (.iload_n 3, 1) := by decide +kernel
theorem dL_law_1006 : decode cL_law 1006 = .ok (.iconst 3, 1) := by decide +kernel
theorem dL_law_1007 : decode cL_law 1007 = .ok (.iadd, 1) := by decide +kernel
theorem dL_law_1008 : decode cL_law 1008 = .ok (.iaload, 1) := by decide +kernel
theorem dL_law_1009 : decode cL_law 1009 = .ok (.invokevirtual 100, 3) := by decide +kernel
theorem dL_law_1012 : decode cL_law 1012 = .ok (.if_icmp .eq 414, 3) := by decide +kernel
theorem dL_law_1015 : decode cL_law 1015 = .ok (.iconst 0, 1) := by decide +kernel
theorem dL_law_1016 : decode cL_law 1016 = .ok (.ireturn, 1) := by decide +kernel
theorem dL_law_1017 : decode cL_law 1017 = .ok (.aload_n 1, 1) := by decide +kernel
theorem dL_law_1018 : decode cL_law 1018 = .ok (.aload_n 0, 1) := by decide +kernel
theorem dL_law_1019 : decode cL_law 1019 = .ok (.iload_n 3, 1) := by decide +kernel
theorem dL_law_1020 : decode cL_law 1020 = .ok (.iconst 1, 1) := by decide +kernel
theorem dL_law_1021 : decode cL_law 1021 = .ok (.iadd, 1) := by decide +kernel
theorem dL_law_1022 : decode cL_law 1022 = .ok (.iaload, 1) := by decide +kernel
theorem dL_law_1023 : decode cL_law 1023 = .ok (.aload_n 0, 1) := by decide +kernel
theorem dL_law_1024 : decode cL_law 1024 = .ok (.iload_n 3, 1) := by decide +kernel
theorem dL_law_1025 : decode cL_law 1025 = .ok (.iconst 2, 1) := by decide +kernel
theorem dL_law_1026 : decode cL_law 1026 = .ok (.iadd, 1) := by decide +kernel
theorem dL_law_1027 : decode cL_law 1027 = .ok (.iaload, 1) := by decide +kernel
theorem dL_law_1028 : decode cL_law 1028 = .ok (.aload_n 0, 1) := by decide +kernel
theorem dL_law_1029 : decode cL_law 1029 = .ok (.iload_n 3, 1) := by decide +kernel
theorem dL_law_1030 : decode cL_law 1030 = .ok (.iconst 3, 1) := by decide +kernel
theorem dL_law_1031 : decode cL_law 1031 = .ok (.iadd, 1) := by decide +kernel
theorem dL_law_1032 : decode cL_law 1032 = .ok (.iaload, 1) := by decide +kernel
theorem dL_law_1033 : decode cL_law 1033 = .ok (.aload_n 0, 1) := by decide +kernel
theorem dL_law_1034 : decode cL_law 1034 = .ok (.iload_n 3, 1) := by decide +kernel
theorem dL_law_1035 : decode cL_law 1035 = .ok (.iconst 4, 1) := by decide +kernel
theorem dL_law_1036 : decode cL_law 1036 = .ok (.iadd, 1) := by decide +kernel
theorem dL_law_1037 : decode cL_law 1037 = .ok (.iaload, 1) := by decide +kernel
theorem dL_law_1038 : decode cL_law 1038 = .ok (.invokevirtual 101, 3) := by decide +kernel
theorem dL_law_1041 : decode cL_law 1041 = .ok (.aload_n 2, 1) := by decide +kernel
theorem dL_law_1042 : decode cL_law 1042 = .ok (.aload_n 0, 1) := by decide +kernel
theorem dL_law_1043 : decode cL_law 1043 = .ok (.iload_n 3, 1) := by decide +kernel
theorem dL_law_1044 : decode cL_law 1044 = .ok (.iconst 1, 1) := by decide +kernel
theorem dL_law_1045 : decode cL_law 1045 = .ok (.iadd, 1) := by decide +kernel
theorem dL_law_1046 : decode cL_law 1046 = .ok (.iaload, 1) := by decide +kernel
theorem dL_law_1047 : decode cL_law 1047 = .ok (.aload_n 0, 1) := by decide +kernel
theorem dL_law_1048 : decode cL_law 1048 = .ok (.iload_n 3, 1) := by decide +kernel
theorem dL_law_1049 : decode cL_law 1049 = .ok (.iconst 2, 1) := by decide +kernel
theorem dL_law_1050 : decode cL_law 1050 = .ok (.iadd, 1) := by decide +kernel
theorem dL_law_1051 : decode cL_law 1051 = .ok (.iaload, 1) := by decide +kernel
theorem dL_law_1052 : decode cL_law 1052 = .ok (.aload_n 0, 1) := by decide +kernel
theorem dL_law_1053 : decode cL_law 1053 = .ok (.iload_n 3, 1) := by decide +kernel
theorem dL_law_1054 : decode cL_law 1054 = .ok (.iconst 3, 1) := by decide +kernel
theorem dL_law_1055 : decode cL_law 1055 = .ok (.iadd, 1) := by decide +kernel
theorem dL_law_1056 : decode cL_law 1056 = .ok (.iaload, 1) := by decide +kernel
theorem dL_law_1057 : decode cL_law 1057 = .ok (.aload_n 0, 1) := by decide +kernel
theorem dL_law_1058 : decode cL_law 1058 = .ok (.iload_n 3, 1) := by decide +kernel
theorem dL_law_1059 : decode cL_law 1059 = .ok (.iconst 4, 1) := by decide +kernel
theorem dL_law_1060 : decode cL_law 1060 = .ok (.iadd, 1) := by decide +kernel
theorem dL_law_1061 : decode cL_law 1061 = .ok (.iaload, 1) := by decide +kernel
theorem dL_law_1062 : decode cL_law 1062 = .ok (.invokevirtual 104, 3) := by decide +kernel
theorem dL_law_1065 : decode cL_law 1065 = .ok (.if_icmp .eq 361, 3) := by decide +kernel
theorem dL_law_1068 : decode cL_law 1068 = .ok (.iconst 0, 1) := by decide +kernel
theorem dL_law_1069 : decode cL_law 1069 = .ok (.ireturn, 1) := by decide +kernel
theorem dL_law_1070 : decode cL_law 1070 = .ok (.aload_n 1, 1) := by decide +kernel
theorem dL_law_1071 : decode cL_law 1071 = .ok (.aload_n 0, 1) := by decide +kernel
theorem dL_law_1072 : decode cL_law 1072 = .ok (.iload_n 3, 1) := by decide +kernel
theorem dL_law_1073 : decode cL_law 1073 = .ok (.iconst 1, 1) := by decide +kernel
theorem dL_law_1074 : decode cL_law 1074 = .ok (.iadd, 1) := by decide +kernel
theorem dL_law_1075 : decode cL_law 1075 = .ok (.iaload, 1) := by decide +kernel
theorem dL_law_1076 : decode cL_law 1076 = .ok (.aload_n 0, 1) := by decide +kernel
theorem dL_law_1077 : decode cL_law 1077 = .ok (.iload_n 3, 1) := by decide +kernel
theorem dL_law_1078 : decode cL_law 1078 = .ok (.iconst 2, 1) := by decide +kernel
theorem dL_law_1079 : decode cL_law 1079 = .ok (.iadd, 1) := by decide +kernel
theorem dL_law_1080 : decode cL_law 1080 = .ok (.iaload, 1) := by decide +kernel
theorem dL_law_1081 : decode cL_law 1081 = .ok (.aload_n 0, 1) := by decide +kernel
theorem dL_law_1082 : decode cL_law 1082 = .ok (.iload_n 3, 1) := by decide +kernel
theorem dL_law_1083 : decode cL_law 1083 = .ok (.iconst 3, 1) := by decide +kernel
theorem dL_law_1084 : decode cL_law 1084 = .ok (.iadd, 1) := by decide +kernel
theorem dL_law_1085 : decode cL_law 1085 = .ok (.iaload, 1) := by decide +kernel
theorem dL_law_1086 : decode cL_law 1086 = .ok (.aload_n 0, 1) := by decide +kernel
theorem dL_law_1087 : decode cL_law 1087 = .ok (.iload_n 3, 1) := by decide +kernel
theorem dL_law_1088 : decode cL_law 1088 = .ok (.iconst 4, 1) := by decide +kernel
theorem dL_law_1089 : decode cL_law 1089 = .ok (.iadd, 1) := by decide +kernel
theorem dL_law_1090 : decode cL_law 1090 = .ok (.iaload, 1) := by decide +kernel
theorem dL_law_1091 : decode cL_law 1091 = .ok (.invokevirtual 105, 3) := by decide +kernel
theorem dL_law_1094 : decode cL_law 1094 = .ok (.aload_n 2, 1) := by decide +kernel
theorem dL_law_1095 : decode cL_law 1095 = .ok (.aload_n 0, 1) := by decide +kernel
theorem dL_law_1096 : decode cL_law 1096 = .ok (.iload_n 3, 1) := by decide +kernel
theorem dL_law_1097 : decode cL_law 1097 = .ok (.iconst 1, 1) := by decide +kernel
theorem dL_law_1098 : decode cL_law 1098 = .ok (.iadd, 1) := by decide +kernel
theorem dL_law_1099 : decode cL_law 1099 = .ok (.iaload, 1) := by decide +kernel
theorem dL_law_1100 : decode cL_law 1100 = .ok (.aload_n 0, 1) := by decide +kernel
theorem dL_law_1101 : decode cL_law 1101 = .ok (.iload_n 3, 1) := by decide +kernel
theorem dL_law_1102 : decode cL_law 1102 = .ok (.iconst 2, 1) := by decide +kernel
theorem dL_law_1103 : decode cL_law 1103 = .ok (.iadd, 1) := by decide +kernel
theorem dL_law_1104 : decode cL_law 1104 = .ok (.iaload, 1) := by decide +kernel
theorem dL_law_1105 : decode cL_law 1105 = .ok (.aload_n 0, 1) := by decide +kernel
theorem dL_law_1106 : decode cL_law 1106 = .ok (.iload_n 3, 1) := by decide +kernel
theorem dL_law_1107 : decode cL_law 1107 = .ok (.iconst 3, 1) := by decide +kernel
theorem dL_law_1108 : decode cL_law 1108 = .ok (.iadd, 1) := by decide +kernel
theorem dL_law_1109 : decode cL_law 1109 = .ok (.iaload, 1) := by decide +kernel
