theorem d_Law_law_659 : decode code 659 = .ok (.iaload, 1) := by decide +kernel
theorem d_Law_law_660 : decode code 660 = .ok (.aload_n 3, 1) := by decide +kernel
theorem d_Law_law_661 : decode code 661 = .ok (.invokestatic 109, 3) := by decide +kernel
theorem d_Law_law_664 : decode code 664 = .ok (.istore 5, 2) := by decide +kernel
theorem d_Law_law_666 : decode code 666 = .ok (.aload_n 2, 1) := by decide +kernel
theorem d_Law_law_667 : decode code 667 = .ok (.aload_n 0, 1) := by decide +kernel
theorem d_Law_law_668 : decode code 668 = .ok (.iload 4, 2) := by decide +kernel
theorem d_Law_law_670 : decode code 670 = .ok (.iconst 1, 1) := by decide +kernel
theorem d_Law_law_671 : decode code 671 = .ok (.iadd, 1) := by decide +kernel
theorem d_Law_law_672 : decode code 672 = .ok (.iaload, 1) := by decide +kernel
theorem d_Law_law_673 : decode code 673 = .ok (.aload_n 0, 1) := by decide +kernel
theorem d_Law_law_674 : decode code 674 = .ok (.iload 4, 2) := by decide +kernel
theorem d_Law_law_676 : decode code 676 = .ok (.iconst 2, 1) := by decide +kernel
theorem d_Law_law_677 : decode code 677 = .ok (.iadd, 1) := by decide +kernel
theorem d_Law_law_678 : decode code 678 = .ok (.iaload, 1) := by decide +kernel
theorem d_Law_law_679 : decode code 679 = .ok (.invokevirtual 111, 3) := by decide +kernel
theorem d_Law_law_682 : decode code 682 = .ok (.istore 6, 2) := by decide +kernel
theorem d_Law_law_684 : decode code 684 = .ok (.aload_n 2, 1) := by decide +kernel
theorem d_Law_law_685 : decode code 685 = .ok (.invokevirtual 81, 3) := by decide +kernel
theorem d_Law_law_688 : decode code 688 = .ok (.iload 5, 2) := by decide +kernel
theorem d_Law_law_690 : decode code 690 = .ok (.if_icmp .eq 5, 3) := by decide +kernel
theorem d_Law_law_693 : decode code 693 = .ok (.iconst 0, 1) := by decide +kernel
theorem d_Law_law_694 : decode code 694 = .ok (.ireturn, 1) := by decide +kernel
theorem d_Law_law_695 : decode code 695 = .ok (.iload 5, 2) := by decide +kernel
theorem d_Law_law_697 : decode code 697 = .ok (.ifCond .ne 15, 3) := by decide +kernel
theorem d_Law_law_700 : decode code 700 = .ok (.aload_n 3, 1) := by decide +kernel
theorem d_Law_law_701 : decode code 701 = .ok (.iconst 0, 1) := by decide +kernel
theorem d_Law_law_702 : decode code 702 = .ok (.laload, 1) := by decide +kernel
theorem d_Law_law_703 : decode code 703 = .ok (.iload 6, 2) := by decide +kernel
theorem d_Law_law_705 : decode code 705 = .ok (.i2l, 1) := by decide +kernel
theorem d_Law_law_706 : decode code 706 = .ok (.lcmp, 1) := by decide +kernel
theorem d_Law_law_707 : decode code 707 = .ok (.ifCond .eq 5, 3) := by decide +kernel
theorem d_Law_law_710 : decode code 710 = .ok (.iconst 0, 1) := by decide +kernel
theorem d_Law_law_711 : decode code 711 = .ok (.ireturn, 1) := by decide +kernel
theorem d_Law_law_712 : decode code 712 = .ok (.goto 504, 3) := by decide +kernel
theorem d_Law_law_715 : decode code 715 = .ok (.aload_n 1, 1) := by decide +kernel
theorem d_Law_law_716 : decode code 716 = .ok (.aload_n 0, 1) := by decide +kernel
theorem d_Law_law_717 : decode code 717 = .ok (.iload 4, 2) := by decide +kernel
theorem d_Law_law_719 : decode code 719 = .ok (.iconst 1, 1) := by decide +kernel
theorem d_Law_law_720 : decode code 720 = .ok (.iadd, 1) := by decide +kernel
theorem d_Law_law_721 : decode code 721 = .ok (.iaload, 1) := by decide +kernel
theorem d_Law_law_722 : decode code 722 = .ok (.aload_n 0, 1) := by decide +kernel
theorem d_Law_law_723 : decode code 723 = .ok (.iload 4, 2) := by decide +kernel
theorem d_Law_law_725 : decode code 725 = .ok (.iconst 2, 1) := by decide +kernel
theorem d_Law_law_726 : decode code 726 = .ok (.iadd, 1) := by decide +kernel
theorem d_Law_law_727 : decode code 727 = .ok (.iaload, 1) := by decide +kernel
theorem d_Law_law_728 : decode code 728 = .ok (.aload_n 0, 1) := by decide +kernel
theorem d_Law_law_729 : decode code 729 = .ok (.iload 4, 2) := by decide +kernel
theorem d_Law_law_731 : decode code 731 = .ok (.iconst 3, 1) := by decide +kernel
theorem d_Law_law_732 : decode code 732 = .ok (.iadd, 1) := by decide +kernel
theorem d_Law_law_733 : decode code 733 = .ok (.iaload, 1) := by decide +kernel
theorem d_Law_law_734 : decode code 734 = .ok (.ifCond .eq 7, 3) := by decide +kernel
theorem d_Law_law_737 : decode code 737 = .ok (.iconst 1, 1) := by decide +kernel
theorem d_Law_law_738 : decode code 738 = .ok (.goto 4, 3) := by decide +kernel
theorem d_Law_law_741 : decode code 741 = .ok (.iconst 0, 1) := by decide +kernel
theorem d_Law_law_742 : decode code 742 = .ok (.aload_n 3, 1) := by decide +kernel
theorem d_Law_law_743 : decode code 743 = .ok (.invokestatic 112, 3) := by decide +kernel
theorem d_Law_law_746 : decode code 746 = .ok (.istore 5, 2) := by decide +kernel
theorem d_Law_law_748 : decode code 748 = .ok (.aload_n 2, 1) := by decide +kernel
theorem d_Law_law_749 : decode code 749 = .ok (.aload_n 0, 1) := by decide +kernel
theorem d_Law_law_750 : decode code 750 = .ok (.iload 4, 2) := by decide +kernel
theorem d_Law_law_752 : decode code 752 = .ok (.iconst 1, 1) := by decide +kernel
theorem d_Law_law_753 : decode code 753 = .ok (.iadd, 1) := by decide +kernel
theorem d_Law_law_754 : decode code 754 = .ok (.iaload, 1) := by decide +kernel
theorem d_Law_law_755 : decode code 755 = .ok (.aload_n 0, 1) := by decide +kernel
theorem d_Law_law_756 : decode code 756 = .ok (.iload 4, 2) := by decide +kernel
theorem d_Law_law_758 : decode code 758 = .ok (.iconst 2, 1) := by decide +kernel
theorem d_Law_law_759 : decode code 759 = .ok (.iadd, 1) := by decide +kernel
theorem d_Law_law_760 : decode code 760 = .ok (.iaload, 1) := by decide +kernel
theorem d_Law_law_761 : decode code 761 = .ok (.aload_n 0, 1) := by decide +kernel
theorem d_Law_law_762 : decode code 762 = .ok (.iload 4, 2) := by decide +kernel
theorem d_Law_law_764 : decode code 764 = .ok (.iconst 3, 1) := by decide +kernel
theorem d_Law_law_765 : decode code 765 = .ok (.iadd, 1) := by decide +kernel
theorem d_Law_law_766 : decode code 766 = .ok (.iaload, 1) := by decide +kernel
theorem d_Law_law_767 : decode code 767 = .ok (.ifCond .eq 7, 3) := by decide +kernel
theorem d_Law_law_770 : decode code 770 = .ok (.iconst 1, 1) := by decide +kernel
theorem d_Law_law_771 : decode code 771 = .ok (.goto 4, 3) := by decide +kernel
theorem d_Law_law_774 : decode code 774 = .ok (.iconst 0, 1) := by decide +kernel
theorem d_Law_law_775 : decode code 775 = .ok (.invokevirtual 115, 3) := by decide +kernel
theorem d_Law_law_778 : decode code 778 = .ok (.istore 6, 2) := by decide +kernel
theorem d_Law_law_780 : decode code 780 = .ok (.aload_n 2, 1) := by decide +kernel
theorem d_Law_law_781 : decode code 781 = .ok (.invokevirtual 81, 3) := by decide +kernel
theorem d_Law_law_784 : decode code 784 = .ok (.iload 5, 2) := by decide +kernel
theorem d_Law_law_786 : decode code 786 = .ok (.if_icmp .eq 5, 3) := by decide +kernel
theorem d_Law_law_789 : decode code 789 = .ok (.iconst 0, 1) := by decide +kernel
theorem d_Law_law_790 : decode code 790 = .ok (.ireturn, 1) := by decide +kernel
theorem d_Law_law_791 : decode code 791 = .ok (.iload 5, 2) := by decide +kernel
theorem d_Law_law_793 : decode code 793 = .ok (.ifCond .ne 15, 3) := by decide +kernel
theorem d_Law_law_796 : decode code 796 = .ok (.aload_n 3, 1) := by decide +kernel
theorem d_Law_law_797 : decode code 797 = .ok (.iconst 0, 1) := by decide +kernel
theorem d_Law_law_798 : decode code 798 = .ok (.laload, 1) := by decide +kernel
theorem d_Law_law_799 : decode code 799 = .ok (.iload 6, 2) := by decide +kernel
theorem d_Law_law_801 : decode code 801 = .ok (.i2l, 1) := by decide +kernel
theorem d_Law_law_802 : decode code 802 = .ok (.lcmp, 1) := by decide +kernel
theorem d_Law_law_803 : decode code 803 = .ok (.ifCond .eq 5, 3) := by decide +kernel
theorem d_Law_law_806 : decode code 806 = .ok (.iconst 0, 1) := by decide +kernel
theorem d_Law_law_807 : decode code 807 = .ok (.ireturn, 1) := by decide +kernel
theorem d_Law_law_808 : decode code 808 = .ok (.goto 408, 3) := by decide +kernel
theorem d_Law_law_811 : decode code 811 = .ok (.aload_n 1, 1) := by decide +kernel
theorem d_Law_law_812 : decode code 812 = .ok (.aload_n 0, 1) := by decide +kernel
theorem d_Law_law_813 : decode code 813 = .ok (.iload 4, 2) := by decide +kernel
theorem d_Law_law_815 : decode code 815 = .ok (.iconst 1, 1) := by decide +kernel
theorem d_Law_law_816 : decode code 816 = .ok (.iadd, 1) := by decide +kernel
theorem d_Law_law_817 : decode code 817 = .ok (.iaload, 1) := by decide +kernel
theorem d_Law_law_818 : decode code 818 = .ok (.aload_n 0, 1) := by decide +kernel
theorem d_Law_law_819 : decode code 819 = .ok (.iload 4, 2) := by decide +kernel
theorem d_Law_law_821 : decode code 821 = .ok (.iconst 2, 1) := by decide +kernel
theorem d_Law_law_822 : decode code 822 = .ok (.iadd, 1) := by decide +kernel
theorem d_Law_law_823 : decode code 823 = .ok (.iaload, 1) := by decide +kernel
theorem d_Law_law_824 : decode code 824 = .ok (.aload_n 3, 1) := by decide +kernel
theorem d_Law_law_825 : decode code 825 = .ok (.invokestatic 116, 3) := by decide +kernel
theorem d_Law_law_828 : decode code 828 = .ok (.istore 5, 2) := by decide +kernel
theorem d_Law_law_830 : decode code 830 = .ok (.aload_n 2, 1) := by decide +kernel
theorem d_Law_law_831 : decode code 831 = .ok (.aload_n 0, 1) := by decide +kernel
theorem d_Law_law_832 : decode code 832 = .ok (.iload 4, 2) := by decide +kernel
theorem d_Law_law_834 : decode code 834 = .ok (.iconst 1, 1) := by decide +kernel
theorem d_Law_law_835 : decode code 835 = .ok (.iadd, 1) := by decide +kernel
theorem d_Law_law_836 : decode code 836 = .ok (.iaload, 1) := by decide +kernel
theorem d_Law_law_837 : decode code 837 = .ok (.aload_n 0, 1) := by decide +kernel
theorem d_Law_law_838 : decode code 838 = .ok (.iload 4, 2) := by decide +kernel
theorem d_Law_law_840 : decode code 840 = .ok (.iconst 2, 1) := by decide +kernel
theorem d_Law_law_841 : decode code 841 = .ok (.iadd, 1) := by decide +kernel
theorem d_Law_law_842 : decode code 842 = .ok (.iaload, 1) := by decide +kernel
theorem d_Law_law_843 : decode code 843 = .ok (.invokevirtual 118, 3) := by decide +kernel
theorem d_Law_law_846 : decode code 846 = .ok (.istore 6, 2) := by decide +kernel
theorem d_Law_law_848 : decode code 848 = .ok (.aload_n 2, 1) := by decide +kernel
theorem d_Law_law_849 : decode code 849 = .ok (.invokevirtual 81, 3) := by decide +kernel
theorem d_Law_law_852 : decode code 852 = .ok (.iload 5, 2) := by decide +kernel
theorem d_Law_law_854 : decode code 854 = .ok (.if_icmp .eq 5, 3) := by decide +kernel
theorem d_Law_law_857 : decode code 857 = .ok (.iconst 0, 1) := by decide +kernel
theorem d_Law_law_858 : decode code 858 = .ok (.ireturn, 1) := by decide +kernel
theorem d_Law_law_859 : decode code 859 = .ok (.iload 5, 2) := by decide +kernel
theorem d_Law_law_861 : decode code 861 = .ok (.ifCond .ne 15, 3) := by decide +kernel
theorem d_Law_law_864 : decode code 864 = .ok (.aload_n 3, 1) := by decide +kernel
theorem d_Law_law_865 : decode code 865 = .ok (.iconst 0, 1) := by decide +kernel
theorem d_Law_law_866 : decode code 866 = .ok (.laload, 1) := by decide +kernel
theorem d_Law_law_867 : decode code 867 = .ok (.iload 6, 2) := by decide +kernel
theorem d_Law_law_869 : decode code 869 = .ok (.i2l, 1) := by decide +kernel
theorem d_Law_law_870 : decode code 870 = .ok (.lcmp, 1) := by decide +kernel
theorem d_Law_law_871 : decode code 871 = .ok (.ifCond .eq 5, 3) := by decide +kernel
theorem d_Law_law_874 : decode code 874 = .ok (.iconst 0, 1) := by decide +kernel
theorem d_Law_law_875 : decode code 875 = .ok (.ireturn, 1) := by decide +kernel
theorem d_Law_law_876 : decode code 876 = .ok (.goto 340, 3) := by decide +kernel
theorem d_Law_law_879 : decode code 879 = .ok (.aload_n 1, 1) := by decide +kernel
theorem d_Law_law_880 : decode code 880 = .ok (.aload_n 0, 1) := by decide +kernel
theorem d_Law_law_881 : decode code 881 = .ok (.iload 4, 2) := by decide +kernel
theorem d_Law_law_883 : decode code 883 = .ok (.iconst 1, 1) := by decide +kernel
theorem d_Law_law_884 : decode code 884 = .ok (.iadd, 1) := by decide +kernel
theorem d_Law_law_885 : decode code 885 = .ok (.iaload, 1) := by decide +kernel
theorem d_Law_law_886 : decode code 886 = .ok (.aload_n 0, 1) := by decide +kernel
theorem d_Law_law_887 : decode code 887 = .ok (.iload 4, 2) := by decide +kernel
theorem d_Law_law_889 : decode code 889 = .ok (.iconst 2, 1) := by decide +kernel
theorem d_Law_law_890 : decode code 890 = .ok (.iadd, 1) := by decide +kernel
theorem d_Law_law_891 : decode code 891 = .ok (.iaload, 1) := by decide +kernel
theorem d_Law_law_892 : decode code 892 = .ok (.aload_n 3, 1) := by decide +kernel
theorem d_Law_law_893 : decode code 893 = .ok (.invokestatic 119, 3) := by decide +kernel
theorem d_Law_law_896 : decode code 896 = .ok (.istore 5, 2) := by decide +kernel
theorem d_Law_law_898 : decode code 898 = .ok (.aload_n 2, 1) := by decide +kernel
theorem d_Law_law_899 : decode code 899 = .ok (.aload_n 0, 1) := by decide +kernel
theorem d_Law_law_900 : decode code 900 = .ok (.iload 4, 2) := by decide +kernel
theorem d_Law_law_902 : decode code 902 = .ok (.iconst 1, 1) := by decide +kernel
theorem d_Law_law_903 : decode code 903 = .ok (.iadd, 1) := by decide +kernel
theorem d_Law_law_904 : decode code 904 = .ok (.iaload, 1) := by decide +kernel
theorem d_Law_law_905 : decode code 905 = .ok (.aload_n 0, 1) := by decide +kernel
theorem d_Law_law_906 : decode code 906 = .ok (.iload 4, 2) := by decide +kernel
theorem d_Law_law_908 : decode code 908 = .ok (.iconst 2, 1) := by decide +kernel
theorem d_Law_law_909 : decode code 909 = .ok (.iadd, 1) := by decide +kernel
theorem d_Law_law_910 : decode code 910 = .ok (.iaload, 1) := by decide +kernel
theorem d_Law_law_911 : decode code 911 = .ok (.invokevirtual 121, 3) := by decide +kernel
theorem d_Law_law_914 : decode code 914 = .ok (.istore 6, 2) := by decide +kernel
theorem d_Law_law_916 : decode code 916 = .ok (.aload_n 2, 1) := by decide +kernel
theorem d_Law_law_917 : decode code 917 = .ok (.invokevirtual 81, 3) := by decide +kernel
theorem d_Law_law_920 : decode code 920 = .ok (.iload 5, 2) := by decide +kernel
theorem d_Law_law_922 : decode code 922 = .ok (.if_icmp .eq 5, 3) := by decide +kernel
theorem d_Law_law_925 : decode code 925 = .ok (.iconst 0, 1) := by decide +kernel
theorem d_Law_law_926 : decode code 926 = .ok (.ireturn, 1) := by decide +kernel
theorem d_Law_law_927 : decode code 927 = .ok (.iload 5, 2) := by decide +kernel
theorem d_Law_law_929 : decode code 929 = .ok (.ifCond .ne 15, 3) := by decide +kernel
theorem d_Law_law_932 : decode code 932 = .ok (.aload_n 3, 1) := by decide +kernel
theorem d_Law_law_933 : decode code 933 = .ok (.iconst 0, 1) := by decide +kernel
theorem d_Law_law_934 : decode code 934 = .ok (.laload, 1) := by decide +kernel
theorem d_Law_law_935 : decode code 935 = .ok (.iload 6, 2) := by decide +kernel
theorem d_Law_law_937 : decode code 937 = .ok (.i2l, 1) := by decide +kernel
theorem d_Law_law_938 : decode code 938 = .ok (.lcmp, 1) := by decide +kernel
theorem d_Law_law_939 : decode code 939 = .ok (.ifCond .eq 5, 3) := by decide +kernel
theorem d_Law_law_942 : decode code 942 = .ok (.iconst 0, 1) := by decide +kernel
theorem d_Law_law_943 : decode code 943 = .ok (.ireturn, 1) := by decide +kernel
theorem d_Law_law_944 : decode code 944 = .ok (.goto 272, 3) := by decide +kernel
theorem d_Law_law_947 : decode code 947 = .ok (.aload_n 1, 1) := by decide +kernel
theorem d_Law_law_948 : decode code 948 = .ok (.aload_n 0, 1) := by decide +kernel
theorem d_Law_law_949 : decode code 949 = .ok (.iload 4, 2) := by decide +kernel
theorem d_Law_law_951 : decode code 951 = .ok (.iconst 1, 1) := by decide +kernel
theorem d_Law_law_952 : decode code 952 = .ok (.iadd, 1) := by decide +kernel
theorem d_Law_law_953 : decode code 953 = .ok (.iaload, 1) := by decide +kernel
theorem d_Law_law_954 : decode code 954 = .ok (.aload_n 3, 1) := by decide +kernel
theorem d_Law_law_955 : decode code 955 = .ok (.invokestatic 122, 3) := by decide +kernel
theorem d_Law_law_958 : decode code 958 = .ok (.istore 5, 2) := by decide +kernel
theorem d_Law_law_960 : decode code 960 = .ok (.aload_n 2, 1) := by decide +kernel
theorem d_Law_law_961 : decode code 961 = .ok (.aload_n 0, 1) := by decide +kernel
theorem d_Law_law_962 : decode code 962 = .ok (.iload 4, 2) := by decide +kernel
theorem d_Law_law_964 : decode code 964 = .ok (.iconst 1, 1) := by decide +kernel
theorem d_Law_law_965 : decode code 965 = .ok (.iadd, 1) := by decide +kernel
theorem d_Law_law_966 : decode code 966 = .ok (.iaload, 1) := by decide +kernel
theorem d_Law_law_967 : decode code 967 = .ok (.invokevirtual 124, 3) := by decide +kernel
theorem d_Law_law_970 : decode code 970 = .ok (.istore 6, 2) := by decide +kernel
theorem d_Law_law_972 : decode code 972 = .ok (.aload_n 2, 1) := by decide +kernel
theorem d_Law_law_973 : decode code 973 = .ok (.invokevirtual 81, 3) := by decide +kernel
theorem d_Law_law_976 : decode code 976 = .ok (.iload 5, 2) := by decide +kernel
theorem d_Law_law_978 : decode code 978 = .ok (.if_icmp .eq 5, 3) := by decide +kernel
theorem d_Law_law_981 : decode code 981 = .ok (.iconst 0, 1) := by decide +kernel
theorem d_Law_law_982 : decode code 982 = .ok (.ireturn, 1) := by decide +kernel
theorem d_Law_law_983 : decode code 983 = .ok (.iload 5, 2) := by decide +kernel
theorem d_Law_law_985 : decode code 985 = .ok (.ifCond .ne 15, 3) := by decide +kernel
theorem d_Law_law_988 : decode code 988 = .ok (.aload_n 3, 1) := by decide +kernel
theorem d_Law_law_989 : decode code 989 = .ok (.iconst 0, 1) := by decide +kernel
theorem d_Law_law_990 : decode code 990 = .ok (.laload, 1) := by decide +kernel
theorem d_Law_law_991 : decode code 991 = .ok (.iload 6, 2) := by decide +kernel
theorem d_Law_law_993 : decode code 993 = .ok (.i2l, 1) := by decide +kernel
theorem d_Law_law_994 : decode code 994 = .ok (.lcmp, 1) := by decide +kernel
theorem d_Law_law_995 : decode code 995 = .ok (.ifCond .eq 5, 3) := by decide +kernel
theorem d_Law_law_998 : decode code 998 = .ok (.iconst 0, 1) := by decide +kernel
theorem d_Law_law_999 : decode code 999 = .ok (.ireturn, 1) := by decide +kernel
theorem d_Law_law_1000 : decode code 1000 = .ok (.goto 216, 3) := by decide +kernel
theorem d_Law_law_1003 : decode code 1003 = .ok (.aload_n 1, 1) := by decide +kernel
theorem d_Law_law_1004 : decode code 1004 = .ok (.invokevirtual 125, 3) := by decide +kernel
theorem d_Law_law_1007 : decode code 1007 = .ok (.aload_n 2, 1) := by decide +kernel
theorem d_Law_law_1008 : decode code 1008 = .ok (.invokevirtual 128, 3) := by decide +kernel
theorem d_Law_law_1011 : decode code 1011 = .ok (.if_icmp .eq 205, 3) := by decide +kernel
theorem d_Law_law_1014 : decode code 1014 = .ok (.iconst 0, 1) := by decide +kernel
theorem d_Law_law_1015 : decode code 1015 = .ok (.ireturn, 1) := by decide +kernel
theorem d_Law_law_1016 : decode code 1016 = .ok (.aload_n 1, 1) := by decide +kernel
theorem d_Law_law_1017 : decode code 1017 = .ok (.invokevirtual 129, 3) := by decide +kernel
theorem d_Law_law_1020 : decode code 1020 = .ok (.aload_n 2, 1) := by decide +kernel
theorem d_Law_law_1021 : decode code 1021 = .ok (.invokevirtual 132, 3) := by decide +kernel
theorem d_Law_law_1024 : decode code 1024 = .ok (.if_icmp .eq 192, 3) := by decide +kernel
theorem d_Law_law_1027 : decode code 1027 = .ok (.iconst 0, 1) := by decide +kernel
theorem d_Law_law_1028 : decode code 1028 = .ok (.ireturn, 1) := by decide +kernel
theorem d_Law_law_1029 : decode code 1029 = .ok (.aload_n 1, 1) := by decide +kernel
theorem d_Law_law_1030 : decode code 1030 = .ok (.invokevirtual 133, 3) := by decide +kernel
theorem d_Law_law_1033 : decode code 1033 = .ok (.aload_n 2, 1) := by decide +kernel
theorem d_Law_law_1034 : decode code 1034 = .ok (.invokevirtual 136, 3) := by decide +kernel
theorem d_Law_law_1037 : decode code 1037 = .ok (.if_icmp .eq 179, 3) := by decide +kernel
theorem d_Law_law_1040 : decode code 1040 = .ok (.iconst 0, 1) := by decide +kernel
theorem d_Law_law_1041 : decode code 1041 = .ok (.ireturn, 1) := by decide +kernel
theorem d_Law_law_1042 : decode code 1042 = .ok (.aload_n 1, 1) := by decide +kernel
theorem d_Law_law_1043 : decode code 1043 = .ok (.aload_n 0, 1) := by decide +kernel
theorem d_Law_law_1044 : decode code 1044 = .ok (.iload 4, 2) := by decide +kernel
theorem d_Law_law_1046 : decode code 1046 = .ok (.iconst 1, 1) := by decide +kernel
theorem d_Law_law_1047 : decode code 1047 = .ok (.iadd, 1) := by decide +kernel
theorem d_Law_law_1048 : decode code 1048 = .ok (.iaload, 1) := by decide +kernel
theorem d_Law_law_1049 : decode code 1049 = .ok (.aload_n 3, 1) := by decide +kernel
theorem d_Law_law_1050 : decode code 1050 = .ok (.invokestatic 137, 3) := by decide +kernel
theorem d_Law_law_1053 : decode code 1053 = .ok (.istore 5, 2) := by decide +kernel
theorem d_Law_law_1055 : decode code 1055 = .ok (.aload_n 2, 1) := by decide +kernel
theorem d_Law_law_1056 : decode code 1056 = .ok (.aload_n 0, 1) := by decide +kernel
theorem d_Law_law_1057 : decode code 1057 = .ok (.iload 4, 2) := by decide +kernel
theorem d_Law_law_1059 : decode code 1059 = .ok (.iconst 1, 1) := by decide +kernel
theorem d_Law_law_1060 : decode code 1060 = .ok (.iadd, 1) := by decide +kernel
theorem d_Law_law_1061 : decode code 1061 = .ok (.iaload, 1) := by decide +kernel
theorem d_Law_law_1062 : decode code 1062 = .ok (.invokevirtual 139, 3) := by decide +kernel
theorem d_Law_law_1065 : decode code 1065 = .ok (.istore 6, 2) := by decide +kernel
theorem d_Law_law_1067 : decode code 1067 = .ok (.aload_n 2, 1) := by decide +kernel
theorem d_Law_law_1068 : decode code 1068 = .ok (.invokevirtual 81, 3) := by decide +kernel
theorem d_Law_law_1071 : decode code 1071 = .ok (.iload 5, 2) := by decide +kernel
theorem d_Law_law_1073 : decode code 1073 = .ok (.if_icmp .eq 5, 3) := by decide +kernel
theorem d_Law_law_1076 : decode code 1076 = .ok (.iconst 0, 1) := by decide +kernel
theorem d_Law_law_1077 : decode code 1077 = .ok (.ireturn, 1) := by decide +kernel
theorem d_Law_law_1078 : decode code 1078 = .ok (.iload 5, 2) := by decide +kernel
theorem d_Law_law_1080 : decode code 1080 = .ok (.ifCond .ne 15, 3) := by decide +kernel
theorem d_Law_law_1083 : decode code 1083 = .ok (.aload_n 3, 1) := by decide +kernel
theorem d_Law_law_1084 : decode code 1084 = .ok (.iconst 0, 1) := by decide +kernel
theorem d_Law_law_1085 : decode code 1085 = .ok (.laload, 1) := by decide +kernel
theorem d_Law_law_1086 : decode code 1086 = .ok (.iload 6, 2) := by decide +kernel
theorem d_Law_law_1088 : decode code 1088 = .ok (.i2l, 1) := by decide +kernel
theorem d_Law_law_1089 : decode code 1089 = .ok (.lcmp, 1) := by decide +kernel
theorem d_Law_law_1090 : decode code 1090 = .ok (.ifCond .eq 5, 3) := by decide +kernel
theorem d_Law_law_1093 : decode code 1093 = .ok (.iconst 0, 1) := by decide +kernel
theorem d_Law_law_1094 : decode code 1094 = .ok (.ireturn, 1) := by decide +kernel
theorem d_Law_law_1095 : decode code 1095 = .ok (.goto 121, 3) := by decide +kernel
theorem d_Law_law_1098 : decode code 1098 = .ok (.aload_n 1, 1) := by decide +kernel
theorem d_Law_law_1099 : decode code 1099 = .ok (.aload_n 0, 1) := by decide +kernel
theorem d_Law_law_1100 : decode code 1100 = .ok (.iload 4, 2) := by decide +kernel
theorem d_Law_law_1102 : decode code 1102 = .ok (.iconst 1, 1) := by decide +kernel
theorem d_Law_law_1103 : decode code 1103 = .ok (.iadd, 1) := by decide +kernel
theorem d_Law_law_1104 : decode code 1104 = .ok (.iaload, 1) := by decide +kernel
theorem d_Law_law_1105 : decode code 1105 = .ok (.aload_n 0, 1) := by decide +kernel
theorem d_Law_law_1106 : decode code 1106 = .ok (.iload 4, 2) := by decide +kernel
theorem d_Law_law_1108 : decode code 1108 = .ok (.iconst 2, 1) := by decide +kernel
theorem d_Law_law_1109 : decode code 1109 = .ok (.iadd, 1) := by decide +kernel
theorem d_Law_law_1110 : decode code 1110 = .ok (.iaload, 1) := by decide +kernel
theorem d_Law_law_1111 : decode code 1111 = .ok (.aload_n 3, 1) := by decide +kernel
theorem d_Law_law_1112 : decode code 1112 = .ok (.invokestatic 140, 3) := by decide +kernel
theorem d_Law_law_1115 : decode code 1115 = .ok (.istore 5, 2) := by decide +kernel
theorem d_Law_law_1117 : decode code 1117 = .ok (.aload_n 2, 1) := by decide +kernel
theorem d_Law_law_1118 : decode code 1118 = .ok (.aload_n 0, 1) := by decide +kernel
theorem d_Law_law_1119 : decode code 1119 = .ok (.iload 4, 2) := by decide +kernel
theorem d_Law_law_1121 : decode code 1121 = .ok (.iconst 1, 1) := by decide +kernel
theorem d_Law_law_1122 : decode code 1122 = .ok (.iadd, 1) := by decide +kernel
theorem d_Law_law_1123 : decode code 1123 = .ok (.iaload, 1) := by decide +kernel
theorem d_Law_law_1124 : decode code 1124 = .ok (.aload_n 0, 1) := by decide +kernel
theorem d_Law_law_1125 : decode code 1125 = .ok (.iload 4, 2) := by decide +kernel
theorem d_Law_law_1127 : decode code 1127 = .ok (.iconst 2, 1) := by decide +kernel
theorem d_Law_law_1128 : decode code 1128 = .ok (.iadd, 1) := by decide +kernel
theorem d_Law_law_1129 : decode code 1129 = .ok (.iaload, 1) := by decide +kernel
theorem d_Law_law_1130 : decode code 1130 = .ok (.invokevirtual 142, 3) := by decide +kernel
theorem d_Law_law_1133 : decode code 1133 = .ok (.istore 6, 2) := by decide +kernel
theorem d_Law_law_1135 : decode code 1135 = .ok (.aload_n 2, 1) := by decide +kernel
theorem d_Law_law_1136 : decode code 1136 = .ok (.invokevirtual 81, 3) := by decide +kernel
theorem d_Law_law_1139 : decode code 1139 = .ok (.iload 5, 2) := by decide +kernel
theorem d_Law_law_1141 : decode code 1141 = .ok (.if_icmp .eq 5, 3) := by decide +kernel
theorem d_Law_law_1144 : decode code 1144 = .ok (.iconst 0, 1) := by decide +kernel
theorem d_Law_law_1145 : decode code 1145 = .ok (.ireturn, 1) := by decide +kernel
theorem d_Law_law_1146 : decode code 1146 = .ok (.iload 5, 2) := by decide +kernel
theorem d_Law_law_1148 : decode code 1148 = .ok (.ifCond .ne 15, 3) := by decide +kernel
theorem d_Law_law_1151 : decode code 1151 = .ok (.aload_n 3, 1) := by decide +kernel
theorem d_Law_law_1152 : decode code 1152 = .ok (.iconst 0, 1) := by decide +kernel
theorem d_Law_law_1153 : decode code 1153 = .ok (.laload, 1) := by decide +kernel
theorem d_Law_law_1154 : decode code 1154 = .ok (.iload 6, 2) := by decide +kernel
theorem d_Law_law_1156 : decode code 1156 = .ok (.i2l, 1) := by decide +kernel
theorem d_Law_law_1157 : decode code 1157 = .ok (.lcmp, 1) := by decide +kernel
theorem d_Law_law_1158 : decode code 1158 = .ok (.ifCond .eq 5, 3) := by decide +kernel
theorem d_Law_law_1161 : decode code 1161 = .ok (.iconst 0, 1) := by decide +kernel
theorem d_Law_law_1162 : decode code 1162 = .ok (.ireturn, 1) := by decide +kernel
theorem d_Law_law_1163 : decode code 1163 = .ok (.goto 53, 3) := by decide +kernel
theorem d_Law_law_1166 : decode code 1166 = .ok (.aload_n 1, 1) := by decide +kernel
theorem d_Law_law_1167 : decode code 1167 = .ok (.aload_n 0, 1) := by decide +kernel
theorem d_Law_law_1168 : decode code 1168 = .ok (.iload 4, 2) := by decide +kernel
theorem d_Law_law_1170 : decode code 1170 = .ok (.iconst 1, 1) := by decide +kernel
theorem d_Law_law_1171 : decode code 1171 = .ok (.iadd, 1) := by decide +kernel
theorem d_Law_law_1172 : decode code 1172 = .ok (.iaload, 1) := by decide +kernel
theorem d_Law_law_1173 : decode code 1173 = .ok (.invokevirtual 143, 3) := by decide +kernel
theorem d_Law_law_1176 : decode code 1176 = .ok (.aload_n 2, 1) := by decide +kernel
theorem d_Law_law_1177 : decode code 1177 = .ok (.aload_n 0, 1) := by decide +kernel
theorem d_Law_law_1178 : decode code 1178 = .ok (.iload 4, 2) := by decide +kernel
theorem d_Law_law_1180 : decode code 1180 = .ok (.iconst 1, 1) := by decide +kernel
theorem d_Law_law_1181 : decode code 1181 = .ok (.iadd, 1) := by decide +kernel
theorem d_Law_law_1182 : decode code 1182 = .ok (.iaload, 1) := by decide +kernel
theorem d_Law_law_1183 : decode code 1183 = .ok (.invokevirtual 146, 3) := by decide +kernel
theorem d_Law_law_1186 : decode code 1186 = .ok (.if_icmp .eq 30, 3) := by decide +kernel
theorem d_Law_law_1189 : decode code 1189 = .ok (.iconst 0, 1) := by decide +kernel
theorem d_Law_law_1190 : decode code 1190 = .ok (.ireturn, 1) := by decide +kernel
theorem d_Law_law_1191 : decode code 1191 = .ok (.aload_n 1, 1) := by decide +kernel
theorem d_Law_law_1192 : decode code 1192 = .ok (.aload_n 0, 1) := by decide +kernel
theorem d_Law_law_1193 : decode code 1193 = .ok (.iload 4, 2) := by decide +kernel
theorem d_Law_law_1195 : decode code 1195 = .ok (.iconst 1, 1) := by decide +kernel
theorem d_Law_law_1196 : decode code 1196 = .ok (.iadd, 1) := by decide +kernel
theorem d_Law_law_1197 : decode code 1197 = .ok (.iaload, 1) := by decide +kernel
theorem d_Law_law_1198 : decode code 1198 = .ok (.invokevirtual 147, 3) := by decide +kernel
theorem d_Law_law_1201 : decode code 1201 = .ok (.aload_n 2, 1) := by decide +kernel
theorem d_Law_law_1202 : decode code 1202 = .ok (.aload_n 0, 1) := by decide +kernel
theorem d_Law_law_1203 : decode code 1203 = .ok (.iload 4, 2) := by decide +kernel
theorem d_Law_law_1205 : decode code 1205 = .ok (.iconst 1, 1) := by decide +kernel
theorem d_Law_law_1206 : decode code 1206 = .ok (.iadd, 1) := by decide +kernel
theorem d_Law_law_1207 : decode code 1207 = .ok (.iaload, 1) := by decide +kernel
theorem d_Law_law_1208 : decode code 1208 = .ok (.invokevirtual 150, 3) := by decide +kernel
theorem d_Law_law_1211 : decode code 1211 = .ok (.if_icmp .eq 5, 3) := by decide +kernel
theorem d_Law_law_1214 : decode code 1214 = .ok (.iconst 0, 1) := by decide +kernel
theorem d_Law_law_1215 : decode code 1215 = .ok (.ireturn, 1) := by decide +kernel
theorem d_Law_law_1216 : decode code 1216 = .ok (.iinc 4 6, 3) := by decide +kernel
theorem d_Law_law_1219 : decode code 1219 = .ok (.goto (-1196), 3) := by decide +kernel
theorem d_Law_law_1222 : decode code 1222 = .ok (.iconst 1, 1) := by decide +kernel
theorem d_Law_law_1223 : decode code 1223 = .ok (.ireturn, 1) := by decide +kernel
