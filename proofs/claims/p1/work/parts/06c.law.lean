theorem dL_law_645 : decode cL_law 645 = .ok (.aload_n 1, 1) := by decide +kernel
theorem dL_law_646 : decode cL_law 646 = .ok (.aload_n 0, 1) := by decide +kernel
theorem dL_law_647 : decode cL_law 647 = .ok (.iload_n 3, 1) := by decide +kernel
theorem dL_law_648 : decode cL_law 648 = .ok (.iconst 1, 1) := by decide +kernel
theorem dL_law_649 : decode cL_law 649 = .ok (.iadd, 1) := by decide +kernel
theorem dL_law_650 : decode cL_law 650 = .ok (.iaload, 1) := by decide +kernel
theorem dL_law_651 : decode cL_law 651 = .ok (.aload_n 0, 1) := by decide +kernel
theorem dL_law_652 : decode cL_law 652 = .ok (.iload_n 3, 1) := by decide +kernel
theorem dL_law_653 : decode cL_law 653 = .ok (.iconst 2, 1) := by decide +kernel
theorem dL_law_654 : decode cL_law 654 = .ok (.iadd, 1) := by decide +kernel
theorem dL_law_655 : decode cL_law 655 = .ok (.iaload, 1) := by decide +kernel
theorem dL_law_656 : decode cL_law 656 = .ok (.aload_n 0, 1) := by decide +kernel
theorem dL_law_657 : decode cL_law 657 = .ok (.iload_n 3, 1) := by decide +kernel
theorem dL_law_658 : decode cL_law 658 = .ok (.iconst 3, 1) := by decide +kernel
theorem dL_law_659 : decode cL_law 659 = .ok (.iadd, 1) := by decide +kernel
theorem dL_law_660 : decode cL_law 660 = .ok (.iaload, 1) := by decide +kernel
theorem dL_law_661 : decode cL_law 661 = .ok (.invokevirtual 72, 3) := by decide +kernel
theorem mw_978 : Cond.methodLink RL 72 yX11_narrow ∈ wsL_law := List.mem_of_getElem? (i := 978) (by decide +kernel)
theorem mw_979 : Cond.instanceMethod yX11_narrow ∈ wsL_law := List.mem_of_getElem? (i := 979) (by decide +kernel)
theorem mw_980 : Cond.selects RX11 yX11_narrow yX11_narrow ∈ wsL_law := List.mem_of_getElem? (i := 980) (by decide +kernel)
theorem gV_L_72 : GoodIn wsL_law (wsV RL 72 RX11 yX11_narrow (wl yX11_narrow cX11_narrow 7 (some .int))) := g_V mw_978 mw_979 mw_980 mw_2 mw_981
theorem hdV_X11_narrow : yX11_narrow.cls = RX11 ∧ okD yX11_narrow 3 := by decide +kernel
theorem dL_law_664 : decode cL_law 664 = .ok (.aload_n 2, 1) := by decide +kernel
theorem dL_law_665 : decode cL_law 665 = .ok (.aload_n 0, 1) := by decide +kernel
theorem dL_law_666 : decode cL_law 666 = .ok (.iload_n 3, 1) := by decide +kernel
theorem dL_law_667 : decode cL_law 667 = .ok (.iconst 1, 1) := by decide +kernel
theorem dL_law_668 : decode cL_law 668 = .ok (.iadd, 1) := by decide +kernel
theorem dL_law_669 : decode cL_law 669 = .ok (.iaload, 1) := by decide +kernel
theorem dL_law_670 : decode cL_law 670 = .ok (.aload_n 0, 1) := by decide +kernel
theorem dL_law_671 : decode cL_law 671 = .ok (.iload_n 3, 1) := by decide +kernel
theorem dL_law_672 : decode cL_law 672 = .ok (.iconst 2, 1) := by decide +kernel
theorem dL_law_673 : decode cL_law 673 = .ok (.iadd, 1) := by decide +kernel
theorem dL_law_674 : decode cL_law 674 = .ok (.iaload, 1) := by decide +kernel
theorem dL_law_675 : decode cL_law 675 = .ok (.aload_n 0, 1) := by decide +kernel
theorem dL_law_676 : decode cL_law 676 = .ok (.iload_n 3, 1) := by decide +kernel
theorem dL_law_677 : decode cL_law 677 = .ok (.iconst 3, 1) := by decide +kernel
theorem dL_law_678 : decode cL_law 678 = .ok (.iadd, 1) := by decide +kernel
theorem dL_law_679 : decode cL_law 679 = .ok (.iaload, 1) := by decide +kernel
theorem dL_law_680 : decode cL_law 680 = .ok (.invokevirtual 76, 3) := by decide +kernel
theorem mw_1024 : Cond.methodLink RL 76 yX12_narrow ∈ wsL_law := List.mem_of_getElem? (i := 1024) (by decide +kernel)
theorem mw_1025 : Cond.instanceMethod yX12_narrow ∈ wsL_law := List.mem_of_getElem? (i := 1025) (by decide +kernel)
theorem mw_1026 : Cond.selects RX12 yX12_narrow yX12_narrow ∈ wsL_law := List.mem_of_getElem? (i := 1026) (by decide +kernel)
theorem gV_L_76 : GoodIn wsL_law (wsV RL 76 RX12 yX12_narrow (wl yX12_narrow cX12_narrow 6 (some .int))) := g_V mw_1024 mw_1025 mw_1026 mw_5 mw_1027
theorem hdV_X12_narrow : yX12_narrow.cls = RX12 ∧ okD yX12_narrow 3 := by decide +kernel
theorem dL_law_683 : decode cL_law 683 = .ok (.if_icmp .eq 939, 3) := by decide +kernel
theorem dL_law_688 : decode cL_law 688 = .ok (.aload_n 1, 1) := by decide +kernel
theorem dL_law_689 : decode cL_law 689 = .ok (.aload_n 0, 1) := by decide +kernel
theorem dL_law_690 : decode cL_law 690 = .ok (.iload_n 3, 1) := by decide +kernel
theorem dL_law_691 : decode cL_law 691 = .ok (.iconst 1, 1) := by decide +kernel
theorem dL_law_692 : decode cL_law 692 = .ok (.iadd, 1) := by decide +kernel
theorem dL_law_693 : decode cL_law 693 = .ok (.iaload, 1) := by decide +kernel
theorem dL_law_694 : decode cL_law 694 = .ok (.aload_n 0, 1) := by decide +kernel
theorem dL_law_695 : decode cL_law 695 = .ok (.iload_n 3, 1) := by decide +kernel
theorem dL_law_696 : decode cL_law 696 = .ok (.iconst 2, 1) := by decide +kernel
theorem dL_law_697 : decode cL_law 697 = .ok (.iadd, 1) := by decide +kernel
theorem dL_law_698 : decode cL_law 698 = .ok (.iaload, 1) := by decide +kernel
theorem dL_law_699 : decode cL_law 699 = .ok (.aload_n 0, 1) := by decide +kernel
theorem dL_law_700 : decode cL_law 700 = .ok (.iload_n 3, 1) := by decide +kernel
theorem dL_law_701 : decode cL_law 701 = .ok (.iconst 3, 1) := by decide +kernel
theorem dL_law_702 : decode cL_law 702 = .ok (.iadd, 1) := by decide +kernel
theorem dL_law_703 : decode cL_law 703 = .ok (.iaload, 1) := by decide +kernel
theorem dL_law_704 : decode cL_law 704 = .ok (.ifCond .eq 7, 3) := by decide +kernel
theorem dL_law_711 : decode cL_law 711 = .ok (.iconst 0, 1) := by decide +kernel
theorem dL_law_712 : decode cL_law 712 = .ok (.invokevirtual 77, 3) := by decide +kernel
theorem mw_1046 : Cond.methodLink RL 77 yX11_order ∈ wsL_law := List.mem_of_getElem? (i := 1046) (by decide +kernel)
theorem mw_1047 : Cond.instanceMethod yX11_order ∈ wsL_law := List.mem_of_getElem? (i := 1047) (by decide +kernel)
theorem mw_1048 : Cond.selects RX11 yX11_order yX11_order ∈ wsL_law := List.mem_of_getElem? (i := 1048) (by decide +kernel)
theorem gV_L_77 : GoodIn wsL_law (wsV RL 77 RX11 yX11_order (wl yX11_order cX11_order 5 (some .int))) := g_V mw_1046 mw_1047 mw_1048 mw_2 mw_1049
theorem hdV_X11_order : yX11_order.cls = RX11 ∧ okD yX11_order 3 := by decide +kernel
theorem dL_law_715 : decode cL_law 715 = .ok (.aload_n 2, 1) := by decide +kernel
theorem dL_law_716 : decode cL_law 716 = .ok (.aload_n 0, 1) := by decide +kernel
theorem dL_law_717 : decode cL_law 717 = .ok (.iload_n 3, 1) := by decide +kernel
theorem dL_law_718 : decode cL_law 718 = .ok (.iconst 1, 1) := by decide +kernel
theorem dL_law_719 : decode cL_law 719 = .ok (.iadd, 1) := by decide +kernel
theorem dL_law_720 : decode cL_law 720 = .ok (.iaload, 1) := by decide +kernel
theorem dL_law_721 : decode cL_law 721 = .ok (.aload_n 0, 1) := by decide +kernel
theorem dL_law_722 : decode cL_law 722 = .ok (.iload_n 3, 1) := by decide +kernel
theorem dL_law_723 : decode cL_law 723 = .ok (.iconst 2, 1) := by decide +kernel
theorem dL_law_724 : decode cL_law 724 = .ok (.iadd, 1) := by decide +kernel
theorem dL_law_725 : decode cL_law 725 = .ok (.iaload, 1) := by decide +kernel
theorem dL_law_726 : decode cL_law 726 = .ok (.aload_n 0, 1) := by decide +kernel
theorem dL_law_727 : decode cL_law 727 = .ok (.iload_n 3, 1) := by decide +kernel
theorem dL_law_728 : decode cL_law 728 = .ok (.iconst 3, 1) := by decide +kernel
theorem dL_law_729 : decode cL_law 729 = .ok (.iadd, 1) := by decide +kernel
theorem dL_law_730 : decode cL_law 730 = .ok (.iaload, 1) := by decide +kernel
theorem dL_law_731 : decode cL_law 731 = .ok (.ifCond .eq 7, 3) := by decide +kernel
theorem dL_law_738 : decode cL_law 738 = .ok (.iconst 0, 1) := by decide +kernel
theorem dL_law_739 : decode cL_law 739 = .ok (.invokevirtual 81, 3) := by decide +kernel
theorem mw_1058 : Cond.methodLink RL 81 yX12_order ∈ wsL_law := List.mem_of_getElem? (i := 1058) (by decide +kernel)
theorem mw_1059 : Cond.instanceMethod yX12_order ∈ wsL_law := List.mem_of_getElem? (i := 1059) (by decide +kernel)
theorem mw_1060 : Cond.selects RX12 yX12_order yX12_order ∈ wsL_law := List.mem_of_getElem? (i := 1060) (by decide +kernel)
theorem gV_L_81 : GoodIn wsL_law (wsV RL 81 RX12 yX12_order (wl yX12_order cX12_order 4 (some .int))) := g_V mw_1058 mw_1059 mw_1060 mw_5 mw_1061
theorem hdV_X12_order : yX12_order.cls = RX12 ∧ okD yX12_order 3 := by decide +kernel
theorem dL_law_742 : decode cL_law 742 = .ok (.if_icmp .eq 880, 3) := by decide +kernel
theorem dL_law_707 : decode cL_law 707 = .ok (.iconst 1, 1) := by decide +kernel
theorem dL_law_708 : decode cL_law 708 = .ok (.goto 4, 3) := by decide +kernel
theorem dL_law_734 : decode cL_law 734 = .ok (.iconst 1, 1) := by decide +kernel
theorem dL_law_735 : decode cL_law 735 = .ok (.goto 4, 3) := by decide +kernel
theorem dL_law_747 : decode cL_law 747 = .ok (.aload_n 1, 1) := by decide +kernel
theorem dL_law_748 : decode cL_law 748 = .ok (.aload_n 0, 1) := by decide +kernel
theorem dL_law_749 : decode cL_law 749 = .ok (.iload_n 3, 1) := by decide +kernel
theorem dL_law_750 : decode cL_law 750 = .ok (.iconst 1, 1) := by decide +kernel
theorem dL_law_751 : decode cL_law 751 = .ok (.iadd, 1) := by decide +kernel
theorem dL_law_752 : decode cL_law 752 = .ok (.iaload, 1) := by decide +kernel
theorem dL_law_753 : decode cL_law 753 = .ok (.aload_n 0, 1) := by decide +kernel
theorem dL_law_754 : decode cL_law 754 = .ok (.iload_n 3, 1) := by decide +kernel
theorem dL_law_755 : decode cL_law 755 = .ok (.iconst 2, 1) := by decide +kernel
theorem dL_law_756 : decode cL_law 756 = .ok (.iadd, 1) := by decide +kernel
theorem dL_law_757 : decode cL_law 757 = .ok (.iaload, 1) := by decide +kernel
theorem dL_law_758 : decode cL_law 758 = .ok (.aload_n 0, 1) := by decide +kernel
theorem dL_law_759 : decode cL_law 759 = .ok (.iload_n 3, 1) := by decide +kernel
theorem dL_law_760 : decode cL_law 760 = .ok (.iconst 3, 1) := by decide +kernel
theorem dL_law_761 : decode cL_law 761 = .ok (.iadd, 1) := by decide +kernel
theorem dL_law_762 : decode cL_law 762 = .ok (.iaload, 1) := by decide +kernel
theorem dL_law_763 : decode cL_law 763 = .ok (.invokevirtual 82, 3) := by decide +kernel
theorem mw_1074 : Cond.methodLink RL 82 yX11_cut ∈ wsL_law := List.mem_of_getElem? (i := 1074) (by decide +kernel)
theorem mw_1075 : Cond.instanceMethod yX11_cut ∈ wsL_law := List.mem_of_getElem? (i := 1075) (by decide +kernel)
theorem mw_1076 : Cond.selects RX11 yX11_cut yX11_cut ∈ wsL_law := List.mem_of_getElem? (i := 1076) (by decide +kernel)
theorem gV_L_82 : GoodIn wsL_law (wsV RL 82 RX11 yX11_cut (wl yX11_cut cX11_cut 7 (some .int))) := g_V mw_1074 mw_1075 mw_1076 mw_2 mw_1077
theorem hdV_X11_cut : yX11_cut.cls = RX11 ∧ okD yX11_cut 3 := by decide +kernel
theorem dL_law_766 : decode cL_law 766 = .ok (.aload_n 2, 1) := by decide +kernel
theorem dL_law_767 : decode cL_law 767 = .ok (.aload_n 0, 1) := by decide +kernel
theorem dL_law_768 : decode cL_law 768 = .ok (.iload_n 3, 1) := by decide +kernel
theorem dL_law_769 : decode cL_law 769 = .ok (.iconst 1, 1) := by decide +kernel
theorem dL_law_770 : decode cL_law 770 = .ok (.iadd, 1) := by decide +kernel
theorem dL_law_771 : decode cL_law 771 = .ok (.iaload, 1) := by decide +kernel
theorem dL_law_772 : decode cL_law 772 = .ok (.aload_n 0, 1) := by decide +kernel
theorem dL_law_773 : decode cL_law 773 = .ok (.iload_n 3, 1) := by decide +kernel
theorem dL_law_774 : decode cL_law 774 = .ok (.iconst 2, 1) := by decide +kernel
theorem dL_law_775 : decode cL_law 775 = .ok (.iadd, 1) := by decide +kernel
theorem dL_law_776 : decode cL_law 776 = .ok (.iaload, 1) := by decide +kernel
theorem dL_law_777 : decode cL_law 777 = .ok (.aload_n 0, 1) := by decide +kernel
theorem dL_law_778 : decode cL_law 778 = .ok (.iload_n 3, 1) := by decide +kernel
theorem dL_law_779 : decode cL_law 779 = .ok (.iconst 3, 1) := by decide +kernel
theorem dL_law_780 : decode cL_law 780 = .ok (.iadd, 1) := by decide +kernel
theorem dL_law_781 : decode cL_law 781 = .ok (.iaload, 1) := by decide +kernel
theorem dL_law_782 : decode cL_law 782 = .ok (.invokevirtual 85, 3) := by decide +kernel
theorem mw_1090 : Cond.methodLink RL 85 yX12_cut ∈ wsL_law := List.mem_of_getElem? (i := 1090) (by decide +kernel)
theorem mw_1091 : Cond.instanceMethod yX12_cut ∈ wsL_law := List.mem_of_getElem? (i := 1091) (by decide +kernel)
theorem mw_1092 : Cond.selects RX12 yX12_cut yX12_cut ∈ wsL_law := List.mem_of_getElem? (i := 1092) (by decide +kernel)
theorem gV_L_85 : GoodIn wsL_law (wsV RL 85 RX12 yX12_cut (wl yX12_cut cX12_cut 5 (some .int))) := g_V mw_1090 mw_1091 mw_1092 mw_5 mw_1093
theorem hdV_X12_cut : yX12_cut.cls = RX12 ∧ okD yX12_cut 3 := by decide +kernel
theorem dL_law_785 : decode cL_law 785 = .ok (.if_icmp .eq 837, 3) := by decide +kernel
theorem dL_law_790 : decode cL_law 790 = .ok (.aload_n 1, 1) := by decide +kernel
theorem dL_law_791 : decode cL_law 791 = .ok (.aload_n 0, 1) := by decide +kernel
theorem dL_law_792 : decode cL_law 792 = .ok (.iload_n 3, 1) := by decide +kernel
theorem dL_law_793 : decode cL_law 793 = .ok (.iconst 1, 1) := by decide +kernel
theorem dL_law_794 : decode cL_law 794 = .ok (.iadd, 1) := by decide +kernel
theorem dL_law_795 : decode cL_law 795 = .ok (.iaload, 1) := by decide +kernel
theorem dL_law_796 : decode cL_law 796 = .ok (.aload_n 0, 1) := by decide +kernel
theorem dL_law_797 : decode cL_law 797 = .ok (.iload_n 3, 1) := by decide +kernel
theorem dL_law_798 : decode cL_law 798 = .ok (.iconst 2, 1) := by decide +kernel
theorem dL_law_799 : decode cL_law 799 = .ok (.iadd, 1) := by decide +kernel
theorem dL_law_800 : decode cL_law 800 = .ok (.iaload, 1) := by decide +kernel
theorem dL_law_801 : decode cL_law 801 = .ok (.invokevirtual 86, 3) := by decide +kernel
theorem mw_1094 : Cond.methodLink RL 86 yX11_unlike ∈ wsL_law := List.mem_of_getElem? (i := 1094) (by decide +kernel)
theorem mw_1095 : Cond.instanceMethod yX11_unlike ∈ wsL_law := List.mem_of_getElem? (i := 1095) (by decide +kernel)
theorem mw_1096 : Cond.selects RX11 yX11_unlike yX11_unlike ∈ wsL_law := List.mem_of_getElem? (i := 1096) (by decide +kernel)
theorem gV_L_86 : GoodIn wsL_law (wsV RL 86 RX11 yX11_unlike (wl yX11_unlike cX11_unlike 4 (some .int))) := g_V mw_1094 mw_1095 mw_1096 mw_2 mw_1097
theorem hdV_X11_unlike : yX11_unlike.cls = RX11 ∧ okD yX11_unlike 2 := by decide +kernel
theorem dL_law_804 : decode cL_law 804 = .ok (.aload_n 2, 1) := by decide +kernel
theorem dL_law_805 : decode cL_law 805 = .ok (.aload_n 0, 1) := by decide +kernel
theorem dL_law_806 : decode cL_law 806 = .ok (.iload_n 3, 1) := by decide +kernel
theorem dL_law_807 : decode cL_law 807 = .ok (.iconst 1, 1) := by decide +kernel
theorem dL_law_808 : decode cL_law 808 = .ok (.iadd, 1) := by decide +kernel
theorem dL_law_809 : decode cL_law 809 = .ok (.iaload, 1) := by decide +kernel
theorem dL_law_810 : decode cL_law 810 = .ok (.aload_n 0, 1) := by decide +kernel
theorem dL_law_811 : decode cL_law 811 = .ok (.iload_n 3, 1) := by decide +kernel
theorem dL_law_812 : decode cL_law 812 = .ok (.iconst 2, 1) := by decide +kernel
theorem dL_law_813 : decode cL_law 813 = .ok (.iadd, 1) := by decide +kernel
theorem dL_law_814 : decode cL_law 814 = .ok (.iaload, 1) := by decide +kernel
theorem dL_law_815 : decode cL_law 815 = .ok (.invokevirtual 89, 3) := by decide +kernel
theorem mw_1110 : Cond.methodLink RL 89 yX12_unlike ∈ wsL_law := List.mem_of_getElem? (i := 1110) (by decide +kernel)
theorem mw_1111 : Cond.instanceMethod yX12_unlike ∈ wsL_law := List.mem_of_getElem? (i := 1111) (by decide +kernel)
theorem mw_1112 : Cond.selects RX12 yX12_unlike yX12_unlike ∈ wsL_law := List.mem_of_getElem? (i := 1112) (by decide +kernel)
theorem gV_L_89 : GoodIn wsL_law (wsV RL 89 RX12 yX12_unlike (wl yX12_unlike cX12_unlike 3 (some .int))) := g_V mw_1110 mw_1111 mw_1112 mw_5 mw_1113
theorem hdV_X12_unlike : yX12_unlike.cls = RX12 ∧ okD yX12_unlike 2 := by decide +kernel
theorem dL_law_818 : decode cL_law 818 = .ok (.if_icmp .eq 804, 3) := by decide +kernel
theorem dL_law_823 : decode cL_law 823 = .ok (.aload_n 1, 1) := by decide +kernel
theorem dL_law_824 : decode cL_law 824 = .ok (.aload_n 0, 1) := by decide +kernel
theorem dL_law_825 : decode cL_law 825 = .ok (.iload_n 3, 1) := by decide +kernel
theorem dL_law_826 : decode cL_law 826 = .ok (.iconst 1, 1) := by decide +kernel
theorem dL_law_827 : decode cL_law 827 = .ok (.iadd, 1) := by decide +kernel
theorem dL_law_828 : decode cL_law 828 = .ok (.iaload, 1) := by decide +kernel
theorem dL_law_829 : decode cL_law 829 = .ok (.invokevirtual 90, 3) := by decide +kernel
theorem mw_1118 : Cond.methodLink RL 90 yX11_back ∈ wsL_law := List.mem_of_getElem? (i := 1118) (by decide +kernel)
theorem mw_1119 : Cond.instanceMethod yX11_back ∈ wsL_law := List.mem_of_getElem? (i := 1119) (by decide +kernel)
theorem mw_1120 : Cond.selects RX11 yX11_back yX11_back ∈ wsL_law := List.mem_of_getElem? (i := 1120) (by decide +kernel)
theorem gV_L_90 : GoodIn wsL_law (wsV RL 90 RX11 yX11_back (wl yX11_back cX11_back 3 (some .int))) := g_V mw_1118 mw_1119 mw_1120 mw_2 mw_1121
theorem hdV_X11_back : yX11_back.cls = RX11 ∧ okD yX11_back 1 := by decide +kernel
theorem dL_law_832 : decode cL_law 832 = .ok (.aload_n 2, 1) := by decide +kernel
theorem dL_law_833 : decode cL_law 833 = .ok (.aload_n 0, 1) := by decide +kernel
theorem dL_law_834 : decode cL_law 834 = .ok (.iload_n 3, 1) := by decide +kernel
theorem dL_law_835 : decode cL_law 835 = .ok (.iconst 1, 1) := by decide +kernel
theorem dL_law_836 : decode cL_law 836 = .ok (.iadd, 1) := by decide +kernel
theorem dL_law_837 : decode cL_law 837 = .ok (.iaload, 1) := by decide +kernel
theorem dL_law_838 : decode cL_law 838 = .ok (.invokevirtual 93, 3) := by decide +kernel
theorem mw_1128 : Cond.methodLink RL 93 yX12_back ∈ wsL_law := List.mem_of_getElem? (i := 1128) (by decide +kernel)
theorem mw_1129 : Cond.instanceMethod yX12_back ∈ wsL_law := List.mem_of_getElem? (i := 1129) (by decide +kernel)
theorem mw_1130 : Cond.selects RX12 yX12_back yX12_back ∈ wsL_law := List.mem_of_getElem? (i := 1130) (by decide +kernel)
theorem gV_L_93 : GoodIn wsL_law (wsV RL 93 RX12 yX12_back (wl yX12_back cX12_back 2 (some .int))) := g_V mw_1128 mw_1129 mw_1130 mw_5 mw_1131
theorem hdV_X12_back : yX12_back.cls = RX12 ∧ okD yX12_back 1 := by decide +kernel
theorem dL_law_841 : decode cL_law 841 = .ok (.if_icmp .eq 781, 3) := by decide +kernel
theorem dL_law_846 : decode cL_law 846 = .ok (.aload_n 1, 1) := by decide +kernel
theorem dL_law_847 : decode cL_law 847 = .ok (.aload_n 0, 1) := by decide +kernel
theorem dL_law_848 : decode cL_law 848 = .ok (.iload_n 3, 1) := by decide +kernel
theorem dL_law_849 : decode cL_law 849 = .ok (.iconst 1, 1) := by decide +kernel
theorem dL_law_850 : decode cL_law 850 = .ok (.iadd, 1) := by decide +kernel
theorem dL_law_851 : decode cL_law 851 = .ok (.iaload, 1) := by decide +kernel
theorem dL_law_852 : decode cL_law 852 = .ok (.aload_n 0, 1) := by decide +kernel
theorem dL_law_853 : decode cL_law 853 = .ok (.iload_n 3, 1) := by decide +kernel
theorem dL_law_854 : decode cL_law 854 = .ok (.iconst 2, 1) := by decide +kernel
theorem dL_law_855 : decode cL_law 855 = .ok (.iadd, 1) := by decide +kernel
theorem dL_law_856 : decode cL_law 856 = .ok (.iaload, 1) := by decide +kernel
theorem dL_law_857 : decode cL_law 857 = .ok (.invokevirtual 94, 3) := by decide +kernel
theorem mw_1132 : Cond.methodLink RL 94 yX11_view ∈ wsL_law := List.mem_of_getElem? (i := 1132) (by decide +kernel)
theorem mw_1133 : Cond.instanceMethod yX11_view ∈ wsL_law := List.mem_of_getElem? (i := 1133) (by decide +kernel)
theorem mw_1134 : Cond.selects RX11 yX11_view yX11_view ∈ wsL_law := List.mem_of_getElem? (i := 1134) (by decide +kernel)
theorem gV_L_94 : GoodIn wsL_law (wsV RL 94 RX11 yX11_view (wl yX11_view cX11_view 4 (some .int))) := g_V mw_1132 mw_1133 mw_1134 mw_2 mw_1135
theorem hdV_X11_view : yX11_view.cls = RX11 ∧ okD yX11_view 2 := by decide +kernel
theorem dL_law_860 : decode cL_law 860 = .ok (.aload_n 2, 1) := by decide +kernel
theorem dL_law_861 : decode cL_law 861 = .ok (.aload_n 0, 1) := by decide +kernel
theorem dL_law_862 : decode cL_law 862 = .ok (.iload_n 3, 1) := by decide +kernel
theorem dL_law_863 : decode cL_law 863 = .ok (.iconst 1, 1) := by decide +kernel
theorem dL_law_864 : decode cL_law 864 = .ok (.iadd, 1) := by decide +kernel
theorem dL_law_865 : decode cL_law 865 = .ok (.iaload, 1) := by decide +kernel
theorem dL_law_866 : decode cL_law 866 = .ok (.aload_n 0, 1) := by decide +kernel
theorem dL_law_867 : decode cL_law 867 = .ok (.iload_n 3, 1) := by decide +kernel
theorem dL_law_868 : decode cL_law 868 = .ok (.iconst 2, 1) := by decide +kernel
theorem dL_law_869 : decode cL_law 869 = .ok (.iadd, 1) := by decide +kernel
theorem dL_law_870 : decode cL_law 870 = .ok (.iaload, 1) := by decide +kernel
theorem dL_law_871 : decode cL_law 871 = .ok (.invokevirtual 97, 3) := by decide +kernel
theorem mw_1136 : Cond.methodLink RL 97 yX12_view ∈ wsL_law := List.mem_of_getElem? (i := 1136) (by decide +kernel)
theorem mw_1137 : Cond.instanceMethod yX12_view ∈ wsL_law := List.mem_of_getElem? (i := 1137) (by decide +kernel)
theorem mw_1138 : Cond.selects RX12 yX12_view yX12_view ∈ wsL_law := List.mem_of_getElem? (i := 1138) (by decide +kernel)
theorem gV_L_97 : GoodIn wsL_law (wsV RL 97 RX12 yX12_view (wl yX12_view cX12_view 3 (some .int))) := g_V mw_1136 mw_1137 mw_1138 mw_5 mw_1139
theorem hdV_X12_view : yX12_view.cls = RX12 ∧ okD yX12_view 2 := by decide +kernel
theorem dL_law_874 : decode cL_law 874 = .ok (.if_icmp .eq 748, 3) := by decide +kernel
theorem dL_law_879 : decode cL_law 879 = .ok (.aload_n 1, 1) := by decide +kernel
theorem dL_law_880 : decode cL_law 880 = .ok (.aload_n 0, 1) := by decide +kernel
theorem dL_law_881 : decode cL_law 881 = .ok (.iload_n 3, 1) := by decide +kernel
theorem dL_law_882 : decode cL_law 882 = .ok (.iconst 1, 1) := by decide +kernel
theorem dL_law_883 : decode cL_law 883 = .ok (.iadd, 1) := by decide +kernel
theorem dL_law_884 : decode cL_law 884 = .ok (.iaload, 1) := by decide +kernel
theorem dL_law_885 : decode cL_law 885 = .ok (.aload_n 0, 1) := by decide +kernel
theorem dL_law_886 : decode cL_law 886 = .ok (.iload_n 3, 1) := by decide +kernel
theorem dL_law_887 : decode cL_law 887 = .ok (.iconst 2, 1) := by decide +kernel
theorem dL_law_888 : decode cL_law 888 = .ok (.iadd, 1) := by decide +kernel
theorem dL_law_889 : decode cL_law 889 = .ok (.iaload, 1) := by decide +kernel
theorem dL_law_890 : decode cL_law 890 = .ok (.invokevirtual 98, 3) := by decide +kernel
theorem mw_1140 : Cond.methodLink RL 98 yX11_table ∈ wsL_law := List.mem_of_getElem? (i := 1140) (by decide +kernel)
theorem mw_1141 : Cond.instanceMethod yX11_table ∈ wsL_law := List.mem_of_getElem? (i := 1141) (by decide +kernel)
theorem mw_1142 : Cond.selects RX11 yX11_table yX11_table ∈ wsL_law := List.mem_of_getElem? (i := 1142) (by decide +kernel)
theorem gV_L_98 : GoodIn wsL_law (wsV RL 98 RX11 yX11_table (wl yX11_table cX11_table 5 (some .int))) := g_V mw_1140 mw_1141 mw_1142 mw_2 mw_1143
theorem hdV_X11_table : yX11_table.cls = RX11 ∧ okD yX11_table 2 := by decide +kernel
theorem dL_law_893 : decode cL_law 893 = .ok (.aload_n 2, 1) := by decide +kernel
theorem dL_law_894 : decode cL_law 894 = .ok (.aload_n 0, 1) := by decide +kernel
theorem dL_law_895 : decode cL_law 895 = .ok (.iload_n 3, 1) := by decide +kernel
theorem dL_law_896 : decode cL_law 896 = .ok (.iconst 1, 1) := by decide +kernel
theorem dL_law_897 : decode cL_law 897 = .ok (.iadd, 1) := by decide +kernel
theorem dL_law_898 : decode cL_law 898 = .ok (.iaload, 1) := by decide +kernel
theorem dL_law_899 : decode cL_law 899 = .ok (.aload_n 0, 1) := by decide +kernel
theorem dL_law_900 : decode cL_law 900 = .ok (.iload_n 3, 1) := by decide +kernel
theorem dL_law_901 : decode cL_law 901 = .ok (.iconst 2, 1) := by decide +kernel
theorem dL_law_902 : decode cL_law 902 = .ok (.iadd, 1) := by decide +kernel
theorem dL_law_903 : decode cL_law 903 = .ok (.iaload, 1) := by decide +kernel
theorem dL_law_904 : decode cL_law 904 = .ok (.invokevirtual 101, 3) := by decide +kernel
theorem mw_1149 : Cond.methodLink RL 101 yX12_table ∈ wsL_law := List.mem_of_getElem? (i := 1149) (by decide +kernel)
theorem mw_1150 : Cond.instanceMethod yX12_table ∈ wsL_law := List.mem_of_getElem? (i := 1150) (by decide +kernel)
theorem mw_1151 : Cond.selects RX12 yX12_table yX12_table ∈ wsL_law := List.mem_of_getElem? (i := 1151) (by decide +kernel)
theorem gV_L_101 : GoodIn wsL_law (wsV RL 101 RX12 yX12_table (wl yX12_table cX12_table 3 (some .int))) := g_V mw_1149 mw_1150 mw_1151 mw_5 mw_1152
theorem hdV_X12_table : yX12_table.cls = RX12 ∧ okD yX12_table 2 := by decide +kernel
theorem dL_law_907 : decode cL_law 907 = .ok (.if_icmp .eq 715, 3) := by decide +kernel
theorem dL_law_912 : decode cL_law 912 = .ok (.aload_n 1, 1) := by decide +kernel
theorem dL_law_913 : decode cL_law 913 = .ok (.aload_n 0, 1) := by decide +kernel
theorem dL_law_914 : decode cL_law 914 = .ok (.iload_n 3, 1) := by decide +kernel
theorem dL_law_915 : decode cL_law 915 = .ok (.iconst 1, 1) := by decide +kernel
theorem dL_law_916 : decode cL_law 916 = .ok (.iadd, 1) := by decide +kernel
theorem dL_law_917 : decode cL_law 917 = .ok (.iaload, 1) := by decide +kernel
theorem dL_law_918 : decode cL_law 918 = .ok (.aload_n 0, 1) := by decide +kernel
theorem dL_law_919 : decode cL_law 919 = .ok (.iload_n 3, 1) := by decide +kernel
theorem dL_law_920 : decode cL_law 920 = .ok (.iconst 2, 1) := by decide +kernel
theorem dL_law_921 : decode cL_law 921 = .ok (.iadd, 1) := by decide +kernel
theorem dL_law_922 : decode cL_law 922 = .ok (.iaload, 1) := by decide +kernel
theorem dL_law_923 : decode cL_law 923 = .ok (.aload_n 0, 1) := by decide +kernel
theorem dL_law_924 : decode cL_law 924 = .ok (.iload_n 3, 1) := by decide +kernel
theorem dL_law_925 : decode cL_law 925 = .ok (.iconst 3, 1) := by decide +kernel
theorem dL_law_926 : decode cL_law 926 = .ok (.iadd, 1) := by decide +kernel
theorem dL_law_927 : decode cL_law 927 = .ok (.iaload, 1) := by decide +kernel
theorem dL_law_928 : decode cL_law 928 = .ok (.invokevirtual 102, 3) := by decide +kernel
theorem mw_1157 : Cond.methodLink RL 102 yX11_column ∈ wsL_law := List.mem_of_getElem? (i := 1157) (by decide +kernel)
theorem mw_1158 : Cond.instanceMethod yX11_column ∈ wsL_law := List.mem_of_getElem? (i := 1158) (by decide +kernel)
theorem mw_1159 : Cond.selects RX11 yX11_column yX11_column ∈ wsL_law := List.mem_of_getElem? (i := 1159) (by decide +kernel)
theorem gV_L_102 : GoodIn wsL_law (wsV RL 102 RX11 yX11_column (wl yX11_column cX11_column 5 (some .int))) := g_V mw_1157 mw_1158 mw_1159 mw_2 mw_1160
theorem hdV_X11_column : yX11_column.cls = RX11 ∧ okD yX11_column 3 := by decide +kernel
theorem dL_law_931 : decode cL_law 931 = .ok (.aload_n 2, 1) := by decide +kernel
theorem dL_law_932 : decode cL_law 932 = .ok (.aload_n 0, 1) := by decide +kernel
theorem dL_law_933 : decode cL_law 933 = .ok (.iload_n 3, 1) := by decide +kernel
theorem dL_law_934 : decode cL_law 934 = .ok (.iconst 1, 1) := by decide +kernel
theorem dL_law_935 : decode cL_law 935 = .ok (.iadd, 1) := by decide +kernel
theorem dL_law_936 : decode cL_law 936 = .ok (.iaload, 1) := by decide +kernel
theorem dL_law_937 : decode cL_law 937 = .ok (.aload_n 0, 1) := by decide +kernel
theorem dL_law_938 : decode cL_law 938 = .ok (.iload_n 3, 1) := by decide +kernel
theorem dL_law_939 : decode cL_law 939 = .ok (.iconst 2, 1) := by decide +kernel
theorem dL_law_940 : decode cL_law 940 = .ok (.iadd, 1) := by decide +kernel
theorem dL_law_941 : decode cL_law 941 = .ok (.iaload, 1) := by decide +kernel
theorem dL_law_942 : decode cL_law 942 = .ok (.aload_n 0, 1) := by decide +kernel
theorem dL_law_943 : decode cL_law 943 = .ok (.iload_n 3, 1) := by decide +kernel
theorem dL_law_944 : decode cL_law 944 = .ok (.iconst 3, 1) := by decide +kernel
theorem dL_law_945 : decode cL_law 945 = .ok (.iadd, 1) := by decide +kernel
theorem dL_law_946 : decode cL_law 946 = .ok (.iaload, 1) := by decide +kernel
theorem dL_law_947 : decode cL_law 947 = .ok (.invokevirtual 105, 3) := by decide +kernel
theorem mw_1176 : Cond.methodLink RL 105 yX12_column ∈ wsL_law := List.mem_of_getElem? (i := 1176) (by decide +kernel)
theorem mw_1177 : Cond.instanceMethod yX12_column ∈ wsL_law := List.mem_of_getElem? (i := 1177) (by decide +kernel)
theorem mw_1178 : Cond.selects RX12 yX12_column yX12_column ∈ wsL_law := List.mem_of_getElem? (i := 1178) (by decide +kernel)
theorem gV_L_105 : GoodIn wsL_law (wsV RL 105 RX12 yX12_column (wl yX12_column cX12_column 5 (some .int))) := g_V mw_1176 mw_1177 mw_1178 mw_5 mw_1179
theorem hdV_X12_column : yX12_column.cls = RX12 ∧ okD yX12_column 3 := by decide +kernel
theorem dL_law_950 : decode cL_law 950 = .ok (.if_icmp .eq 672, 3) := by decide +kernel
theorem dL_law_955 : decode cL_law 955 = .ok (.aload_n 1, 1) := by decide +kernel
theorem dL_law_956 : decode cL_law 956 = .ok (.aload_n 0, 1) := by decide +kernel
theorem dL_law_957 : decode cL_law 957 = .ok (.iload_n 3, 1) := by decide +kernel
theorem dL_law_958 : decode cL_law 958 = .ok (.iconst 1, 1) := by decide +kernel
theorem dL_law_959 : decode cL_law 959 = .ok (.iadd, 1) := by decide +kernel
theorem dL_law_960 : decode cL_law 960 = .ok (.iaload, 1) := by decide +kernel
theorem dL_law_961 : decode cL_law 961 = .ok (.aload_n 0, 1) := by decide +kernel
theorem dL_law_962 : decode cL_law 962 = .ok (.iload_n 3, 1) := by decide +kernel
theorem dL_law_963 : decode cL_law 963 = .ok (.iconst 2, 1) := by decide +kernel
theorem dL_law_964 : decode cL_law 964 = .ok (.iadd, 1) := by decide +kernel
theorem dL_law_965 : decode cL_law 965 = .ok (.iaload, 1) := by decide +kernel
theorem dL_law_966 : decode cL_law 966 = .ok (.aload_n 0, 1) := by decide +kernel
theorem dL_law_967 : decode cL_law 967 = .ok (.iload_n 3, 1) := by decide +kernel
theorem dL_law_968 : decode cL_law 968 = .ok (.iconst 3, 1) := by decide +kernel
theorem dL_law_969 : decode cL_law 969 = .ok (.iadd, 1) := by decide +kernel
theorem dL_law_970 : decode cL_law 970 = .ok (.iaload, 1) := by decide +kernel
theorem dL_law_971 : decode cL_law 971 = .ok (.invokevirtual 106, 3) := by decide +kernel
theorem mw_1188 : Cond.methodLink RL 106 yX11_nameAt ∈ wsL_law := List.mem_of_getElem? (i := 1188) (by decide +kernel)
theorem mw_1189 : Cond.instanceMethod yX11_nameAt ∈ wsL_law := List.mem_of_getElem? (i := 1189) (by decide +kernel)
theorem mw_1190 : Cond.selects RX11 yX11_nameAt yX11_nameAt ∈ wsL_law := List.mem_of_getElem? (i := 1190) (by decide +kernel)
theorem gV_L_106 : GoodIn wsL_law (wsV RL 106 RX11 yX11_nameAt (wl yX11_nameAt cX11_nameAt 6 (some .int))) := g_V mw_1188 mw_1189 mw_1190 mw_2 mw_1191
theorem hdV_X11_nameAt : yX11_nameAt.cls = RX11 ∧ okD yX11_nameAt 3 := by decide +kernel
theorem dL_law_974 : decode cL_law 974 = .ok (.aload_n 2, 1) := by decide +kernel
theorem dL_law_975 : decode cL_law 975 = .ok (.aload_n 0, 1) := by decide +kernel
theorem dL_law_976 : decode cL_law 976 = .ok (.iload_n 3, 1) := by decide +kernel
theorem dL_law_977 : decode cL_law 977 = .ok (.iconst 1, 1) := by decide +kernel
theorem dL_law_978 : decode cL_law 978 = .ok (.iadd, 1) := by decide +kernel
theorem dL_law_979 : decode cL_law 979 = .ok (.iaload, 1) := by decide +kernel
theorem dL_law_980 : decode cL_law 980 = .ok (.aload_n 0, 1) := by decide +kernel
theorem dL_law_981 : decode cL_law 981 = .ok (.iload_n 3, 1) := by decide +kernel
theorem dL_law_982 : decode cL_law 982 = .ok (.iconst 2, 1) := by decide +kernel
theorem dL_law_983 : decode cL_law 983 = .ok (.iadd, 1) := by decide +kernel
theorem dL_law_984 : decode cL_law 984 = .ok (.iaload, 1) := by decide +kernel
theorem dL_law_985 : decode cL_law 985 = .ok (.aload_n 0, 1) := by decide +kernel
theorem dL_law_986 : decode cL_law 986 = .ok (.iload_n 3, 1) := by decide +kernel
theorem dL_law_987 : decode cL_law 987 = .ok (.iconst 3, 1) := by decide +kernel
theorem dL_law_988 : decode cL_law 988 = .ok (.iadd, 1) := by decide +kernel
theorem dL_law_989 : decode cL_law 989 = .ok (.iaload, 1) := by decide +kernel
theorem dL_law_990 : decode cL_law 990 = .ok (.invokevirtual 109, 3) := by decide +kernel
theorem mw_1192 : Cond.methodLink RL 109 yX12_nameAt_ ∈ wsL_law := List.mem_of_getElem? (i := 1192) (by decide +kernel)
theorem mw_1193 : Cond.instanceMethod yX12_nameAt_ ∈ wsL_law := List.mem_of_getElem? (i := 1193) (by decide +kernel)
theorem mw_1194 : Cond.selects RX12 yX12_nameAt_ yX12_nameAt_ ∈ wsL_law := List.mem_of_getElem? (i := 1194) (by decide +kernel)
theorem gV_L_109 : GoodIn wsL_law (wsV RL 109 RX12 yX12_nameAt_ (wl yX12_nameAt_ cX12_nameAt_ 4 (some .int))) := g_V mw_1192 mw_1193 mw_1194 mw_5 mw_1195
theorem hdV_X12_nameAt_ : yX12_nameAt_.cls = RX12 ∧ okD yX12_nameAt_ 3 := by decide +kernel
theorem dL_law_993 : decode cL_law 993 = .ok (.if_icmp .eq 629, 3) := by decide +kernel
theorem dL_law_998 : decode cL_law 998 = .ok (.aload_n 1, 1) := by decide +kernel
theorem dL_law_999 : decode cL_law 999 = .ok (.aload_n 0, 1) := by decide +kernel
theorem dL_law_1000 : decode cL_law 1000 = .ok (.iload_n 3, 1) := by decide +kernel
theorem dL_law_1001 : decode cL_law 1001 = .ok (.iconst 1, 1) := by decide +kernel
theorem dL_law_1002 : decode cL_law 1002 = .ok (.iadd, 1) := by decide +kernel
theorem dL_law_1003 : decode cL_law 1003 = .ok (.iaload, 1) := by decide +kernel
theorem dL_law_1004 : decode cL_law 1004 = .ok (.invokevirtual 110, 3) := by decide +kernel
theorem mw_1196 : Cond.methodLink RL 110 yX11_find ∈ wsL_law := List.mem_of_getElem? (i := 1196) (by decide +kernel)
theorem mw_1197 : Cond.instanceMethod yX11_find ∈ wsL_law := List.mem_of_getElem? (i := 1197) (by decide +kernel)
theorem mw_1198 : Cond.selects RX11 yX11_find yX11_find ∈ wsL_law := List.mem_of_getElem? (i := 1198) (by decide +kernel)
theorem gV_L_110 : GoodIn wsL_law (wsV RL 110 RX11 yX11_find (wl yX11_find cX11_find 4 (some .int))) := g_V mw_1196 mw_1197 mw_1198 mw_2 mw_1199
theorem hdV_X11_find : yX11_find.cls = RX11 ∧ okD yX11_find 1 := by decide +kernel
theorem dL_law_1007 : decode cL_law 1007 = .ok (.aload_n 2, 1) := by decide +kernel
theorem dL_law_1008 : decode cL_law 1008 = .ok (.aload_n 0, 1) := by decide +kernel
theorem dL_law_1009 : decode cL_law 1009 = .ok (.iload_n 3, 1) := by decide +kernel
theorem dL_law_1010 : decode cL_law 1010 = .ok (.iconst 1, 1) := by decide +kernel
theorem dL_law_1011 : decode cL_law 1011 = .ok (.iadd, 1) := by decide +kernel
theorem dL_law_1012 : decode cL_law 1012 = .ok (.iaload, 1) := by decide +kernel
theorem dL_law_1013 : decode cL_law 1013 = .ok (.invokevirtual 113, 3) := by decide +kernel
theorem mw_1200 : Cond.methodLink RL 113 yX12_find ∈ wsL_law := List.mem_of_getElem? (i := 1200) (by decide +kernel)
theorem mw_1201 : Cond.instanceMethod yX12_find ∈ wsL_law := List.mem_of_getElem? (i := 1201) (by decide +kernel)
theorem mw_1202 : Cond.selects RX12 yX12_find yX12_find ∈ wsL_law := List.mem_of_getElem? (i := 1202) (by decide +kernel)
theorem gV_L_113 : GoodIn wsL_law (wsV RL 113 RX12 yX12_find (wl yX12_find cX12_find 2 (some .int))) := g_V mw_1200 mw_1201 mw_1202 mw_5 mw_1203
theorem hdV_X12_find : yX12_find.cls = RX12 ∧ okD yX12_find 1 := by decide +kernel
theorem dL_law_1016 : decode cL_law 1016 = .ok (.if_icmp .eq 606, 3) := by decide +kernel
theorem dL_law_1021 : decode cL_law 1021 = .ok (.aload_n 1, 1) := by decide +kernel
theorem dL_law_1022 : decode cL_law 1022 = .ok (.aload_n 0, 1) := by decide +kernel
theorem dL_law_1023 : decode cL_law 1023 = .ok (.iload_n 3, 1) := by decide +kernel
theorem dL_law_1024 : decode cL_law 1024 = .ok (.iconst 1, 1) := by decide +kernel
theorem dL_law_1025 : decode cL_law 1025 = .ok (.iadd, 1) := by decide +kernel
theorem dL_law_1026 : decode cL_law 1026 = .ok (.iaload, 1) := by decide +kernel
theorem dL_law_1027 : decode cL_law 1027 = .ok (.aload_n 0, 1) := by decide +kernel
theorem dL_law_1028 : decode cL_law 1028 = .ok (.iload_n 3, 1) := by decide +kernel
theorem dL_law_1029 : decode cL_law 1029 = .ok (.iconst 2, 1) := by decide +kernel
theorem dL_law_1030 : decode cL_law 1030 = .ok (.iadd, 1) := by decide +kernel
theorem dL_law_1031 : decode cL_law 1031 = .ok (.iaload, 1) := by decide +kernel
theorem dL_law_1032 : decode cL_law 1032 = .ok (.aload_n 0, 1) := by decide +kernel
theorem dL_law_1033 : decode cL_law 1033 = .ok (.iload_n 3, 1) := by decide +kernel
theorem dL_law_1034 : decode cL_law 1034 = .ok (.iconst 3, 1) := by decide +kernel
theorem dL_law_1035 : decode cL_law 1035 = .ok (.iadd, 1) := by decide +kernel
theorem dL_law_1036 : decode cL_law 1036 = .ok (.iaload, 1) := by decide +kernel
theorem dL_law_1037 : decode cL_law 1037 = .ok (.aload_n 0, 1) := by decide +kernel
theorem dL_law_1038 : decode cL_law 1038 = .ok (.iload_n 3, 1) := by decide +kernel
theorem dL_law_1039 : decode cL_law 1039 = .ok (.iconst 4, 1) := by decide +kernel
theorem dL_law_1040 : decode cL_law 1040 = .ok (.iadd, 1) := by decide +kernel
theorem dL_law_1041 : decode cL_law 1041 = .ok (.iaload, 1) := by decide +kernel
theorem dL_law_1042 : decode cL_law 1042 = .ok (.invokevirtual 114, 3) := by decide +kernel
theorem mw_1204 : Cond.methodLink RL 114 yX11_proof ∈ wsL_law := List.mem_of_getElem? (i := 1204) (by decide +kernel)
theorem mw_1205 : Cond.instanceMethod yX11_proof ∈ wsL_law := List.mem_of_getElem? (i := 1205) (by decide +kernel)
theorem mw_1206 : Cond.selects RX11 yX11_proof yX11_proof ∈ wsL_law := List.mem_of_getElem? (i := 1206) (by decide +kernel)
theorem gV_L_114 : GoodIn wsL_law (wsV RL 114 RX11 yX11_proof (wl yX11_proof cX11_proof 7 (some .int))) := g_V mw_1204 mw_1205 mw_1206 mw_2 mw_1207
theorem hdV_X11_proof : yX11_proof.cls = RX11 ∧ okD yX11_proof 4 := by decide +kernel
theorem dL_law_1045 : decode cL_law 1045 = .ok (.aload_n 2, 1) := by decide +kernel
theorem dL_law_1046 : decode cL_law 1046 = .ok (.aload_n 0, 1) := by decide +kernel
theorem dL_law_1047 : decode cL_law 1047 = .ok (.iload_n 3, 1) := by decide +kernel
theorem dL_law_1048 : decode cL_law 1048 = .ok (.iconst 1, 1) := by decide +kernel
theorem dL_law_1049 : decode cL_law 1049 = .ok (.iadd, 1) := by decide +kernel
theorem dL_law_1050 : decode cL_law 1050 = .ok (.iaload, 1) := by decide +kernel
theorem dL_law_1051 : decode cL_law 1051 = .ok (.aload_n 0, 1) := by decide +kernel
theorem dL_law_1052 : decode cL_law 1052 = .ok (.iload_n 3, 1) := by decide +kernel
theorem dL_law_1053 : decode cL_law 1053 = .ok (.iconst 2, 1) := by decide +kernel
theorem dL_law_1054 : decode cL_law 1054 = .ok (.iadd, 1) := by decide +kernel
theorem dL_law_1055 : decode cL_law 1055 = .ok (.iaload, 1) := by decide +kernel
theorem dL_law_1056 : decode cL_law 1056 = .ok (.aload_n 0, 1) := by decide +kernel
theorem dL_law_1057 : decode cL_law 1057 = .ok (.iload_n 3, 1) := by decide +kernel
theorem dL_law_1058 : decode cL_law 1058 = .ok (.iconst 3, 1) := by decide +kernel
theorem dL_law_1059 : decode cL_law 1059 = .ok (.iadd, 1) := by decide +kernel
theorem dL_law_1060 : decode cL_law 1060 = .ok (.iaload, 1) := by decide +kernel
theorem dL_law_1061 : decode cL_law 1061 = .ok (.aload_n 0, 1) := by decide +kernel
theorem dL_law_1062 : decode cL_law 1062 = .ok (.iload_n 3, 1) := by decide +kernel
theorem dL_law_1063 : decode cL_law 1063 = .ok (.iconst 4, 1) := by decide +kernel
theorem dL_law_1064 : decode cL_law 1064 = .ok (.iadd, 1) := by decide +kernel
theorem dL_law_1065 : decode cL_law 1065 = .ok (.iaload, 1) := by decide +kernel
theorem dL_law_1066 : decode cL_law 1066 = .ok (.invokevirtual 118, 3) := by decide +kernel
theorem mw_1209 : Cond.methodLink RL 118 yX12_proof ∈ wsL_law := List.mem_of_getElem? (i := 1209) (by decide +kernel)
theorem mw_1210 : Cond.instanceMethod yX12_proof ∈ wsL_law := List.mem_of_getElem? (i := 1210) (by decide +kernel)
theorem mw_1211 : Cond.selects RX12 yX12_proof yX12_proof ∈ wsL_law := List.mem_of_getElem? (i := 1211) (by decide +kernel)
theorem gV_L_118 : GoodIn wsL_law (wsV RL 118 RX12 yX12_proof (wl yX12_proof cX12_proof 5 (some .int))) := g_V mw_1209 mw_1210 mw_1211 mw_5 mw_1212
theorem hdV_X12_proof : yX12_proof.cls = RX12 ∧ okD yX12_proof 4 := by decide +kernel
theorem dL_law_1069 : decode cL_law 1069 = .ok (.if_icmp .eq 553, 3) := by decide +kernel
theorem dL_law_1074 : decode cL_law 1074 = .ok (.aload_n 1, 1) := by decide +kernel
theorem dL_law_1075 : decode cL_law 1075 = .ok (.aload_n 0, 1) := by decide +kernel
theorem dL_law_1076 : decode cL_law 1076 = .ok (.iload_n 3, 1) := by decide +kernel
theorem dL_law_1077 : decode cL_law 1077 = .ok (.iconst 1, 1) := by decide +kernel
theorem dL_law_1078 : decode cL_law 1078 = .ok (.iadd, 1) := by decide +kernel
theorem dL_law_1079 : decode cL_law 1079 = .ok (.iaload, 1) := by decide +kernel
theorem dL_law_1080 : decode cL_law 1080 = .ok (.aload_n 0, 1) := by decide +kernel
theorem dL_law_1081 : decode cL_law 1081 = .ok (.iload_n 3, 1) := by decide +kernel
theorem dL_law_1082 : decode cL_law 1082 = .ok (.iconst 2, 1) := by decide +kernel
theorem dL_law_1083 : decode cL_law 1083 = .ok (.iadd, 1) := by decide +kernel
theorem dL_law_1084 : decode cL_law 1084 = .ok (.iaload, 1) := by decide +kernel
theorem dL_law_1085 : decode cL_law 1085 = .ok (.aload_n 0, 1) := by decide +kernel
theorem dL_law_1086 : decode cL_law 1086 = .ok (.iload_n 3, 1) := by decide +kernel
theorem dL_law_1087 : decode cL_law 1087 = .ok (.iconst 3, 1) := by decide +kernel
theorem dL_law_1088 : decode cL_law 1088 = .ok (.iadd, 1) := by decide +kernel
theorem dL_law_1089 : decode cL_law 1089 = .ok (.iaload, 1) := by decide +kernel
theorem dL_law_1090 : decode cL_law 1090 = .ok (.invokevirtual 119, 3) := by decide +kernel
theorem mw_1213 : Cond.methodLink RL 119 yX11_against ∈ wsL_law := List.mem_of_getElem? (i := 1213) (by decide +kernel)
theorem mw_1214 : Cond.instanceMethod yX11_against ∈ wsL_law := List.mem_of_getElem? (i := 1214) (by decide +kernel)
theorem mw_1215 : Cond.selects RX11 yX11_against yX11_against ∈ wsL_law := List.mem_of_getElem? (i := 1215) (by decide +kernel)
theorem gV_L_119 : GoodIn wsL_law (wsV RL 119 RX11 yX11_against (wl yX11_against cX11_against 5 (some .int))) := g_V mw_1213 mw_1214 mw_1215 mw_2 mw_1216
theorem hdV_X11_against : yX11_against.cls = RX11 ∧ okD yX11_against 3 := by decide +kernel
theorem dL_law_1093 : decode cL_law 1093 = .ok (.aload_n 2, 1) := by decide +kernel
theorem dL_law_1094 : decode cL_law 1094 = .ok (.aload_n 0, 1) := by decide +kernel
theorem dL_law_1095 : decode cL_law 1095 = .ok (.iload_n 3, 1) := by decide +kernel
theorem dL_law_1096 : decode cL_law 1096 = .ok (.iconst 1, 1) := by decide +kernel
theorem dL_law_1097 : decode cL_law 1097 = .ok (.iadd, 1) := by decide +kernel
theorem dL_law_1098 : decode cL_law 1098 = .ok (.iaload, 1) := by decide +kernel
theorem dL_law_1099 : decode cL_law 1099 = .ok (.aload_n 0, 1) := by decide +kernel
theorem dL_law_1100 : decode cL_law 1100 = .ok (.iload_n 3, 1) := by decide +kernel
theorem dL_law_1101 : decode cL_law 1101 = .ok (.iconst 2, 1) := by decide +kernel
theorem dL_law_1102 : decode cL_law 1102 = .ok (.iadd, 1) := by decide +kernel
theorem dL_law_1103 : decode cL_law 1103 = .ok (.iaload, 1) := by decide +kernel
theorem dL_law_1104 : decode cL_law 1104 = .ok (.aload_n 0, 1) := by decide +kernel
theorem dL_law_1105 : decode cL_law 1105 = .ok (.iload_n 3, 1) := by decide +kernel
theorem dL_law_1106 : decode cL_law 1106 = .ok (.iconst 3, 1) := by decide +kernel
theorem dL_law_1107 : decode cL_law 1107 = .ok (.iadd, 1) := by decide +kernel
theorem dL_law_1108 : decode cL_law 1108 = .ok (.iaload, 1) := by decide +kernel
theorem dL_law_1109 : decode cL_law 1109 = .ok (.invokevirtual 122, 3) := by decide +kernel
theorem mw_1217 : Cond.methodLink RL 122 yX12_against ∈ wsL_law := List.mem_of_getElem? (i := 1217) (by decide +kernel)
theorem mw_1218 : Cond.instanceMethod yX12_against ∈ wsL_law := List.mem_of_getElem? (i := 1218) (by decide +kernel)
theorem mw_1219 : Cond.selects RX12 yX12_against yX12_against ∈ wsL_law := List.mem_of_getElem? (i := 1219) (by decide +kernel)
theorem gV_L_122 : GoodIn wsL_law (wsV RL 122 RX12 yX12_against (wl yX12_against cX12_against 4 (some .int))) := g_V mw_1217 mw_1218 mw_1219 mw_5 mw_1220
theorem hdV_X12_against : yX12_against.cls = RX12 ∧ okD yX12_against 3 := by decide +kernel
theorem dL_law_1112 : decode cL_law 1112 = .ok (.if_icmp .eq 510, 3) := by decide +kernel
theorem dL_law_1117 : decode cL_law 1117 = .ok (.aload_n 1, 1) := by decide +kernel
theorem dL_law_1118 : decode cL_law 1118 = .ok (.aload_n 0, 1) := by decide +kernel
theorem dL_law_1119 : decode cL_law 1119 = .ok (.iload_n 3, 1) := by decide +kernel
theorem dL_law_1120 : decode cL_law 1120 = .ok (.iconst 1, 1) := by decide +kernel
theorem dL_law_1121 : decode cL_law 1121 = .ok (.iadd, 1) := by decide +kernel
theorem dL_law_1122 : decode cL_law 1122 = .ok (.iaload, 1) := by decide +kernel
theorem dL_law_1123 : decode cL_law 1123 = .ok (.aload_n 0, 1) := by decide +kernel
theorem dL_law_1124 : decode cL_law 1124 = .ok (.iload_n 3, 1) := by decide +kernel
theorem dL_law_1125 : decode cL_law 1125 = .ok (.iconst 2, 1) := by decide +kernel
theorem dL_law_1126 : decode cL_law 1126 = .ok (.iadd, 1) := by decide +kernel
theorem dL_law_1127 : decode cL_law 1127 = .ok (.iaload, 1) := by decide +kernel
theorem dL_law_1128 : decode cL_law 1128 = .ok (.aload_n 0, 1) := by decide +kernel
theorem dL_law_1129 : decode cL_law 1129 = .ok (.iload_n 3, 1) := by decide +kernel
theorem dL_law_1130 : decode cL_law 1130 = .ok (.iconst 3, 1) := by decide +kernel
theorem dL_law_1131 : decode cL_law 1131 = .ok (.iadd, 1) := by decide +kernel
theorem dL_law_1132 : decode cL_law 1132 = .ok (.iaload, 1) := by decide +kernel
theorem dL_law_1133 : decode cL_law 1133 = .ok (.aload_n 0, 1) := by decide +kernel
theorem dL_law_1134 : decode cL_law 1134 = .ok (.iload_n 3, 1) := by decide +kernel
theorem dL_law_1135 : decode cL_law 1135 = .ok (.iconst 4, 1) := by decide +kernel
theorem dL_law_1136 : decode cL_law 1136 = .ok (.iadd, 1) := by decide +kernel
theorem dL_law_1137 : decode cL_law 1137 = .ok (.iaload, 1) := by decide +kernel
theorem dL_law_1138 : decode cL_law 1138 = .ok (.invokevirtual 123, 3) := by decide +kernel
theorem mw_1221 : Cond.methodLink RL 123 yX11_cell ∈ wsL_law := List.mem_of_getElem? (i := 1221) (by decide +kernel)
theorem mw_1222 : Cond.instanceMethod yX11_cell ∈ wsL_law := List.mem_of_getElem? (i := 1222) (by decide +kernel)
theorem mw_1223 : Cond.selects RX11 yX11_cell yX11_cell ∈ wsL_law := List.mem_of_getElem? (i := 1223) (by decide +kernel)
theorem gV_L_123 : GoodIn wsL_law (wsV RL 123 RX11 yX11_cell (wl yX11_cell cX11_cell 7 (some .int))) := g_V mw_1221 mw_1222 mw_1223 mw_2 mw_1224
theorem hdV_X11_cell : yX11_cell.cls = RX11 ∧ okD yX11_cell 4 := by decide +kernel
theorem dL_law_1141 : decode cL_law 1141 = .ok (.aload_n 2, 1) := by decide +kernel
theorem dL_law_1142 : decode cL_law 1142 = .ok (.aload_n 0, 1) := by decide +kernel
theorem dL_law_1143 : decode cL_law 1143 = .ok (.iload_n 3, 1) := by decide +kernel
theorem dL_law_1144 : decode cL_law 1144 = .ok (.iconst 1, 1) := by decide +kernel
theorem dL_law_1145 : decode cL_law 1145 = .ok (.iadd, 1) := by decide +kernel
theorem dL_law_1146 : decode cL_law 1146 = .ok (.iaload, 1) := by decide +kernel
theorem dL_law_1147 : decode cL_law 1147 = .ok (.aload_n 0, 1) := by decide +kernel
theorem dL_law_1148 : decode cL_law 1148 = .ok (.iload_n 3, 1) := by decide +kernel
theorem dL_law_1149 : decode cL_law 1149 = .ok (.iconst 2, 1) := by decide +kernel
theorem dL_law_1150 : decode cL_law 1150 = .ok (.iadd, 1) := by decide +kernel
theorem dL_law_1151 : decode cL_law 1151 = .ok (.iaload, 1) := by decide +kernel
theorem dL_law_1152 : decode cL_law 1152 = .ok (.aload_n 0, 1) := by decide +kernel
theorem dL_law_1153 : decode cL_law 1153 = .ok (.iload_n 3, 1) := by decide +kernel
theorem dL_law_1154 : decode cL_law 1154 = .ok (.iconst 3, 1) := by decide +kernel
theorem dL_law_1155 : decode cL_law 1155 = .ok (.iadd, 1) := by decide +kernel
theorem dL_law_1156 : decode cL_law 1156 = .ok (.iaload, 1) := by decide +kernel
theorem dL_law_1157 : decode cL_law 1157 = .ok (.aload_n 0, 1) := by decide +kernel
theorem dL_law_1158 : decode cL_law 1158 = .ok (.iload_n 3, 1) := by decide +kernel
theorem dL_law_1159 : decode cL_law 1159 = .ok (.iconst 4, 1) := by decide +kernel
theorem dL_law_1160 : decode cL_law 1160 = .ok (.iadd, 1) := by decide +kernel
theorem dL_law_1161 : decode cL_law 1161 = .ok (.iaload, 1) := by decide +kernel
theorem dL_law_1162 : decode cL_law 1162 = .ok (.invokevirtual 126, 3) := by decide +kernel
theorem mw_1232 : Cond.methodLink RL 126 yX12_cell ∈ wsL_law := List.mem_of_getElem? (i := 1232) (by decide +kernel)
theorem mw_1233 : Cond.instanceMethod yX12_cell ∈ wsL_law := List.mem_of_getElem? (i := 1233) (by decide +kernel)
theorem mw_1234 : Cond.selects RX12 yX12_cell yX12_cell ∈ wsL_law := List.mem_of_getElem? (i := 1234) (by decide +kernel)
theorem gV_L_126 : GoodIn wsL_law (wsV RL 126 RX12 yX12_cell (wl yX12_cell cX12_cell 5 (some .int))) := g_V mw_1232 mw_1233 mw_1234 mw_5 mw_1235
theorem hdV_X12_cell : yX12_cell.cls = RX12 ∧ okD yX12_cell 4 := by decide +kernel
theorem dL_law_1165 : decode cL_law 1165 = .ok (.if_icmp .eq 457, 3) := by decide +kernel
set_option maxHeartbeats 4000000 in
set_option maxRecDepth 100000 in
theorem law_case_13 {p : Program} {l : Launch} {e : Env} {s : State} {m : MethodId} {below : List Frame} {meth : Method} {c : Code} {D : va_G} {κ : Nat → ClassId} {b : Nat} {xs : Nat → Int32} (C0 : lw_At p s m meth c b 6 xs) (hKK : KK D κ s) {A : Nat → Prop} (hA : ∀ q : Nat, s.heap.size ≤ q → A q) (hAq : ∀ q : Nat, A q → s.heap.size ≤ q) (x0 n0 t0 f0 r0 w0 k0 n1 n2 n3 n4 n5 t1 b0 r1 r2 r3 r4 b1 w1 k1 k2 k3 k4 k5 m0 a0 a1 a2 a5 a14 a15 a16 a17 a20 a21 a23 a24 a25 a28 : Nat) {H : Heap} {locs : List Loc} {ls : Array Slot} (hP : va_P D vwCl [(x0, .inr (11, [.ref n0, .ref t0, .ref f0, .ref r0, .ref w0, .ref k0, .int 0])), (n0, .inr (6, [.ref n1, .ref n2, .ref n3, .ref n4, .ref n5, .int 0])), (n1, .inl (κ 0, 6, .inl dial0)), (n2, .inl (κ 4, 3, .inr (.inr (.inr (.inr (fun _ => none)))))), (n3, .inl (κ 5, 3, .inr (.inr (.inr (.inr (fun _ => none)))))), (n4, .inl (κ 0, 6, .inl (fun _ => 0))), (n5, .inl (κ 4, 6, .inr (.inr (.inr (.inr (fun _ => none)))))), (t0, .inr (8, [.ref t1, .int 0])), (t1, .inl (κ 0, 800, .inl (fun _ => 0))), (f0, .inr (2, [.int 0, .int (-1), .int (-1), .int (-1), .int (-1), .int 0])), (r0, .inr (4, [.ref t0, .ref n1, .ref f0, .ref b0, .int 0, .int (-1), .ref r1, .int 0, .ref r2, .ref r3, .int 0, .null, .ref r4, .int 0])), (b0, .inr (0, [.ref b1, .int 0, .long 0])), (b1, .inl (κ 1, 0, .inl (fun _ => 0))), (r1, .inl (κ 1, 20, .inl (fun _ => 0))), (r2, .inl (κ 2, 8, .inr (.inr (.inr (.inr (fun _ => none)))))), (r3, .inl (κ 0, 8, .inl (fun _ => 0))), (r4, .inl (κ 2, 320, .inr (.inr (.inr (.inr (fun _ => none)))))), (w0, .inr (10, [.ref n1, .ref w1, .int 0])), (w1, .inl (κ 1, 6000, .inl (fun _ => 0))), (k0, .inr (6, [.ref k1, .ref k2, .ref k3, .ref k4, .ref k5, .int 0])), (k1, .inl (κ 0, 6, .inl dial0)), (k2, .inl (κ 4, 3, .inr (.inr (.inr (.inr (fun _ => none)))))), (k3, .inl (κ 5, 3, .inr (.inr (.inr (.inr (fun _ => none)))))), (k4, .inl (κ 0, 6, .inl (fun _ => 0))), (k5, .inl (κ 4, 6, .inr (.inr (.inr (.inr (fun _ => none)))))), (m0, .inr (12, [.ref a0, .ref a1, .ref a2, .int 0, .int 0, .ref a5, .int 0, .int 0, .int (-1), .int (-1), .int 0, .int 0, .int 0, .int 0, .ref a14, .ref a15, .ref a16, .ref a17, .int 0, .int 0, .ref a20, .ref a21, .int 0, .ref a23, .ref a24, .ref a25, .int 0, .int 0, .ref a28, .int 0])), (a0, .inl (κ 0, 21375, .inl wf0)), (a1, .inl (κ 0, 21375, .inl (fun _ => 0))), (a2, .inl (κ 0, 128214, .inl (fun _ => 0))), (a5, .inl (κ 0, 800, .inl (fun _ => 0))), (a14, .inl (κ 0, 189, .inl (fun _ => 0))), (a15, .inl (κ 0, 9, .inl (fun _ => 0))), (a16, .inl (κ 0, 9, .inl (fun _ => 0))), (a17, .inl (κ 0, 7123, .inl (fun _ => 0))), (a20, .inl (κ 0, 801, .inl (fun _ => 0))), (a21, .inl (κ 0, 40, .inl (fun _ => 0))), (a23, .inl (κ 0, 40, .inl (fun _ => 0))), (a24, .inl (κ 0, 40, .inl (fun _ => 0))), (a25, .inl (κ 0, 6000, .inl (fun _ => 0))), (a28, .inl (κ 0, 400, .inl (fun _ => 0)))] H) (hD : va_D A [(x0, .inr (11, [.ref n0, .ref t0, .ref f0, .ref r0, .ref w0, .ref k0, .int 0])), (n0, .inr (6, [.ref n1, .ref n2, .ref n3, .ref n4, .ref n5, .int 0])), (n1, .inl (κ 0, 6, .inl dial0)), (n2, .inl (κ 4, 3, .inr (.inr (.inr (.inr (fun _ => none)))))), (n3, .inl (κ 5, 3, .inr (.inr (.inr (.inr (fun _ => none)))))), (n4, .inl (κ 0, 6, .inl (fun _ => 0))), (n5, .inl (κ 4, 6, .inr (.inr (.inr (.inr (fun _ => none)))))), (t0, .inr (8, [.ref t1, .int 0])), (t1, .inl (κ 0, 800, .inl (fun _ => 0))), (f0, .inr (2, [.int 0, .int (-1), .int (-1), .int (-1), .int (-1), .int 0])), (r0, .inr (4, [.ref t0, .ref n1, .ref f0, .ref b0, .int 0, .int (-1), .ref r1, .int 0, .ref r2, .ref r3, .int 0, .null, .ref r4, .int 0])), (b0, .inr (0, [.ref b1, .int 0, .long 0])), (b1, .inl (κ 1, 0, .inl (fun _ => 0))), (r1, .inl (κ 1, 20, .inl (fun _ => 0))), (r2, .inl (κ 2, 8, .inr (.inr (.inr (.inr (fun _ => none)))))), (r3, .inl (κ 0, 8, .inl (fun _ => 0))), (r4, .inl (κ 2, 320, .inr (.inr (.inr (.inr (fun _ => none)))))), (w0, .inr (10, [.ref n1, .ref w1, .int 0])), (w1, .inl (κ 1, 6000, .inl (fun _ => 0))), (k0, .inr (6, [.ref k1, .ref k2, .ref k3, .ref k4, .ref k5, .int 0])), (k1, .inl (κ 0, 6, .inl dial0)), (k2, .inl (κ 4, 3, .inr (.inr (.inr (.inr (fun _ => none)))))), (k3, .inl (κ 5, 3, .inr (.inr (.inr (.inr (fun _ => none)))))), (k4, .inl (κ 0, 6, .inl (fun _ => 0))), (k5, .inl (κ 4, 6, .inr (.inr (.inr (.inr (fun _ => none)))))), (m0, .inr (12, [.ref a0, .ref a1, .ref a2, .int 0, .int 0, .ref a5, .int 0, .int 0, .int (-1), .int (-1), .int 0, .int 0, .int 0, .int 0, .ref a14, .ref a15, .ref a16, .ref a17, .int 0, .int 0, .ref a20, .ref a21, .int 0, .ref a23, .ref a24, .ref a25, .int 0, .int 0, .ref a28, .int 0])), (a0, .inl (κ 0, 21375, .inl wf0)), (a1, .inl (κ 0, 21375, .inl (fun _ => 0))), (a2, .inl (κ 0, 128214, .inl (fun _ => 0))), (a5, .inl (κ 0, 800, .inl (fun _ => 0))), (a14, .inl (κ 0, 189, .inl (fun _ => 0))), (a15, .inl (κ 0, 9, .inl (fun _ => 0))), (a16, .inl (κ 0, 9, .inl (fun _ => 0))), (a17, .inl (κ 0, 7123, .inl (fun _ => 0))), (a20, .inl (κ 0, 801, .inl (fun _ => 0))), (a21, .inl (κ 0, 40, .inl (fun _ => 0))), (a23, .inl (κ 0, 40, .inl (fun _ => 0))), (a24, .inl (κ 0, 40, .inl (fun _ => 0))), (a25, .inl (κ 0, 6000, .inl (fun _ => 0))), (a28, .inl (κ 0, 400, .inl (fun _ => 0)))]) (hS : va_S A s.heap H locs) (hl : lv_has ls 4 [(3, .int 0), (2, .ref m0), (1, .ref x0), (0, .ref b)]) : W p l e room_1 s m #[Value.ref b] below meth c H locs 40 193696 (lw_Z below #[Value.ref b] s) (F0 m 645 ls []) := by
  obtain ⟨hx, hb, hr, hml, hown, hts0, hX, hbl, hlk, hgv⟩ := id C0
  have hb : c.code = cL_law := hb
  have hts : ∀ w ∈ wsL_law, w.before #[Value.ref b] s = true := fun w h => hts0 w (wsL_law_in w h)
  have hown : s.vm.findClass RL = some m.cls := hown
  have hK : va_K D vwCl (T0 κ) s := hKK.1
  have hbA : ¬ A b := fun h => absurd (hAq b h) (Nat.not_le.mpr hbl)
  have hFX : FX p s m #[Value.ref b] c cL_law 4 RL := ⟨hx, hb, hml, hown, hts⟩
  refine lv_aload_n hx hb dL_law_645 rfl (lv_at hl 2 rfl) ?_
  refine lv_aload_n hx hb dL_law_646 rfl (lv_at hl 3 rfl) ?_
  refine lv_iload_n hx hb dL_law_647 rfl (lv_at hl 0 rfl) ?_
  refine lv_iconst (v := 1) hx hb dL_law_648 (by decide) ?_
  refine lv_iadd hx hb dL_law_649 ?_
  refine ki (v := 1) (by decide) ?_
  refine va_sld hx hb hX hbl hbA hS (i := 1) (vp_k (by decide)) dL_law_650 ?_
  refine kv (v := .int (xs 1)) rfl ?_
  refine lv_aload_n hx hb dL_law_651 rfl (lv_at hl 3 rfl) ?_
  refine lv_iload_n hx hb dL_law_652 rfl (lv_at hl 0 rfl) ?_
  refine lv_iconst (v := 2) hx hb dL_law_653 (by decide) ?_
  refine lv_iadd hx hb dL_law_654 ?_
  refine ki (v := 2) (by decide) ?_
  refine va_sld hx hb hX hbl hbA hS (i := 2) (vp_k (by decide)) dL_law_655 ?_
  refine kv (v := .int (xs 2)) rfl ?_
  refine lv_aload_n hx hb dL_law_656 rfl (lv_at hl 3 rfl) ?_
  refine lv_iload_n hx hb dL_law_657 rfl (lv_at hl 0 rfl) ?_
  refine lv_iconst (v := 3) hx hb dL_law_658 (by decide) ?_
  refine lv_iadd hx hb dL_law_659 ?_
  refine ki (v := 3) (by decide) ?_
  refine va_sld hx hb hX hbl hbA hS (i := 3) (vp_k (by decide)) dL_law_660 ?_
  refine kv (v := .int (xs 3)) rfl ?_
  refine ct_V (wr := [(n1, .inl (κ 0, 6, .inl dial0)), (n4, .inl (κ 0, 6, .inl (fun _ => 0))), (n5, .inl (κ 4, 6, .inr (.inr (.inr (.inr (fun _ => none)))))), (f0, .inr (2, [.int 0, .int (-1), .int (-1), .int (-1), .int (-1), .int 0])), (r0, .inr (4, [.ref t0, .ref n1, .ref f0, .ref b0, .int 0, .int (-1), .ref r1, .int 0, .ref r2, .ref r3, .int 0, .null, .ref r4, .int 0])), (b0, .inr (0, [.ref b1, .int 0, .long 0])), (b1, .inl (κ 1, 0, .inl (fun _ => 0))), (r1, .inl (κ 1, 20, .inl (fun _ => 0))), (r2, .inl (κ 2, 8, .inr (.inr (.inr (.inr (fun _ => none)))))), (r3, .inl (κ 0, 8, .inl (fun _ => 0))), (r4, .inl (κ 2, 320, .inr (.inr (.inr (.inr (fun _ => none)))))), (w0, .inr (10, [.ref n1, .ref w1, .int 0])), (w1, .inl (κ 1, 6000, .inl (fun _ => 0))), (k0, .inr (6, [.ref k1, .ref k2, .ref k3, .ref k4, .ref k5, .int 0])), (k1, .inl (κ 0, 6, .inl dial0)), (k2, .inl (κ 4, 3, .inr (.inr (.inr (.inr (fun _ => none)))))), (k3, .inl (κ 5, 3, .inr (.inr (.inr (.inr (fun _ => none)))))), (k4, .inl (κ 0, 6, .inl (fun _ => 0))), (k5, .inl (κ 4, 6, .inr (.inr (.inr (.inr (fun _ => none)))))), (m0, .inr (12, [.ref a0, .ref a1, .ref a2, .int 0, .int 0, .ref a5, .int 0, .int 0, .int (-1), .int (-1), .int 0, .int 0, .int 0, .int 0, .ref a14, .ref a15, .ref a16, .ref a17, .int 0, .int 0, .ref a20, .ref a21, .int 0, .ref a23, .ref a24, .ref a25, .int 0, .int 0, .ref a28, .int 0])), (a0, .inl (κ 0, 21375, .inl wf0)), (a1, .inl (κ 0, 21375, .inl (fun _ => 0))), (a2, .inl (κ 0, 128214, .inl (fun _ => 0))), (a5, .inl (κ 0, 800, .inl (fun _ => 0))), (a14, .inl (κ 0, 189, .inl (fun _ => 0))), (a15, .inl (κ 0, 9, .inl (fun _ => 0))), (a16, .inl (κ 0, 9, .inl (fun _ => 0))), (a17, .inl (κ 0, 7123, .inl (fun _ => 0))), (a20, .inl (κ 0, 801, .inl (fun _ => 0))), (a21, .inl (κ 0, 40, .inl (fun _ => 0))), (a23, .inl (κ 0, 40, .inl (fun _ => 0))), (a24, .inl (κ 0, 40, .inl (fun _ => 0))), (a25, .inl (κ 0, 6000, .inl (fun _ => 0))), (a28, .inl (κ 0, 400, .inl (fun _ => 0)))]) (As := [.int (xs 1), .int (xs 2), .int (xs 3)]) (rest := []) hFX hKK hP hD hS hA (c_X11_narrow l D κ x0 n0 t0 f0 r0 w0 k0 n1 n2 n3 n4 n5 t1 (xs 1) (xs 2) (xs 3)) 3 gV_L_72 hdV_X11_narrow ⟨Nat.le_of_ble_eq_true rfl, Nat.le_of_ble_eq_true rfl⟩ rfl rfl (Nat.le_of_ble_eq_true rfl) dL_law_661 ⟨Nat.le_of_ble_eq_true rfl, Nat.le_of_ble_eq_true rfl⟩ hl.1 [0, 1, 3, 4, 7, 8] [2, 5, 6, 9, 10, 11, 12, 13, 14, 15, 16, 17, 18, 19, 20, 21, 22, 23, 24, 25, 26, 27, 28, 29, 30, 31, 32, 33, 34, 35, 36, 37, 38, 39] rfl rfl (by decide) (by decide) (by decide) 0 11 rfl rfl rfl trivial (fun _ H locs hp_1 _ hP hD hS hz_ hk_ => ?_)
  have hP : va_P D vwCl [(n1, .inl (κ 0, 6, .inl dial0)), (n4, .inl (κ 0, 6, .inl (fun _ => 0))), (n5, .inl (κ 4, 6, .inr (.inr (.inr (.inr (fun _ => none)))))), (f0, .inr (2, [.int 0, .int (-1), .int (-1), .int (-1), .int (-1), .int 0])), (r0, .inr (4, [.ref t0, .ref n1, .ref f0, .ref b0, .int 0, .int (-1), .ref r1, .int 0, .ref r2, .ref r3, .int 0, .null, .ref r4, .int 0])), (b0, .inr (0, [.ref b1, .int 0, .long 0])), (b1, .inl (κ 1, 0, .inl (fun _ => 0))), (r1, .inl (κ 1, 20, .inl (fun _ => 0))), (r2, .inl (κ 2, 8, .inr (.inr (.inr (.inr (fun _ => none)))))), (r3, .inl (κ 0, 8, .inl (fun _ => 0))), (r4, .inl (κ 2, 320, .inr (.inr (.inr (.inr (fun _ => none)))))), (w0, .inr (10, [.ref n1, .ref w1, .int 0])), (w1, .inl (κ 1, 6000, .inl (fun _ => 0))), (k0, .inr (6, [.ref k1, .ref k2, .ref k3, .ref k4, .ref k5, .int 0])), (k1, .inl (κ 0, 6, .inl dial0)), (k2, .inl (κ 4, 3, .inr (.inr (.inr (.inr (fun _ => none)))))), (k3, .inl (κ 5, 3, .inr (.inr (.inr (.inr (fun _ => none)))))), (k4, .inl (κ 0, 6, .inl (fun _ => 0))), (k5, .inl (κ 4, 6, .inr (.inr (.inr (.inr (fun _ => none)))))), (m0, .inr (12, [.ref a0, .ref a1, .ref a2, .int 0, .int 0, .ref a5, .int 0, .int 0, .int (-1), .int (-1), .int 0, .int 0, .int 0, .int 0, .ref a14, .ref a15, .ref a16, .ref a17, .int 0, .int 0, .ref a20, .ref a21, .int 0, .ref a23, .ref a24, .ref a25, .int 0, .int 0, .ref a28, .int 0])), (a0, .inl (κ 0, 21375, .inl wf0)), (a1, .inl (κ 0, 21375, .inl (fun _ => 0))), (a2, .inl (κ 0, 128214, .inl (fun _ => 0))), (a5, .inl (κ 0, 800, .inl (fun _ => 0))), (a14, .inl (κ 0, 189, .inl (fun _ => 0))), (a15, .inl (κ 0, 9, .inl (fun _ => 0))), (a16, .inl (κ 0, 9, .inl (fun _ => 0))), (a17, .inl (κ 0, 7123, .inl (fun _ => 0))), (a20, .inl (κ 0, 801, .inl (fun _ => 0))), (a21, .inl (κ 0, 40, .inl (fun _ => 0))), (a23, .inl (κ 0, 40, .inl (fun _ => 0))), (a24, .inl (κ 0, 40, .inl (fun _ => 0))), (a25, .inl (κ 0, 6000, .inl (fun _ => 0))), (a28, .inl (κ 0, 400, .inl (fun _ => 0)))] H := hP
  have hD : va_D A [(n1, .inl (κ 0, 6, .inl dial0)), (n4, .inl (κ 0, 6, .inl (fun _ => 0))), (n5, .inl (κ 4, 6, .inr (.inr (.inr (.inr (fun _ => none)))))), (f0, .inr (2, [.int 0, .int (-1), .int (-1), .int (-1), .int (-1), .int 0])), (r0, .inr (4, [.ref t0, .ref n1, .ref f0, .ref b0, .int 0, .int (-1), .ref r1, .int 0, .ref r2, .ref r3, .int 0, .null, .ref r4, .int 0])), (b0, .inr (0, [.ref b1, .int 0, .long 0])), (b1, .inl (κ 1, 0, .inl (fun _ => 0))), (r1, .inl (κ 1, 20, .inl (fun _ => 0))), (r2, .inl (κ 2, 8, .inr (.inr (.inr (.inr (fun _ => none)))))), (r3, .inl (κ 0, 8, .inl (fun _ => 0))), (r4, .inl (κ 2, 320, .inr (.inr (.inr (.inr (fun _ => none)))))), (w0, .inr (10, [.ref n1, .ref w1, .int 0])), (w1, .inl (κ 1, 6000, .inl (fun _ => 0))), (k0, .inr (6, [.ref k1, .ref k2, .ref k3, .ref k4, .ref k5, .int 0])), (k1, .inl (κ 0, 6, .inl dial0)), (k2, .inl (κ 4, 3, .inr (.inr (.inr (.inr (fun _ => none)))))), (k3, .inl (κ 5, 3, .inr (.inr (.inr (.inr (fun _ => none)))))), (k4, .inl (κ 0, 6, .inl (fun _ => 0))), (k5, .inl (κ 4, 6, .inr (.inr (.inr (.inr (fun _ => none)))))), (m0, .inr (12, [.ref a0, .ref a1, .ref a2, .int 0, .int 0, .ref a5, .int 0, .int 0, .int (-1), .int (-1), .int 0, .int 0, .int 0, .int 0, .ref a14, .ref a15, .ref a16, .ref a17, .int 0, .int 0, .ref a20, .ref a21, .int 0, .ref a23, .ref a24, .ref a25, .int 0, .int 0, .ref a28, .int 0])), (a0, .inl (κ 0, 21375, .inl wf0)), (a1, .inl (κ 0, 21375, .inl (fun _ => 0))), (a2, .inl (κ 0, 128214, .inl (fun _ => 0))), (a5, .inl (κ 0, 800, .inl (fun _ => 0))), (a14, .inl (κ 0, 189, .inl (fun _ => 0))), (a15, .inl (κ 0, 9, .inl (fun _ => 0))), (a16, .inl (κ 0, 9, .inl (fun _ => 0))), (a17, .inl (κ 0, 7123, .inl (fun _ => 0))), (a20, .inl (κ 0, 801, .inl (fun _ => 0))), (a21, .inl (κ 0, 40, .inl (fun _ => 0))), (a23, .inl (κ 0, 40, .inl (fun _ => 0))), (a24, .inl (κ 0, 40, .inl (fun _ => 0))), (a25, .inl (κ 0, 6000, .inl (fun _ => 0))), (a28, .inl (κ 0, 400, .inl (fun _ => 0)))] := hD
  refine W.eq (g2 := F0 m 664 ls [.int (-1)]) rfl ?_
  refine lv_aload_n hx hb dL_law_664 rfl (lv_at hl 1 rfl) ?_
  refine lv_aload_n hx hb dL_law_665 rfl (lv_at hl 3 rfl) ?_
  refine lv_iload_n hx hb dL_law_666 rfl (lv_at hl 0 rfl) ?_
  refine lv_iconst (v := 1) hx hb dL_law_667 (by decide) ?_
  refine lv_iadd hx hb dL_law_668 ?_
  refine ki (v := 1) (by decide) ?_
  refine va_sld hx hb hX hbl hbA hS (i := 1) (vp_k (by decide)) dL_law_669 ?_
  refine kv (v := .int (xs 1)) rfl ?_
  refine lv_aload_n hx hb dL_law_670 rfl (lv_at hl 3 rfl) ?_
  refine lv_iload_n hx hb dL_law_671 rfl (lv_at hl 0 rfl) ?_
  refine lv_iconst (v := 2) hx hb dL_law_672 (by decide) ?_
  refine lv_iadd hx hb dL_law_673 ?_
  refine ki (v := 2) (by decide) ?_
  refine va_sld hx hb hX hbl hbA hS (i := 2) (vp_k (by decide)) dL_law_674 ?_
  refine kv (v := .int (xs 2)) rfl ?_
  refine lv_aload_n hx hb dL_law_675 rfl (lv_at hl 3 rfl) ?_
  refine lv_iload_n hx hb dL_law_676 rfl (lv_at hl 0 rfl) ?_
  refine lv_iconst (v := 3) hx hb dL_law_677 (by decide) ?_
  refine lv_iadd hx hb dL_law_678 ?_
  refine ki (v := 3) (by decide) ?_
  refine va_sld hx hb hX hbl hbA hS (i := 3) (vp_k (by decide)) dL_law_679 ?_
  refine kv (v := .int (xs 3)) rfl ?_
  refine ct_V (wr := [(n1, .inl (κ 0, 6, .inl dial0)), (n4, .inl (κ 0, 6, .inl (fun _ => 0))), (n5, .inl (κ 4, 6, .inr (.inr (.inr (.inr (fun _ => none)))))), (f0, .inr (2, [.int 0, .int (-1), .int (-1), .int (-1), .int (-1), .int 0])), (r0, .inr (4, [.ref t0, .ref n1, .ref f0, .ref b0, .int 0, .int (-1), .ref r1, .int 0, .ref r2, .ref r3, .int 0, .null, .ref r4, .int 0])), (b0, .inr (0, [.ref b1, .int 0, .long 0])), (b1, .inl (κ 1, 0, .inl (fun _ => 0))), (r1, .inl (κ 1, 20, .inl (fun _ => 0))), (r2, .inl (κ 2, 8, .inr (.inr (.inr (.inr (fun _ => none)))))), (r3, .inl (κ 0, 8, .inl (fun _ => 0))), (r4, .inl (κ 2, 320, .inr (.inr (.inr (.inr (fun _ => none)))))), (w0, .inr (10, [.ref n1, .ref w1, .int 0])), (w1, .inl (κ 1, 6000, .inl (fun _ => 0))), (k0, .inr (6, [.ref k1, .ref k2, .ref k3, .ref k4, .ref k5, .int 0])), (k1, .inl (κ 0, 6, .inl dial0)), (k2, .inl (κ 4, 3, .inr (.inr (.inr (.inr (fun _ => none)))))), (k3, .inl (κ 5, 3, .inr (.inr (.inr (.inr (fun _ => none)))))), (k4, .inl (κ 0, 6, .inl (fun _ => 0))), (k5, .inl (κ 4, 6, .inr (.inr (.inr (.inr (fun _ => none)))))), (a1, .inl (κ 0, 21375, .inl (fun _ => 0))), (a2, .inl (κ 0, 128214, .inl (fun _ => 0))), (a5, .inl (κ 0, 800, .inl (fun _ => 0))), (a14, .inl (κ 0, 189, .inl (fun _ => 0))), (a15, .inl (κ 0, 9, .inl (fun _ => 0))), (a16, .inl (κ 0, 9, .inl (fun _ => 0))), (a17, .inl (κ 0, 7123, .inl (fun _ => 0))), (a21, .inl (κ 0, 40, .inl (fun _ => 0))), (a23, .inl (κ 0, 40, .inl (fun _ => 0))), (a24, .inl (κ 0, 40, .inl (fun _ => 0))), (a25, .inl (κ 0, 6000, .inl (fun _ => 0))), (a28, .inl (κ 0, 400, .inl (fun _ => 0)))]) (As := [.int (xs 1), .int (xs 2), .int (xs 3)]) (rest := [.int (-1)]) hFX hKK hP hD hS hA (c_X12_narrow l D κ m0 a0 a1 a2 a5 a14 a15 a16 a17 a20 a21 a23 a24 a25 a28 (xs 1) (xs 2) (xs 3)) 3 gV_L_76 hdV_X12_narrow ⟨Nat.le_of_ble_eq_true rfl, Nat.le_of_ble_eq_true rfl⟩ rfl rfl (Nat.le_of_ble_eq_true rfl) dL_law_680 ⟨Nat.le_of_ble_eq_true rfl, Nat.le_of_ble_eq_true rfl⟩ hl.1 [19, 20, 28] [0, 1, 2, 3, 4, 5, 6, 7, 8, 9, 10, 11, 12, 13, 14, 15, 16, 17, 18, 21, 22, 23, 24, 25, 26, 27, 29, 30, 31, 32, 33] rfl rfl (by decide) (by decide) (by decide) 19 12 rfl rfl rfl trivial (fun _ H locs hp_2 _ hP hD hS hz_ hk_ => ?_)
  have hP : va_P D vwCl [(n1, .inl (κ 0, 6, .inl dial0)), (n4, .inl (κ 0, 6, .inl (fun _ => 0))), (n5, .inl (κ 4, 6, .inr (.inr (.inr (.inr (fun _ => none)))))), (f0, .inr (2, [.int 0, .int (-1), .int (-1), .int (-1), .int (-1), .int 0])), (r0, .inr (4, [.ref t0, .ref n1, .ref f0, .ref b0, .int 0, .int (-1), .ref r1, .int 0, .ref r2, .ref r3, .int 0, .null, .ref r4, .int 0])), (b0, .inr (0, [.ref b1, .int 0, .long 0])), (b1, .inl (κ 1, 0, .inl (fun _ => 0))), (r1, .inl (κ 1, 20, .inl (fun _ => 0))), (r2, .inl (κ 2, 8, .inr (.inr (.inr (.inr (fun _ => none)))))), (r3, .inl (κ 0, 8, .inl (fun _ => 0))), (r4, .inl (κ 2, 320, .inr (.inr (.inr (.inr (fun _ => none)))))), (w0, .inr (10, [.ref n1, .ref w1, .int 0])), (w1, .inl (κ 1, 6000, .inl (fun _ => 0))), (k0, .inr (6, [.ref k1, .ref k2, .ref k3, .ref k4, .ref k5, .int 0])), (k1, .inl (κ 0, 6, .inl dial0)), (k2, .inl (κ 4, 3, .inr (.inr (.inr (.inr (fun _ => none)))))), (k3, .inl (κ 5, 3, .inr (.inr (.inr (.inr (fun _ => none)))))), (k4, .inl (κ 0, 6, .inl (fun _ => 0))), (k5, .inl (κ 4, 6, .inr (.inr (.inr (.inr (fun _ => none)))))), (a1, .inl (κ 0, 21375, .inl (fun _ => 0))), (a2, .inl (κ 0, 128214, .inl (fun _ => 0))), (a5, .inl (κ 0, 800, .inl (fun _ => 0))), (a14, .inl (κ 0, 189, .inl (fun _ => 0))), (a15, .inl (κ 0, 9, .inl (fun _ => 0))), (a16, .inl (κ 0, 9, .inl (fun _ => 0))), (a17, .inl (κ 0, 7123, .inl (fun _ => 0))), (a21, .inl (κ 0, 40, .inl (fun _ => 0))), (a23, .inl (κ 0, 40, .inl (fun _ => 0))), (a24, .inl (κ 0, 40, .inl (fun _ => 0))), (a25, .inl (κ 0, 6000, .inl (fun _ => 0))), (a28, .inl (κ 0, 400, .inl (fun _ => 0)))] H := hP
  have hD : va_D A [(n1, .inl (κ 0, 6, .inl dial0)), (n4, .inl (κ 0, 6, .inl (fun _ => 0))), (n5, .inl (κ 4, 6, .inr (.inr (.inr (.inr (fun _ => none)))))), (f0, .inr (2, [.int 0, .int (-1), .int (-1), .int (-1), .int (-1), .int 0])), (r0, .inr (4, [.ref t0, .ref n1, .ref f0, .ref b0, .int 0, .int (-1), .ref r1, .int 0, .ref r2, .ref r3, .int 0, .null, .ref r4, .int 0])), (b0, .inr (0, [.ref b1, .int 0, .long 0])), (b1, .inl (κ 1, 0, .inl (fun _ => 0))), (r1, .inl (κ 1, 20, .inl (fun _ => 0))), (r2, .inl (κ 2, 8, .inr (.inr (.inr (.inr (fun _ => none)))))), (r3, .inl (κ 0, 8, .inl (fun _ => 0))), (r4, .inl (κ 2, 320, .inr (.inr (.inr (.inr (fun _ => none)))))), (w0, .inr (10, [.ref n1, .ref w1, .int 0])), (w1, .inl (κ 1, 6000, .inl (fun _ => 0))), (k0, .inr (6, [.ref k1, .ref k2, .ref k3, .ref k4, .ref k5, .int 0])), (k1, .inl (κ 0, 6, .inl dial0)), (k2, .inl (κ 4, 3, .inr (.inr (.inr (.inr (fun _ => none)))))), (k3, .inl (κ 5, 3, .inr (.inr (.inr (.inr (fun _ => none)))))), (k4, .inl (κ 0, 6, .inl (fun _ => 0))), (k5, .inl (κ 4, 6, .inr (.inr (.inr (.inr (fun _ => none)))))), (a1, .inl (κ 0, 21375, .inl (fun _ => 0))), (a2, .inl (κ 0, 128214, .inl (fun _ => 0))), (a5, .inl (κ 0, 800, .inl (fun _ => 0))), (a14, .inl (κ 0, 189, .inl (fun _ => 0))), (a15, .inl (κ 0, 9, .inl (fun _ => 0))), (a16, .inl (κ 0, 9, .inl (fun _ => 0))), (a17, .inl (κ 0, 7123, .inl (fun _ => 0))), (a21, .inl (κ 0, 40, .inl (fun _ => 0))), (a23, .inl (κ 0, 40, .inl (fun _ => 0))), (a24, .inl (κ 0, 40, .inl (fun _ => 0))), (a25, .inl (κ 0, 6000, .inl (fun _ => 0))), (a28, .inl (κ 0, 400, .inl (fun _ => 0)))] := hD
  refine W.eq (g2 := F0 m 683 ls [.int (-1), .int (-1)]) rfl ?_
  refine lv_icmp_eq (tgt := 1622) hx hb dL_law_683 (by decide) (fun c_3 => ?_) (fun c_3 => absurd (by decide) c_3)
  exact law_tail C0 hA hAq hS hl (Nat.le_of_ble_eq_true rfl) (Nat.le_of_ble_eq_true rfl)
set_option maxHeartbeats 4000000 in
set_option maxRecDepth 100000 in
theorem law_case_14 {p : Program} {l : Launch} {e : Env} {s : State} {m : MethodId} {below : List Frame} {meth : Method} {c : Code} {D : va_G} {κ : Nat → ClassId} {b : Nat} {xs : Nat → Int32} (C0 : lw_At p s m meth c b 6 xs) (hKK : KK D κ s) {A : Nat → Prop} (hA : ∀ q : Nat, s.heap.size ≤ q → A q) (hAq : ∀ q : Nat, A q → s.heap.size ≤ q) (x0 n0 t0 f0 r0 w0 k0 n1 n2 n3 n4 n5 t1 b0 r1 r2 r3 r4 b1 w1 k1 k2 k3 k4 k5 m0 a0 a1 a2 a5 a14 a15 a16 a17 a20 a21 a23 a24 a25 a28 : Nat) {H : Heap} {locs : List Loc} {ls : Array Slot} (hP : va_P D vwCl [(x0, .inr (11, [.ref n0, .ref t0, .ref f0, .ref r0, .ref w0, .ref k0, .int 0])), (n0, .inr (6, [.ref n1, .ref n2, .ref n3, .ref n4, .ref n5, .int 0])), (n1, .inl (κ 0, 6, .inl dial0)), (n2, .inl (κ 4, 3, .inr (.inr (.inr (.inr (fun _ => none)))))), (n3, .inl (κ 5, 3, .inr (.inr (.inr (.inr (fun _ => none)))))), (n4, .inl (κ 0, 6, .inl (fun _ => 0))), (n5, .inl (κ 4, 6, .inr (.inr (.inr (.inr (fun _ => none)))))), (t0, .inr (8, [.ref t1, .int 0])), (t1, .inl (κ 0, 800, .inl (fun _ => 0))), (f0, .inr (2, [.int 0, .int (-1), .int (-1), .int (-1), .int (-1), .int 0])), (r0, .inr (4, [.ref t0, .ref n1, .ref f0, .ref b0, .int 0, .int (-1), .ref r1, .int 0, .ref r2, .ref r3, .int 0, .null, .ref r4, .int 0])), (b0, .inr (0, [.ref b1, .int 0, .long 0])), (b1, .inl (κ 1, 0, .inl (fun _ => 0))), (r1, .inl (κ 1, 20, .inl (fun _ => 0))), (r2, .inl (κ 2, 8, .inr (.inr (.inr (.inr (fun _ => none)))))), (r3, .inl (κ 0, 8, .inl (fun _ => 0))), (r4, .inl (κ 2, 320, .inr (.inr (.inr (.inr (fun _ => none)))))), (w0, .inr (10, [.ref n1, .ref w1, .int 0])), (w1, .inl (κ 1, 6000, .inl (fun _ => 0))), (k0, .inr (6, [.ref k1, .ref k2, .ref k3, .ref k4, .ref k5, .int 0])), (k1, .inl (κ 0, 6, .inl dial0)), (k2, .inl (κ 4, 3, .inr (.inr (.inr (.inr (fun _ => none)))))), (k3, .inl (κ 5, 3, .inr (.inr (.inr (.inr (fun _ => none)))))), (k4, .inl (κ 0, 6, .inl (fun _ => 0))), (k5, .inl (κ 4, 6, .inr (.inr (.inr (.inr (fun _ => none)))))), (m0, .inr (12, [.ref a0, .ref a1, .ref a2, .int 0, .int 0, .ref a5, .int 0, .int 0, .int (-1), .int (-1), .int 0, .int 0, .int 0, .int 0, .ref a14, .ref a15, .ref a16, .ref a17, .int 0, .int 0, .ref a20, .ref a21, .int 0, .ref a23, .ref a24, .ref a25, .int 0, .int 0, .ref a28, .int 0])), (a0, .inl (κ 0, 21375, .inl wf0)), (a1, .inl (κ 0, 21375, .inl (fun _ => 0))), (a2, .inl (κ 0, 128214, .inl (fun _ => 0))), (a5, .inl (κ 0, 800, .inl (fun _ => 0))), (a14, .inl (κ 0, 189, .inl (fun _ => 0))), (a15, .inl (κ 0, 9, .inl (fun _ => 0))), (a16, .inl (κ 0, 9, .inl (fun _ => 0))), (a17, .inl (κ 0, 7123, .inl (fun _ => 0))), (a20, .inl (κ 0, 801, .inl (fun _ => 0))), (a21, .inl (κ 0, 40, .inl (fun _ => 0))), (a23, .inl (κ 0, 40, .inl (fun _ => 0))), (a24, .inl (κ 0, 40, .inl (fun _ => 0))), (a25, .inl (κ 0, 6000, .inl (fun _ => 0))), (a28, .inl (κ 0, 400, .inl (fun _ => 0)))] H) (hD : va_D A [(x0, .inr (11, [.ref n0, .ref t0, .ref f0, .ref r0, .ref w0, .ref k0, .int 0])), (n0, .inr (6, [.ref n1, .ref n2, .ref n3, .ref n4, .ref n5, .int 0])), (n1, .inl (κ 0, 6, .inl dial0)), (n2, .inl (κ 4, 3, .inr (.inr (.inr (.inr (fun _ => none)))))), (n3, .inl (κ 5, 3, .inr (.inr (.inr (.inr (fun _ => none)))))), (n4, .inl (κ 0, 6, .inl (fun _ => 0))), (n5, .inl (κ 4, 6, .inr (.inr (.inr (.inr (fun _ => none)))))), (t0, .inr (8, [.ref t1, .int 0])), (t1, .inl (κ 0, 800, .inl (fun _ => 0))), (f0, .inr (2, [.int 0, .int (-1), .int (-1), .int (-1), .int (-1), .int 0])), (r0, .inr (4, [.ref t0, .ref n1, .ref f0, .ref b0, .int 0, .int (-1), .ref r1, .int 0, .ref r2, .ref r3, .int 0, .null, .ref r4, .int 0])), (b0, .inr (0, [.ref b1, .int 0, .long 0])), (b1, .inl (κ 1, 0, .inl (fun _ => 0))), (r1, .inl (κ 1, 20, .inl (fun _ => 0))), (r2, .inl (κ 2, 8, .inr (.inr (.inr (.inr (fun _ => none)))))), (r3, .inl (κ 0, 8, .inl (fun _ => 0))), (r4, .inl (κ 2, 320, .inr (.inr (.inr (.inr (fun _ => none)))))), (w0, .inr (10, [.ref n1, .ref w1, .int 0])), (w1, .inl (κ 1, 6000, .inl (fun _ => 0))), (k0, .inr (6, [.ref k1, .ref k2, .ref k3, .ref k4, .ref k5, .int 0])), (k1, .inl (κ 0, 6, .inl dial0)), (k2, .inl (κ 4, 3, .inr (.inr (.inr (.inr (fun _ => none)))))), (k3, .inl (κ 5, 3, .inr (.inr (.inr (.inr (fun _ => none)))))), (k4, .inl (κ 0, 6, .inl (fun _ => 0))), (k5, .inl (κ 4, 6, .inr (.inr (.inr (.inr (fun _ => none)))))), (m0, .inr (12, [.ref a0, .ref a1, .ref a2, .int 0, .int 0, .ref a5, .int 0, .int 0, .int (-1), .int (-1), .int 0, .int 0, .int 0, .int 0, .ref a14, .ref a15, .ref a16, .ref a17, .int 0, .int 0, .ref a20, .ref a21, .int 0, .ref a23, .ref a24, .ref a25, .int 0, .int 0, .ref a28, .int 0])), (a0, .inl (κ 0, 21375, .inl wf0)), (a1, .inl (κ 0, 21375, .inl (fun _ => 0))), (a2, .inl (κ 0, 128214, .inl (fun _ => 0))), (a5, .inl (κ 0, 800, .inl (fun _ => 0))), (a14, .inl (κ 0, 189, .inl (fun _ => 0))), (a15, .inl (κ 0, 9, .inl (fun _ => 0))), (a16, .inl (κ 0, 9, .inl (fun _ => 0))), (a17, .inl (κ 0, 7123, .inl (fun _ => 0))), (a20, .inl (κ 0, 801, .inl (fun _ => 0))), (a21, .inl (κ 0, 40, .inl (fun _ => 0))), (a23, .inl (κ 0, 40, .inl (fun _ => 0))), (a24, .inl (κ 0, 40, .inl (fun _ => 0))), (a25, .inl (κ 0, 6000, .inl (fun _ => 0))), (a28, .inl (κ 0, 400, .inl (fun _ => 0)))]) (hS : va_S A s.heap H locs) (hl : lv_has ls 4 [(3, .int 0), (2, .ref m0), (1, .ref x0), (0, .ref b)]) : W p l e room_1 s m #[Value.ref b] below meth c H locs 40 193696 (lw_Z below #[Value.ref b] s) (F0 m 688 ls []) := by
  obtain ⟨hx, hb, hr, hml, hown, hts0, hX, hbl, hlk, hgv⟩ := id C0
  have hb : c.code = cL_law := hb
  have hts : ∀ w ∈ wsL_law, w.before #[Value.ref b] s = true := fun w h => hts0 w (wsL_law_in w h)
  have hown : s.vm.findClass RL = some m.cls := hown
  have hK : va_K D vwCl (T0 κ) s := hKK.1
  have hbA : ¬ A b := fun h => absurd (hAq b h) (Nat.not_le.mpr hbl)
  have hFX : FX p s m #[Value.ref b] c cL_law 4 RL := ⟨hx, hb, hml, hown, hts⟩
  refine lv_aload_n hx hb dL_law_688 rfl (lv_at hl 2 rfl) ?_
  refine lv_aload_n hx hb dL_law_689 rfl (lv_at hl 3 rfl) ?_
  refine lv_iload_n hx hb dL_law_690 rfl (lv_at hl 0 rfl) ?_
  refine lv_iconst (v := 1) hx hb dL_law_691 (by decide) ?_
  refine lv_iadd hx hb dL_law_692 ?_
  refine ki (v := 1) (by decide) ?_
  refine va_sld hx hb hX hbl hbA hS (i := 1) (vp_k (by decide)) dL_law_693 ?_
  refine kv (v := .int (xs 1)) rfl ?_
  refine lv_aload_n hx hb dL_law_694 rfl (lv_at hl 3 rfl) ?_
  refine lv_iload_n hx hb dL_law_695 rfl (lv_at hl 0 rfl) ?_
  refine lv_iconst (v := 2) hx hb dL_law_696 (by decide) ?_
  refine lv_iadd hx hb dL_law_697 ?_
  refine ki (v := 2) (by decide) ?_
  refine va_sld hx hb hX hbl hbA hS (i := 2) (vp_k (by decide)) dL_law_698 ?_
  refine kv (v := .int (xs 2)) rfl ?_
  refine lv_aload_n hx hb dL_law_699 rfl (lv_at hl 3 rfl) ?_
  refine lv_iload_n hx hb dL_law_700 rfl (lv_at hl 0 rfl) ?_
  refine lv_iconst (v := 3) hx hb dL_law_701 (by decide) ?_
  refine lv_iadd hx hb dL_law_702 ?_
  refine ki (v := 3) (by decide) ?_
  refine va_sld hx hb hX hbl hbA hS (i := 3) (vp_k (by decide)) dL_law_703 ?_
  refine kv (v := .int (xs 3)) rfl ?_
  refine lv_if_eq (tgt := 711) hx hb dL_law_704 (by decide) (fun c_1 => ?_) (fun c_1 => ?_)
  · refine lv_iconst (v := 0) hx hb dL_law_711 (by decide) ?_
    refine cr_V (As := [.int (xs 1), .int (xs 2), .int 0]) (rest := []) hFX hKK (c_X11_order l D κ x0 n0 t0 f0 r0 w0 k0 n1 n2 n3 n4 n5 (xs 1) (xs 2) 0) 3 gV_L_77 hdV_X11_order rfl rfl ⟨Nat.le_of_ble_eq_true rfl, Nat.le_of_ble_eq_true rfl⟩ rfl rfl (Nat.le_of_ble_eq_true rfl) dL_law_712 ⟨Nat.le_of_ble_eq_true rfl, Nat.le_of_ble_eq_true rfl⟩ hl.1 hP 0 11 rfl rfl rfl (hP.sub [0, 1, 3, 4] rfl) (fun _ hp_2 => ?_)
    refine W.eq (g2 := F0 m 715 ls [.int (-1)]) rfl ?_
    refine lv_aload_n hx hb dL_law_715 rfl (lv_at hl 1 rfl) ?_
    refine lv_aload_n hx hb dL_law_716 rfl (lv_at hl 3 rfl) ?_
    refine lv_iload_n hx hb dL_law_717 rfl (lv_at hl 0 rfl) ?_
    refine lv_iconst (v := 1) hx hb dL_law_718 (by decide) ?_
    refine lv_iadd hx hb dL_law_719 ?_
    refine ki (v := 1) (by decide) ?_
    refine va_sld hx hb hX hbl hbA hS (i := 1) (vp_k (by decide)) dL_law_720 ?_
    refine kv (v := .int (xs 1)) rfl ?_
    refine lv_aload_n hx hb dL_law_721 rfl (lv_at hl 3 rfl) ?_
    refine lv_iload_n hx hb dL_law_722 rfl (lv_at hl 0 rfl) ?_
    refine lv_iconst (v := 2) hx hb dL_law_723 (by decide) ?_
    refine lv_iadd hx hb dL_law_724 ?_
    refine ki (v := 2) (by decide) ?_
    refine va_sld hx hb hX hbl hbA hS (i := 2) (vp_k (by decide)) dL_law_725 ?_
    refine kv (v := .int (xs 2)) rfl ?_
    refine lv_aload_n hx hb dL_law_726 rfl (lv_at hl 3 rfl) ?_
    refine lv_iload_n hx hb dL_law_727 rfl (lv_at hl 0 rfl) ?_
    refine lv_iconst (v := 3) hx hb dL_law_728 (by decide) ?_
    refine lv_iadd hx hb dL_law_729 ?_
    refine ki (v := 3) (by decide) ?_
    refine va_sld hx hb hX hbl hbA hS (i := 3) (vp_k (by decide)) dL_law_730 ?_
    refine kv (v := .int (xs 3)) rfl ?_
    refine lv_if_eq (tgt := 738) hx hb dL_law_731 (by decide) (fun c_3 => ?_) (fun c_3 => absurd c_1 c_3)
    refine lv_iconst (v := 0) hx hb dL_law_738 (by decide) ?_
    refine cr_V (As := [.int (xs 1), .int (xs 2), .int 0]) (rest := [.int (-1)]) hFX hKK (c_X12_order l D κ m0 a0 a1 a2 a5 a14 a15 a16 a17 a20 a21 a23 a24 a25 a28 (xs 1) (xs 2) 0) 3 gV_L_81 hdV_X12_order rfl rfl ⟨Nat.le_of_ble_eq_true rfl, Nat.le_of_ble_eq_true rfl⟩ rfl rfl (Nat.le_of_ble_eq_true rfl) dL_law_739 ⟨Nat.le_of_ble_eq_true rfl, Nat.le_of_ble_eq_true rfl⟩ hl.1 hP 25 12 rfl rfl rfl (hP.sub [25, 26] rfl) (fun _ hp_4 => ?_)
    refine W.eq (g2 := F0 m 742 ls [.int (-1), .int (-1)]) rfl ?_
    refine lv_icmp_eq (tgt := 1622) hx hb dL_law_742 (by decide) (fun c_5 => ?_) (fun c_5 => absurd (by decide) c_5)
    exact law_tail C0 hA hAq hS hl (Nat.le_of_ble_eq_true rfl) (Nat.le_of_ble_eq_true rfl)
  · refine lv_iconst (v := 1) hx hb dL_law_707 (by decide) ?_
    refine lv_goto (tgt := 712) hx hb dL_law_708 (by decide) ?_
    refine cr_V (As := [.int (xs 1), .int (xs 2), .int 1]) (rest := []) hFX hKK (c_X11_order l D κ x0 n0 t0 f0 r0 w0 k0 n1 n2 n3 n4 n5 (xs 1) (xs 2) 1) 3 gV_L_77 hdV_X11_order rfl rfl ⟨Nat.le_of_ble_eq_true rfl, Nat.le_of_ble_eq_true rfl⟩ rfl rfl (Nat.le_of_ble_eq_true rfl) dL_law_712 ⟨Nat.le_of_ble_eq_true rfl, Nat.le_of_ble_eq_true rfl⟩ hl.1 hP 0 11 rfl rfl rfl (hP.sub [0, 1, 3, 4] rfl) (fun _ hp_6 => ?_)
    refine W.eq (g2 := F0 m 715 ls [.int (-1)]) rfl ?_
    refine lv_aload_n hx hb dL_law_715 rfl (lv_at hl 1 rfl) ?_
    refine lv_aload_n hx hb dL_law_716 rfl (lv_at hl 3 rfl) ?_
    refine lv_iload_n hx hb dL_law_717 rfl (lv_at hl 0 rfl) ?_
    refine lv_iconst (v := 1) hx hb dL_law_718 (by decide) ?_
    refine lv_iadd hx hb dL_law_719 ?_
    refine ki (v := 1) (by decide) ?_
    refine va_sld hx hb hX hbl hbA hS (i := 1) (vp_k (by decide)) dL_law_720 ?_
    refine kv (v := .int (xs 1)) rfl ?_
    refine lv_aload_n hx hb dL_law_721 rfl (lv_at hl 3 rfl) ?_
    refine lv_iload_n hx hb dL_law_722 rfl (lv_at hl 0 rfl) ?_
    refine lv_iconst (v := 2) hx hb dL_law_723 (by decide) ?_
    refine lv_iadd hx hb dL_law_724 ?_
    refine ki (v := 2) (by decide) ?_
    refine va_sld hx hb hX hbl hbA hS (i := 2) (vp_k (by decide)) dL_law_725 ?_
    refine kv (v := .int (xs 2)) rfl ?_
    refine lv_aload_n hx hb dL_law_726 rfl (lv_at hl 3 rfl) ?_
    refine lv_iload_n hx hb dL_law_727 rfl (lv_at hl 0 rfl) ?_
    refine lv_iconst (v := 3) hx hb dL_law_728 (by decide) ?_
    refine lv_iadd hx hb dL_law_729 ?_
    refine ki (v := 3) (by decide) ?_
    refine va_sld hx hb hX hbl hbA hS (i := 3) (vp_k (by decide)) dL_law_730 ?_
    refine kv (v := .int (xs 3)) rfl ?_
    refine lv_if_eq (tgt := 738) hx hb dL_law_731 (by decide) (fun c_7 => absurd c_7 c_1) (fun c_7 => ?_)
    refine lv_iconst (v := 1) hx hb dL_law_734 (by decide) ?_
    refine lv_goto (tgt := 739) hx hb dL_law_735 (by decide) ?_
    refine cr_V (As := [.int (xs 1), .int (xs 2), .int 1]) (rest := [.int (-1)]) hFX hKK (c_X12_order l D κ m0 a0 a1 a2 a5 a14 a15 a16 a17 a20 a21 a23 a24 a25 a28 (xs 1) (xs 2) 1) 3 gV_L_81 hdV_X12_order rfl rfl ⟨Nat.le_of_ble_eq_true rfl, Nat.le_of_ble_eq_true rfl⟩ rfl rfl (Nat.le_of_ble_eq_true rfl) dL_law_739 ⟨Nat.le_of_ble_eq_true rfl, Nat.le_of_ble_eq_true rfl⟩ hl.1 hP 25 12 rfl rfl rfl (hP.sub [25, 26] rfl) (fun _ hp_8 => ?_)
    refine W.eq (g2 := F0 m 742 ls [.int (-1), .int (-1)]) rfl ?_
    refine lv_icmp_eq (tgt := 1622) hx hb dL_law_742 (by decide) (fun c_9 => ?_) (fun c_9 => absurd (by decide) c_9)
    exact law_tail C0 hA hAq hS hl (Nat.le_of_ble_eq_true rfl) (Nat.le_of_ble_eq_true rfl)
set_option maxHeartbeats 4000000 in
set_option maxRecDepth 100000 in
theorem law_case_15 {p : Program} {l : Launch} {e : Env} {s : State} {m : MethodId} {below : List Frame} {meth : Method} {c : Code} {D : va_G} {κ : Nat → ClassId} {b : Nat} {xs : Nat → Int32} (C0 : lw_At p s m meth c b 6 xs) (hKK : KK D κ s) {A : Nat → Prop} (hA : ∀ q : Nat, s.heap.size ≤ q → A q) (hAq : ∀ q : Nat, A q → s.heap.size ≤ q) (x0 n0 t0 f0 r0 w0 k0 n1 n2 n3 n4 n5 t1 b0 r1 r2 r3 r4 b1 w1 k1 k2 k3 k4 k5 m0 a0 a1 a2 a5 a14 a15 a16 a17 a20 a21 a23 a24 a25 a28 : Nat) {H : Heap} {locs : List Loc} {ls : Array Slot} (hP : va_P D vwCl [(x0, .inr (11, [.ref n0, .ref t0, .ref f0, .ref r0, .ref w0, .ref k0, .int 0])), (n0, .inr (6, [.ref n1, .ref n2, .ref n3, .ref n4, .ref n5, .int 0])), (n1, .inl (κ 0, 6, .inl dial0)), (n2, .inl (κ 4, 3, .inr (.inr (.inr (.inr (fun _ => none)))))), (n3, .inl (κ 5, 3, .inr (.inr (.inr (.inr (fun _ => none)))))), (n4, .inl (κ 0, 6, .inl (fun _ => 0))), (n5, .inl (κ 4, 6, .inr (.inr (.inr (.inr (fun _ => none)))))), (t0, .inr (8, [.ref t1, .int 0])), (t1, .inl (κ 0, 800, .inl (fun _ => 0))), (f0, .inr (2, [.int 0, .int (-1), .int (-1), .int (-1), .int (-1), .int 0])), (r0, .inr (4, [.ref t0, .ref n1, .ref f0, .ref b0, .int 0, .int (-1), .ref r1, .int 0, .ref r2, .ref r3, .int 0, .null, .ref r4, .int 0])), (b0, .inr (0, [.ref b1, .int 0, .long 0])), (b1, .inl (κ 1, 0, .inl (fun _ => 0))), (r1, .inl (κ 1, 20, .inl (fun _ => 0))), (r2, .inl (κ 2, 8, .inr (.inr (.inr (.inr (fun _ => none)))))), (r3, .inl (κ 0, 8, .inl (fun _ => 0))), (r4, .inl (κ 2, 320, .inr (.inr (.inr (.inr (fun _ => none)))))), (w0, .inr (10, [.ref n1, .ref w1, .int 0])), (w1, .inl (κ 1, 6000, .inl (fun _ => 0))), (k0, .inr (6, [.ref k1, .ref k2, .ref k3, .ref k4, .ref k5, .int 0])), (k1, .inl (κ 0, 6, .inl dial0)), (k2, .inl (κ 4, 3, .inr (.inr (.inr (.inr (fun _ => none)))))), (k3, .inl (κ 5, 3, .inr (.inr (.inr (.inr (fun _ => none)))))), (k4, .inl (κ 0, 6, .inl (fun _ => 0))), (k5, .inl (κ 4, 6, .inr (.inr (.inr (.inr (fun _ => none)))))), (m0, .inr (12, [.ref a0, .ref a1, .ref a2, .int 0, .int 0, .ref a5, .int 0, .int 0, .int (-1), .int (-1), .int 0, .int 0, .int 0, .int 0, .ref a14, .ref a15, .ref a16, .ref a17, .int 0, .int 0, .ref a20, .ref a21, .int 0, .ref a23, .ref a24, .ref a25, .int 0, .int 0, .ref a28, .int 0])), (a0, .inl (κ 0, 21375, .inl wf0)), (a1, .inl (κ 0, 21375, .inl (fun _ => 0))), (a2, .inl (κ 0, 128214, .inl (fun _ => 0))), (a5, .inl (κ 0, 800, .inl (fun _ => 0))), (a14, .inl (κ 0, 189, .inl (fun _ => 0))), (a15, .inl (κ 0, 9, .inl (fun _ => 0))), (a16, .inl (κ 0, 9, .inl (fun _ => 0))), (a17, .inl (κ 0, 7123, .inl (fun _ => 0))), (a20, .inl (κ 0, 801, .inl (fun _ => 0))), (a21, .inl (κ 0, 40, .inl (fun _ => 0))), (a23, .inl (κ 0, 40, .inl (fun _ => 0))), (a24, .inl (κ 0, 40, .inl (fun _ => 0))), (a25, .inl (κ 0, 6000, .inl (fun _ => 0))), (a28, .inl (κ 0, 400, .inl (fun _ => 0)))] H) (hD : va_D A [(x0, .inr (11, [.ref n0, .ref t0, .ref f0, .ref r0, .ref w0, .ref k0, .int 0])), (n0, .inr (6, [.ref n1, .ref n2, .ref n3, .ref n4, .ref n5, .int 0])), (n1, .inl (κ 0, 6, .inl dial0)), (n2, .inl (κ 4, 3, .inr (.inr (.inr (.inr (fun _ => none)))))), (n3, .inl (κ 5, 3, .inr (.inr (.inr (.inr (fun _ => none)))))), (n4, .inl (κ 0, 6, .inl (fun _ => 0))), (n5, .inl (κ 4, 6, .inr (.inr (.inr (.inr (fun _ => none)))))), (t0, .inr (8, [.ref t1, .int 0])), (t1, .inl (κ 0, 800, .inl (fun _ => 0))), (f0, .inr (2, [.int 0, .int (-1), .int (-1), .int (-1), .int (-1), .int 0])), (r0, .inr (4, [.ref t0, .ref n1, .ref f0, .ref b0, .int 0, .int (-1), .ref r1, .int 0, .ref r2, .ref r3, .int 0, .null, .ref r4, .int 0])), (b0, .inr (0, [.ref b1, .int 0, .long 0])), (b1, .inl (κ 1, 0, .inl (fun _ => 0))), (r1, .inl (κ 1, 20, .inl (fun _ => 0))), (r2, .inl (κ 2, 8, .inr (.inr (.inr (.inr (fun _ => none)))))), (r3, .inl (κ 0, 8, .inl (fun _ => 0))), (r4, .inl (κ 2, 320, .inr (.inr (.inr (.inr (fun _ => none)))))), (w0, .inr (10, [.ref n1, .ref w1, .int 0])), (w1, .inl (κ 1, 6000, .inl (fun _ => 0))), (k0, .inr (6, [.ref k1, .ref k2, .ref k3, .ref k4, .ref k5, .int 0])), (k1, .inl (κ 0, 6, .inl dial0)), (k2, .inl (κ 4, 3, .inr (.inr (.inr (.inr (fun _ => none)))))), (k3, .inl (κ 5, 3, .inr (.inr (.inr (.inr (fun _ => none)))))), (k4, .inl (κ 0, 6, .inl (fun _ => 0))), (k5, .inl (κ 4, 6, .inr (.inr (.inr (.inr (fun _ => none)))))), (m0, .inr (12, [.ref a0, .ref a1, .ref a2, .int 0, .int 0, .ref a5, .int 0, .int 0, .int (-1), .int (-1), .int 0, .int 0, .int 0, .int 0, .ref a14, .ref a15, .ref a16, .ref a17, .int 0, .int 0, .ref a20, .ref a21, .int 0, .ref a23, .ref a24, .ref a25, .int 0, .int 0, .ref a28, .int 0])), (a0, .inl (κ 0, 21375, .inl wf0)), (a1, .inl (κ 0, 21375, .inl (fun _ => 0))), (a2, .inl (κ 0, 128214, .inl (fun _ => 0))), (a5, .inl (κ 0, 800, .inl (fun _ => 0))), (a14, .inl (κ 0, 189, .inl (fun _ => 0))), (a15, .inl (κ 0, 9, .inl (fun _ => 0))), (a16, .inl (κ 0, 9, .inl (fun _ => 0))), (a17, .inl (κ 0, 7123, .inl (fun _ => 0))), (a20, .inl (κ 0, 801, .inl (fun _ => 0))), (a21, .inl (κ 0, 40, .inl (fun _ => 0))), (a23, .inl (κ 0, 40, .inl (fun _ => 0))), (a24, .inl (κ 0, 40, .inl (fun _ => 0))), (a25, .inl (κ 0, 6000, .inl (fun _ => 0))), (a28, .inl (κ 0, 400, .inl (fun _ => 0)))]) (hS : va_S A s.heap H locs) (hl : lv_has ls 4 [(3, .int 0), (2, .ref m0), (1, .ref x0), (0, .ref b)]) : W p l e room_1 s m #[Value.ref b] below meth c H locs 40 193696 (lw_Z below #[Value.ref b] s) (F0 m 747 ls []) := by
  obtain ⟨hx, hb, hr, hml, hown, hts0, hX, hbl, hlk, hgv⟩ := id C0
  have hb : c.code = cL_law := hb
  have hts : ∀ w ∈ wsL_law, w.before #[Value.ref b] s = true := fun w h => hts0 w (wsL_law_in w h)
  have hown : s.vm.findClass RL = some m.cls := hown
  have hK : va_K D vwCl (T0 κ) s := hKK.1
  have hbA : ¬ A b := fun h => absurd (hAq b h) (Nat.not_le.mpr hbl)
  have hFX : FX p s m #[Value.ref b] c cL_law 4 RL := ⟨hx, hb, hml, hown, hts⟩
  refine lv_aload_n hx hb dL_law_747 rfl (lv_at hl 2 rfl) ?_
  refine lv_aload_n hx hb dL_law_748 rfl (lv_at hl 3 rfl) ?_
  refine lv_iload_n hx hb dL_law_749 rfl (lv_at hl 0 rfl) ?_
  refine lv_iconst (v := 1) hx hb dL_law_750 (by decide) ?_
  refine lv_iadd hx hb dL_law_751 ?_
  refine ki (v := 1) (by decide) ?_
  refine va_sld hx hb hX hbl hbA hS (i := 1) (vp_k (by decide)) dL_law_752 ?_
  refine kv (v := .int (xs 1)) rfl ?_
  refine lv_aload_n hx hb dL_law_753 rfl (lv_at hl 3 rfl) ?_
  refine lv_iload_n hx hb dL_law_754 rfl (lv_at hl 0 rfl) ?_
  refine lv_iconst (v := 2) hx hb dL_law_755 (by decide) ?_
  refine lv_iadd hx hb dL_law_756 ?_
  refine ki (v := 2) (by decide) ?_
  refine va_sld hx hb hX hbl hbA hS (i := 2) (vp_k (by decide)) dL_law_757 ?_
  refine kv (v := .int (xs 2)) rfl ?_
  refine lv_aload_n hx hb dL_law_758 rfl (lv_at hl 3 rfl) ?_
  refine lv_iload_n hx hb dL_law_759 rfl (lv_at hl 0 rfl) ?_
  refine lv_iconst (v := 3) hx hb dL_law_760 (by decide) ?_
  refine lv_iadd hx hb dL_law_761 ?_
  refine ki (v := 3) (by decide) ?_
  refine va_sld hx hb hX hbl hbA hS (i := 3) (vp_k (by decide)) dL_law_762 ?_
  refine kv (v := .int (xs 3)) rfl ?_
  refine cr_V (As := [.int (xs 1), .int (xs 2), .int (xs 3)]) (rest := []) hFX hKK (c_X11_cut l D κ x0 n0 t0 f0 r0 w0 k0 n1 n2 n3 n4 n5 (xs 1) (xs 2) (xs 3)) 3 gV_L_82 hdV_X11_cut rfl rfl ⟨Nat.le_of_ble_eq_true rfl, Nat.le_of_ble_eq_true rfl⟩ rfl rfl (Nat.le_of_ble_eq_true rfl) dL_law_763 ⟨Nat.le_of_ble_eq_true rfl, Nat.le_of_ble_eq_true rfl⟩ hl.1 hP 0 11 rfl rfl rfl (hP.sub [0, 1, 4] rfl) (fun _ hp_1 => ?_)
  refine W.eq (g2 := F0 m 766 ls [.int (-1)]) rfl ?_
  refine lv_aload_n hx hb dL_law_766 rfl (lv_at hl 1 rfl) ?_
  refine lv_aload_n hx hb dL_law_767 rfl (lv_at hl 3 rfl) ?_
  refine lv_iload_n hx hb dL_law_768 rfl (lv_at hl 0 rfl) ?_
  refine lv_iconst (v := 1) hx hb dL_law_769 (by decide) ?_
  refine lv_iadd hx hb dL_law_770 ?_
  refine ki (v := 1) (by decide) ?_
  refine va_sld hx hb hX hbl hbA hS (i := 1) (vp_k (by decide)) dL_law_771 ?_
  refine kv (v := .int (xs 1)) rfl ?_
  refine lv_aload_n hx hb dL_law_772 rfl (lv_at hl 3 rfl) ?_
  refine lv_iload_n hx hb dL_law_773 rfl (lv_at hl 0 rfl) ?_
  refine lv_iconst (v := 2) hx hb dL_law_774 (by decide) ?_
  refine lv_iadd hx hb dL_law_775 ?_
  refine ki (v := 2) (by decide) ?_
  refine va_sld hx hb hX hbl hbA hS (i := 2) (vp_k (by decide)) dL_law_776 ?_
  refine kv (v := .int (xs 2)) rfl ?_
  refine lv_aload_n hx hb dL_law_777 rfl (lv_at hl 3 rfl) ?_
  refine lv_iload_n hx hb dL_law_778 rfl (lv_at hl 0 rfl) ?_
  refine lv_iconst (v := 3) hx hb dL_law_779 (by decide) ?_
  refine lv_iadd hx hb dL_law_780 ?_
  refine ki (v := 3) (by decide) ?_
  refine va_sld hx hb hX hbl hbA hS (i := 3) (vp_k (by decide)) dL_law_781 ?_
  refine kv (v := .int (xs 3)) rfl ?_
  refine cr_V (As := [.int (xs 1), .int (xs 2), .int (xs 3)]) (rest := [.int (-1)]) hFX hKK (c_X12_cut l D κ m0 a0 a1 a2 a5 a14 a15 a16 a17 a20 a21 a23 a24 a25 a28 (xs 1) (xs 2) (xs 3)) 3 gV_L_85 hdV_X12_cut rfl rfl ⟨Nat.le_of_ble_eq_true rfl, Nat.le_of_ble_eq_true rfl⟩ rfl rfl (Nat.le_of_ble_eq_true rfl) dL_law_782 ⟨Nat.le_of_ble_eq_true rfl, Nat.le_of_ble_eq_true rfl⟩ hl.1 hP 25 12 rfl rfl rfl (hP.sub [25, 26] rfl) (fun _ hp_2 => ?_)
  refine W.eq (g2 := F0 m 785 ls [.int (-1), .int (-1)]) rfl ?_
  refine lv_icmp_eq (tgt := 1622) hx hb dL_law_785 (by decide) (fun c_3 => ?_) (fun c_3 => absurd (by decide) c_3)
  exact law_tail C0 hA hAq hS hl (Nat.le_of_ble_eq_true rfl) (Nat.le_of_ble_eq_true rfl)
set_option maxHeartbeats 4000000 in
set_option maxRecDepth 100000 in
theorem law_case_16 {p : Program} {l : Launch} {e : Env} {s : State} {m : MethodId} {below : List Frame} {meth : Method} {c : Code} {D : va_G} {κ : Nat → ClassId} {b : Nat} {xs : Nat → Int32} (C0 : lw_At p s m meth c b 6 xs) (hKK : KK D κ s) {A : Nat → Prop} (hA : ∀ q : Nat, s.heap.size ≤ q → A q) (hAq : ∀ q : Nat, A q → s.heap.size ≤ q) (x0 n0 t0 f0 r0 w0 k0 n1 n2 n3 n4 n5 t1 b0 r1 r2 r3 r4 b1 w1 k1 k2 k3 k4 k5 m0 a0 a1 a2 a5 a14 a15 a16 a17 a20 a21 a23 a24 a25 a28 : Nat) {H : Heap} {locs : List Loc} {ls : Array Slot} (hP : va_P D vwCl [(x0, .inr (11, [.ref n0, .ref t0, .ref f0, .ref r0, .ref w0, .ref k0, .int 0])), (n0, .inr (6, [.ref n1, .ref n2, .ref n3, .ref n4, .ref n5, .int 0])), (n1, .inl (κ 0, 6, .inl dial0)), (n2, .inl (κ 4, 3, .inr (.inr (.inr (.inr (fun _ => none)))))), (n3, .inl (κ 5, 3, .inr (.inr (.inr (.inr (fun _ => none)))))), (n4, .inl (κ 0, 6, .inl (fun _ => 0))), (n5, .inl (κ 4, 6, .inr (.inr (.inr (.inr (fun _ => none)))))), (t0, .inr (8, [.ref t1, .int 0])), (t1, .inl (κ 0, 800, .inl (fun _ => 0))), (f0, .inr (2, [.int 0, .int (-1), .int (-1), .int (-1), .int (-1), .int 0])), (r0, .inr (4, [.ref t0, .ref n1, .ref f0, .ref b0, .int 0, .int (-1), .ref r1, .int 0, .ref r2, .ref r3, .int 0, .null, .ref r4, .int 0])), (b0, .inr (0, [.ref b1, .int 0, .long 0])), (b1, .inl (κ 1, 0, .inl (fun _ => 0))), (r1, .inl (κ 1, 20, .inl (fun _ => 0))), (r2, .inl (κ 2, 8, .inr (.inr (.inr (.inr (fun _ => none)))))), (r3, .inl (κ 0, 8, .inl (fun _ => 0))), (r4, .inl (κ 2, 320, .inr (.inr (.inr (.inr (fun _ => none)))))), (w0, .inr (10, [.ref n1, .ref w1, .int 0])), (w1, .inl (κ 1, 6000, .inl (fun _ => 0))), (k0, .inr (6, [.ref k1, .ref k2, .ref k3, .ref k4, .ref k5, .int 0])), (k1, .inl (κ 0, 6, .inl dial0)), (k2, .inl (κ 4, 3, .inr (.inr (.inr (.inr (fun _ => none)))))), (k3, .inl (κ 5, 3, .inr (.inr (.inr (.inr (fun _ => none)))))), (k4, .inl (κ 0, 6, .inl (fun _ => 0))), (k5, .inl (κ 4, 6, .inr (.inr (.inr (.inr (fun _ => none)))))), (m0, .inr (12, [.ref a0, .ref a1, .ref a2, .int 0, .int 0, .ref a5, .int 0, .int 0, .int (-1), .int (-1), .int 0, .int 0, .int 0, .int 0, .ref a14, .ref a15, .ref a16, .ref a17, .int 0, .int 0, .ref a20, .ref a21, .int 0, .ref a23, .ref a24, .ref a25, .int 0, .int 0, .ref a28, .int 0])), (a0, .inl (κ 0, 21375, .inl wf0)), (a1, .inl (κ 0, 21375, .inl (fun _ => 0))), (a2, .inl (κ 0, 128214, .inl (fun _ => 0))), (a5, .inl (κ 0, 800, .inl (fun _ => 0))), (a14, .inl (κ 0, 189, .inl (fun _ => 0))), (a15, .inl (κ 0, 9, .inl (fun _ => 0))), (a16, .inl (κ 0, 9, .inl (fun _ => 0))), (a17, .inl (κ 0, 7123, .inl (fun _ => 0))), (a20, .inl (κ 0, 801, .inl (fun _ => 0))), (a21, .inl (κ 0, 40, .inl (fun _ => 0))), (a23, .inl (κ 0, 40, .inl (fun _ => 0))), (a24, .inl (κ 0, 40, .inl (fun _ => 0))), (a25, .inl (κ 0, 6000, .inl (fun _ => 0))), (a28, .inl (κ 0, 400, .inl (fun _ => 0)))] H) (hD : va_D A [(x0, .inr (11, [.ref n0, .ref t0, .ref f0, .ref r0, .ref w0, .ref k0, .int 0])), (n0, .inr (6, [.ref n1, .ref n2, .ref n3, .ref n4, .ref n5, .int 0])), (n1, .inl (κ 0, 6, .inl dial0)), (n2, .inl (κ 4, 3, .inr (.inr (.inr (.inr (fun _ => none)))))), (n3, .inl (κ 5, 3, .inr (.inr (.inr (.inr (fun _ => none)))))), (n4, .inl (κ 0, 6, .inl (fun _ => 0))), (n5, .inl (κ 4, 6, .inr (.inr (.inr (.inr (fun _ => none)))))), (t0, .inr (8, [.ref t1, .int 0])), (t1, .inl (κ 0, 800, .inl (fun _ => 0))), (f0, .inr (2, [.int 0, .int (-1), .int (-1), .int (-1), .int (-1), .int 0])), (r0, .inr (4, [.ref t0, .ref n1, .ref f0, .ref b0, .int 0, .int (-1), .ref r1, .int 0, .ref r2, .ref r3, .int 0, .null, .ref r4, .int 0])), (b0, .inr (0, [.ref b1, .int 0, .long 0])), (b1, .inl (κ 1, 0, .inl (fun _ => 0))), (r1, .inl (κ 1, 20, .inl (fun _ => 0))), (r2, .inl (κ 2, 8, .inr (.inr (.inr (.inr (fun _ => none)))))), (r3, .inl (κ 0, 8, .inl (fun _ => 0))), (r4, .inl (κ 2, 320, .inr (.inr (.inr (.inr (fun _ => none)))))), (w0, .inr (10, [.ref n1, .ref w1, .int 0])), (w1, .inl (κ 1, 6000, .inl (fun _ => 0))), (k0, .inr (6, [.ref k1, .ref k2, .ref k3, .ref k4, .ref k5, .int 0])), (k1, .inl (κ 0, 6, .inl dial0)), (k2, .inl (κ 4, 3, .inr (.inr (.inr (.inr (fun _ => none)))))), (k3, .inl (κ 5, 3, .inr (.inr (.inr (.inr (fun _ => none)))))), (k4, .inl (κ 0, 6, .inl (fun _ => 0))), (k5, .inl (κ 4, 6, .inr (.inr (.inr (.inr (fun _ => none)))))), (m0, .inr (12, [.ref a0, .ref a1, .ref a2, .int 0, .int 0, .ref a5, .int 0, .int 0, .int (-1), .int (-1), .int 0, .int 0, .int 0, .int 0, .ref a14, .ref a15, .ref a16, .ref a17, .int 0, .int 0, .ref a20, .ref a21, .int 0, .ref a23, .ref a24, .ref a25, .int 0, .int 0, .ref a28, .int 0])), (a0, .inl (κ 0, 21375, .inl wf0)), (a1, .inl (κ 0, 21375, .inl (fun _ => 0))), (a2, .inl (κ 0, 128214, .inl (fun _ => 0))), (a5, .inl (κ 0, 800, .inl (fun _ => 0))), (a14, .inl (κ 0, 189, .inl (fun _ => 0))), (a15, .inl (κ 0, 9, .inl (fun _ => 0))), (a16, .inl (κ 0, 9, .inl (fun _ => 0))), (a17, .inl (κ 0, 7123, .inl (fun _ => 0))), (a20, .inl (κ 0, 801, .inl (fun _ => 0))), (a21, .inl (κ 0, 40, .inl (fun _ => 0))), (a23, .inl (κ 0, 40, .inl (fun _ => 0))), (a24, .inl (κ 0, 40, .inl (fun _ => 0))), (a25, .inl (κ 0, 6000, .inl (fun _ => 0))), (a28, .inl (κ 0, 400, .inl (fun _ => 0)))]) (hS : va_S A s.heap H locs) (hl : lv_has ls 4 [(3, .int 0), (2, .ref m0), (1, .ref x0), (0, .ref b)]) : W p l e room_1 s m #[Value.ref b] below meth c H locs 40 193696 (lw_Z below #[Value.ref b] s) (F0 m 790 ls []) := by
  obtain ⟨hx, hb, hr, hml, hown, hts0, hX, hbl, hlk, hgv⟩ := id C0
  have hb : c.code = cL_law := hb
  have hts : ∀ w ∈ wsL_law, w.before #[Value.ref b] s = true := fun w h => hts0 w (wsL_law_in w h)
  have hown : s.vm.findClass RL = some m.cls := hown
  have hK : va_K D vwCl (T0 κ) s := hKK.1
  have hbA : ¬ A b := fun h => absurd (hAq b h) (Nat.not_le.mpr hbl)
  have hFX : FX p s m #[Value.ref b] c cL_law 4 RL := ⟨hx, hb, hml, hown, hts⟩
  refine lv_aload_n hx hb dL_law_790 rfl (lv_at hl 2 rfl) ?_
  refine lv_aload_n hx hb dL_law_791 rfl (lv_at hl 3 rfl) ?_
  refine lv_iload_n hx hb dL_law_792 rfl (lv_at hl 0 rfl) ?_
  refine lv_iconst (v := 1) hx hb dL_law_793 (by decide) ?_
  refine lv_iadd hx hb dL_law_794 ?_
  refine ki (v := 1) (by decide) ?_
  refine va_sld hx hb hX hbl hbA hS (i := 1) (vp_k (by decide)) dL_law_795 ?_
  refine kv (v := .int (xs 1)) rfl ?_
  refine lv_aload_n hx hb dL_law_796 rfl (lv_at hl 3 rfl) ?_
  refine lv_iload_n hx hb dL_law_797 rfl (lv_at hl 0 rfl) ?_
  refine lv_iconst (v := 2) hx hb dL_law_798 (by decide) ?_
  refine lv_iadd hx hb dL_law_799 ?_
  refine ki (v := 2) (by decide) ?_
  refine va_sld hx hb hX hbl hbA hS (i := 2) (vp_k (by decide)) dL_law_800 ?_
  refine kv (v := .int (xs 2)) rfl ?_
  refine cr_V (As := [.int (xs 1), .int (xs 2)]) (rest := []) hFX hKK (c_X11_unlike l D κ x0 n0 t0 f0 r0 w0 k0 n1 n2 n3 n4 n5 (xs 1) (xs 2)) 2 gV_L_86 hdV_X11_unlike rfl rfl ⟨Nat.le_of_ble_eq_true rfl, Nat.le_of_ble_eq_true rfl⟩ rfl rfl (Nat.le_of_ble_eq_true rfl) dL_law_801 ⟨Nat.le_of_ble_eq_true rfl, Nat.le_of_ble_eq_true rfl⟩ hl.1 hP 0 11 rfl rfl rfl (hP.sub [0, 1, 3, 4] rfl) (fun _ hp_1 => ?_)
  refine W.eq (g2 := F0 m 804 ls [.int (-1)]) rfl ?_
  refine lv_aload_n hx hb dL_law_804 rfl (lv_at hl 1 rfl) ?_
  refine lv_aload_n hx hb dL_law_805 rfl (lv_at hl 3 rfl) ?_
  refine lv_iload_n hx hb dL_law_806 rfl (lv_at hl 0 rfl) ?_
  refine lv_iconst (v := 1) hx hb dL_law_807 (by decide) ?_
  refine lv_iadd hx hb dL_law_808 ?_
  refine ki (v := 1) (by decide) ?_
  refine va_sld hx hb hX hbl hbA hS (i := 1) (vp_k (by decide)) dL_law_809 ?_
  refine kv (v := .int (xs 1)) rfl ?_
  refine lv_aload_n hx hb dL_law_810 rfl (lv_at hl 3 rfl) ?_
  refine lv_iload_n hx hb dL_law_811 rfl (lv_at hl 0 rfl) ?_
  refine lv_iconst (v := 2) hx hb dL_law_812 (by decide) ?_
  refine lv_iadd hx hb dL_law_813 ?_
  refine ki (v := 2) (by decide) ?_
  refine va_sld hx hb hX hbl hbA hS (i := 2) (vp_k (by decide)) dL_law_814 ?_
  refine kv (v := .int (xs 2)) rfl ?_
  refine cr_V (As := [.int (xs 1), .int (xs 2)]) (rest := [.int (-1)]) hFX hKK (c_X12_unlike l D κ m0 a0 a1 a2 a5 a14 a15 a16 a17 a20 a21 a23 a24 a25 a28 (xs 1) (xs 2)) 2 gV_L_89 hdV_X12_unlike rfl rfl ⟨Nat.le_of_ble_eq_true rfl, Nat.le_of_ble_eq_true rfl⟩ rfl rfl (Nat.le_of_ble_eq_true rfl) dL_law_815 ⟨Nat.le_of_ble_eq_true rfl, Nat.le_of_ble_eq_true rfl⟩ hl.1 hP 25 12 rfl rfl rfl (hP.sub [25, 26] rfl) (fun _ hp_2 => ?_)
  refine W.eq (g2 := F0 m 818 ls [.int (-1), .int (-1)]) rfl ?_
  refine lv_icmp_eq (tgt := 1622) hx hb dL_law_818 (by decide) (fun c_3 => ?_) (fun c_3 => absurd (by decide) c_3)
  exact law_tail C0 hA hAq hS hl (Nat.le_of_ble_eq_true rfl) (Nat.le_of_ble_eq_true rfl)
set_option maxHeartbeats 4000000 in
set_option maxRecDepth 100000 in
theorem law_case_17 {p : Program} {l : Launch} {e : Env} {s : State} {m : MethodId} {below : List Frame} {meth : Method} {c : Code} {D : va_G} {κ : Nat → ClassId} {b : Nat} {xs : Nat → Int32} (C0 : lw_At p s m meth c b 6 xs) (hKK : KK D κ s) {A : Nat → Prop} (hA : ∀ q : Nat, s.heap.size ≤ q → A q) (hAq : ∀ q : Nat, A q → s.heap.size ≤ q) (x0 n0 t0 f0 r0 w0 k0 n1 n2 n3 n4 n5 t1 b0 r1 r2 r3 r4 b1 w1 k1 k2 k3 k4 k5 m0 a0 a1 a2 a5 a14 a15 a16 a17 a20 a21 a23 a24 a25 a28 : Nat) {H : Heap} {locs : List Loc} {ls : Array Slot} (hP : va_P D vwCl [(x0, .inr (11, [.ref n0, .ref t0, .ref f0, .ref r0, .ref w0, .ref k0, .int 0])), (n0, .inr (6, [.ref n1, .ref n2, .ref n3, .ref n4, .ref n5, .int 0])), (n1, .inl (κ 0, 6, .inl dial0)), (n2, .inl (κ 4, 3, .inr (.inr (.inr (.inr (fun _ => none)))))), (n3, .inl (κ 5, 3, .inr (.inr (.inr (.inr (fun _ => none)))))), (n4, .inl (κ 0, 6, .inl (fun _ => 0))), (n5, .inl (κ 4, 6, .inr (.inr (.inr (.inr (fun _ => none)))))), (t0, .inr (8, [.ref t1, .int 0])), (t1, .inl (κ 0, 800, .inl (fun _ => 0))), (f0, .inr (2, [.int 0, .int (-1), .int (-1), .int (-1), .int (-1), .int 0])), (r0, .inr (4, [.ref t0, .ref n1, .ref f0, .ref b0, .int 0, .int (-1), .ref r1, .int 0, .ref r2, .ref r3, .int 0, .null, .ref r4, .int 0])), (b0, .inr (0, [.ref b1, .int 0, .long 0])), (b1, .inl (κ 1, 0, .inl (fun _ => 0))), (r1, .inl (κ 1, 20, .inl (fun _ => 0))), (r2, .inl (κ 2, 8, .inr (.inr (.inr (.inr (fun _ => none)))))), (r3, .inl (κ 0, 8, .inl (fun _ => 0))), (r4, .inl (κ 2, 320, .inr (.inr (.inr (.inr (fun _ => none)))))), (w0, .inr (10, [.ref n1, .ref w1, .int 0])), (w1, .inl (κ 1, 6000, .inl (fun _ => 0))), (k0, .inr (6, [.ref k1, .ref k2, .ref k3, .ref k4, .ref k5, .int 0])), (k1, .inl (κ 0, 6, .inl dial0)), (k2, .inl (κ 4, 3, .inr (.inr (.inr (.inr (fun _ => none)))))), (k3, .inl (κ 5, 3, .inr (.inr (.inr (.inr (fun _ => none)))))), (k4, .inl (κ 0, 6, .inl (fun _ => 0))), (k5, .inl (κ 4, 6, .inr (.inr (.inr (.inr (fun _ => none)))))), (m0, .inr (12, [.ref a0, .ref a1, .ref a2, .int 0, .int 0, .ref a5, .int 0, .int 0, .int (-1), .int (-1), .int 0, .int 0, .int 0, .int 0, .ref a14, .ref a15, .ref a16, .ref a17, .int 0, .int 0, .ref a20, .ref a21, .int 0, .ref a23, .ref a24, .ref a25, .int 0, .int 0, .ref a28, .int 0])), (a0, .inl (κ 0, 21375, .inl wf0)), (a1, .inl (κ 0, 21375, .inl (fun _ => 0))), (a2, .inl (κ 0, 128214, .inl (fun _ => 0))), (a5, .inl (κ 0, 800, .inl (fun _ => 0))), (a14, .inl (κ 0, 189, .inl (fun _ => 0))), (a15, .inl (κ 0, 9, .inl (fun _ => 0))), (a16, .inl (κ 0, 9, .inl (fun _ => 0))), (a17, .inl (κ 0, 7123, .inl (fun _ => 0))), (a20, .inl (κ 0, 801, .inl (fun _ => 0))), (a21, .inl (κ 0, 40, .inl (fun _ => 0))), (a23, .inl (κ 0, 40, .inl (fun _ => 0))), (a24, .inl (κ 0, 40, .inl (fun _ => 0))), (a25, .inl (κ 0, 6000, .inl (fun _ => 0))), (a28, .inl (κ 0, 400, .inl (fun _ => 0)))] H) (hD : va_D A [(x0, .inr (11, [.ref n0, .ref t0, .ref f0, .ref r0, .ref w0, .ref k0, .int 0])), (n0, .inr (6, [.ref n1, .ref n2, .ref n3, .ref n4, .ref n5, .int 0])), (n1, .inl (κ 0, 6, .inl dial0)), (n2, .inl (κ 4, 3, .inr (.inr (.inr (.inr (fun _ => none)))))), (n3, .inl (κ 5, 3, .inr (.inr (.inr (.inr (fun _ => none)))))), (n4, .inl (κ 0, 6, .inl (fun _ => 0))), (n5, .inl (κ 4, 6, .inr (.inr (.inr (.inr (fun _ => none)))))), (t0, .inr (8, [.ref t1, .int 0])), (t1, .inl (κ 0, 800, .inl (fun _ => 0))), (f0, .inr (2, [.int 0, .int (-1), .int (-1), .int (-1), .int (-1), .int 0])), (r0, .inr (4, [.ref t0, .ref n1, .ref f0, .ref b0, .int 0, .int (-1), .ref r1, .int 0, .ref r2, .ref r3, .int 0, .null, .ref r4, .int 0])), (b0, .inr (0, [.ref b1, .int 0, .long 0])), (b1, .inl (κ 1, 0, .inl (fun _ => 0))), (r1, .inl (κ 1, 20, .inl (fun _ => 0))), (r2, .inl (κ 2, 8, .inr (.inr (.inr (.inr (fun _ => none)))))), (r3, .inl (κ 0, 8, .inl (fun _ => 0))), (r4, .inl (κ 2, 320, .inr (.inr (.inr (.inr (fun _ => none)))))), (w0, .inr (10, [.ref n1, .ref w1, .int 0])), (w1, .inl (κ 1, 6000, .inl (fun _ => 0))), (k0, .inr (6, [.ref k1, .ref k2, .ref k3, .ref k4, .ref k5, .int 0])), (k1, .inl (κ 0, 6, .inl dial0)), (k2, .inl (κ 4, 3, .inr (.inr (.inr (.inr (fun _ => none)))))), (k3, .inl (κ 5, 3, .inr (.inr (.inr (.inr (fun _ => none)))))), (k4, .inl (κ 0, 6, .inl (fun _ => 0))), (k5, .inl (κ 4, 6, .inr (.inr (.inr (.inr (fun _ => none)))))), (m0, .inr (12, [.ref a0, .ref a1, .ref a2, .int 0, .int 0, .ref a5, .int 0, .int 0, .int (-1), .int (-1), .int 0, .int 0, .int 0, .int 0, .ref a14, .ref a15, .ref a16, .ref a17, .int 0, .int 0, .ref a20, .ref a21, .int 0, .ref a23, .ref a24, .ref a25, .int 0, .int 0, .ref a28, .int 0])), (a0, .inl (κ 0, 21375, .inl wf0)), (a1, .inl (κ 0, 21375, .inl (fun _ => 0))), (a2, .inl (κ 0, 128214, .inl (fun _ => 0))), (a5, .inl (κ 0, 800, .inl (fun _ => 0))), (a14, .inl (κ 0, 189, .inl (fun _ => 0))), (a15, .inl (κ 0, 9, .inl (fun _ => 0))), (a16, .inl (κ 0, 9, .inl (fun _ => 0))), (a17, .inl (κ 0, 7123, .inl (fun _ => 0))), (a20, .inl (κ 0, 801, .inl (fun _ => 0))), (a21, .inl (κ 0, 40, .inl (fun _ => 0))), (a23, .inl (κ 0, 40, .inl (fun _ => 0))), (a24, .inl (κ 0, 40, .inl (fun _ => 0))), (a25, .inl (κ 0, 6000, .inl (fun _ => 0))), (a28, .inl (κ 0, 400, .inl (fun _ => 0)))]) (hS : va_S A s.heap H locs) (hl : lv_has ls 4 [(3, .int 0), (2, .ref m0), (1, .ref x0), (0, .ref b)]) : W p l e room_1 s m #[Value.ref b] below meth c H locs 40 193696 (lw_Z below #[Value.ref b] s) (F0 m 823 ls []) := by
  obtain ⟨hx, hb, hr, hml, hown, hts0, hX, hbl, hlk, hgv⟩ := id C0
  have hb : c.code = cL_law := hb
  have hts : ∀ w ∈ wsL_law, w.before #[Value.ref b] s = true := fun w h => hts0 w (wsL_law_in w h)
  have hown : s.vm.findClass RL = some m.cls := hown
  have hK : va_K D vwCl (T0 κ) s := hKK.1
  have hbA : ¬ A b := fun h => absurd (hAq b h) (Nat.not_le.mpr hbl)
  have hFX : FX p s m #[Value.ref b] c cL_law 4 RL := ⟨hx, hb, hml, hown, hts⟩
  refine lv_aload_n hx hb dL_law_823 rfl (lv_at hl 2 rfl) ?_
  refine lv_aload_n hx hb dL_law_824 rfl (lv_at hl 3 rfl) ?_
  refine lv_iload_n hx hb dL_law_825 rfl (lv_at hl 0 rfl) ?_
  refine lv_iconst (v := 1) hx hb dL_law_826 (by decide) ?_
  refine lv_iadd hx hb dL_law_827 ?_
  refine ki (v := 1) (by decide) ?_
  refine va_sld hx hb hX hbl hbA hS (i := 1) (vp_k (by decide)) dL_law_828 ?_
  refine kv (v := .int (xs 1)) rfl ?_
  refine cr_V (As := [.int (xs 1)]) (rest := []) hFX hKK (c_X11_back l D κ x0 n0 t0 f0 r0 w0 k0 n1 n2 n3 n4 n5 (xs 1)) 1 gV_L_90 hdV_X11_back rfl rfl ⟨Nat.le_of_ble_eq_true rfl, Nat.le_of_ble_eq_true rfl⟩ rfl rfl (Nat.le_of_ble_eq_true rfl) dL_law_829 ⟨Nat.le_of_ble_eq_true rfl, Nat.le_of_ble_eq_true rfl⟩ hl.1 hP 0 11 rfl rfl rfl (hP.sub [0, 1, 4] rfl) (fun _ hp_1 => ?_)
  refine W.eq (g2 := F0 m 832 ls [.int (-1)]) rfl ?_
  refine lv_aload_n hx hb dL_law_832 rfl (lv_at hl 1 rfl) ?_
  refine lv_aload_n hx hb dL_law_833 rfl (lv_at hl 3 rfl) ?_
  refine lv_iload_n hx hb dL_law_834 rfl (lv_at hl 0 rfl) ?_
  refine lv_iconst (v := 1) hx hb dL_law_835 (by decide) ?_
  refine lv_iadd hx hb dL_law_836 ?_
  refine ki (v := 1) (by decide) ?_
  refine va_sld hx hb hX hbl hbA hS (i := 1) (vp_k (by decide)) dL_law_837 ?_
  refine kv (v := .int (xs 1)) rfl ?_
  refine cr_V (As := [.int (xs 1)]) (rest := [.int (-1)]) hFX hKK (c_X12_back l D κ m0 a0 a1 a2 a5 a14 a15 a16 a17 a20 a21 a23 a24 a25 a28 (xs 1)) 1 gV_L_93 hdV_X12_back rfl rfl ⟨Nat.le_of_ble_eq_true rfl, Nat.le_of_ble_eq_true rfl⟩ rfl rfl (Nat.le_of_ble_eq_true rfl) dL_law_838 ⟨Nat.le_of_ble_eq_true rfl, Nat.le_of_ble_eq_true rfl⟩ hl.1 hP 25 12 rfl rfl rfl (hP.sub [25, 26] rfl) (fun _ hp_2 => ?_)
  refine W.eq (g2 := F0 m 841 ls [.int (-1), .int (-1)]) rfl ?_
  refine lv_icmp_eq (tgt := 1622) hx hb dL_law_841 (by decide) (fun c_3 => ?_) (fun c_3 => absurd (by decide) c_3)
  exact law_tail C0 hA hAq hS hl (Nat.le_of_ble_eq_true rfl) (Nat.le_of_ble_eq_true rfl)
set_option maxHeartbeats 4000000 in
set_option maxRecDepth 100000 in
theorem law_case_18 {p : Program} {l : Launch} {e : Env} {s : State} {m : MethodId} {below : List Frame} {meth : Method} {c : Code} {D : va_G} {κ : Nat → ClassId} {b : Nat} {xs : Nat → Int32} (C0 : lw_At p s m meth c b 6 xs) (hKK : KK D κ s) {A : Nat → Prop} (hA : ∀ q : Nat, s.heap.size ≤ q → A q) (hAq : ∀ q : Nat, A q → s.heap.size ≤ q) (x0 n0 t0 f0 r0 w0 k0 n1 n2 n3 n4 n5 t1 b0 r1 r2 r3 r4 b1 w1 k1 k2 k3 k4 k5 m0 a0 a1 a2 a5 a14 a15 a16 a17 a20 a21 a23 a24 a25 a28 : Nat) {H : Heap} {locs : List Loc} {ls : Array Slot} (hP : va_P D vwCl [(x0, .inr (11, [.ref n0, .ref t0, .ref f0, .ref r0, .ref w0, .ref k0, .int 0])), (n0, .inr (6, [.ref n1, .ref n2, .ref n3, .ref n4, .ref n5, .int 0])), (n1, .inl (κ 0, 6, .inl dial0)), (n2, .inl (κ 4, 3, .inr (.inr (.inr (.inr (fun _ => none)))))), (n3, .inl (κ 5, 3, .inr (.inr (.inr (.inr (fun _ => none)))))), (n4, .inl (κ 0, 6, .inl (fun _ => 0))), (n5, .inl (κ 4, 6, .inr (.inr (.inr (.inr (fun _ => none)))))), (t0, .inr (8, [.ref t1, .int 0])), (t1, .inl (κ 0, 800, .inl (fun _ => 0))), (f0, .inr (2, [.int 0, .int (-1), .int (-1), .int (-1), .int (-1), .int 0])), (r0, .inr (4, [.ref t0, .ref n1, .ref f0, .ref b0, .int 0, .int (-1), .ref r1, .int 0, .ref r2, .ref r3, .int 0, .null, .ref r4, .int 0])), (b0, .inr (0, [.ref b1, .int 0, .long 0])), (b1, .inl (κ 1, 0, .inl (fun _ => 0))), (r1, .inl (κ 1, 20, .inl (fun _ => 0))), (r2, .inl (κ 2, 8, .inr (.inr (.inr (.inr (fun _ => none)))))), (r3, .inl (κ 0, 8, .inl (fun _ => 0))), (r4, .inl (κ 2, 320, .inr (.inr (.inr (.inr (fun _ => none)))))), (w0, .inr (10, [.ref n1, .ref w1, .int 0])), (w1, .inl (κ 1, 6000, .inl (fun _ => 0))), (k0, .inr (6, [.ref k1, .ref k2, .ref k3, .ref k4, .ref k5, .int 0])), (k1, .inl (κ 0, 6, .inl dial0)), (k2, .inl (κ 4, 3, .inr (.inr (.inr (.inr (fun _ => none)))))), (k3, .inl (κ 5, 3, .inr (.inr (.inr (.inr (fun _ => none)))))), (k4, .inl (κ 0, 6, .inl (fun _ => 0))), (k5, .inl (κ 4, 6, .inr (.inr (.inr (.inr (fun _ => none)))))), (m0, .inr (12, [.ref a0, .ref a1, .ref a2, .int 0, .int 0, .ref a5, .int 0, .int 0, .int (-1), .int (-1), .int 0, .int 0, .int 0, .int 0, .ref a14, .ref a15, .ref a16, .ref a17, .int 0, .int 0, .ref a20, .ref a21, .int 0, .ref a23, .ref a24, .ref a25, .int 0, .int 0, .ref a28, .int 0])), (a0, .inl (κ 0, 21375, .inl wf0)), (a1, .inl (κ 0, 21375, .inl (fun _ => 0))), (a2, .inl (κ 0, 128214, .inl (fun _ => 0))), (a5, .inl (κ 0, 800, .inl (fun _ => 0))), (a14, .inl (κ 0, 189, .inl (fun _ => 0))), (a15, .inl (κ 0, 9, .inl (fun _ => 0))), (a16, .inl (κ 0, 9, .inl (fun _ => 0))), (a17, .inl (κ 0, 7123, .inl (fun _ => 0))), (a20, .inl (κ 0, 801, .inl (fun _ => 0))), (a21, .inl (κ 0, 40, .inl (fun _ => 0))), (a23, .inl (κ 0, 40, .inl (fun _ => 0))), (a24, .inl (κ 0, 40, .inl (fun _ => 0))), (a25, .inl (κ 0, 6000, .inl (fun _ => 0))), (a28, .inl (κ 0, 400, .inl (fun _ => 0)))] H) (hD : va_D A [(x0, .inr (11, [.ref n0, .ref t0, .ref f0, .ref r0, .ref w0, .ref k0, .int 0])), (n0, .inr (6, [.ref n1, .ref n2, .ref n3, .ref n4, .ref n5, .int 0])), (n1, .inl (κ 0, 6, .inl dial0)), (n2, .inl (κ 4, 3, .inr (.inr (.inr (.inr (fun _ => none)))))), (n3, .inl (κ 5, 3, .inr (.inr (.inr (.inr (fun _ => none)))))), (n4, .inl (κ 0, 6, .inl (fun _ => 0))), (n5, .inl (κ 4, 6, .inr (.inr (.inr (.inr (fun _ => none)))))), (t0, .inr (8, [.ref t1, .int 0])), (t1, .inl (κ 0, 800, .inl (fun _ => 0))), (f0, .inr (2, [.int 0, .int (-1), .int (-1), .int (-1), .int (-1), .int 0])), (r0, .inr (4, [.ref t0, .ref n1, .ref f0, .ref b0, .int 0, .int (-1), .ref r1, .int 0, .ref r2, .ref r3, .int 0, .null, .ref r4, .int 0])), (b0, .inr (0, [.ref b1, .int 0, .long 0])), (b1, .inl (κ 1, 0, .inl (fun _ => 0))), (r1, .inl (κ 1, 20, .inl (fun _ => 0))), (r2, .inl (κ 2, 8, .inr (.inr (.inr (.inr (fun _ => none)))))), (r3, .inl (κ 0, 8, .inl (fun _ => 0))), (r4, .inl (κ 2, 320, .inr (.inr (.inr (.inr (fun _ => none)))))), (w0, .inr (10, [.ref n1, .ref w1, .int 0])), (w1, .inl (κ 1, 6000, .inl (fun _ => 0))), (k0, .inr (6, [.ref k1, .ref k2, .ref k3, .ref k4, .ref k5, .int 0])), (k1, .inl (κ 0, 6, .inl dial0)), (k2, .inl (κ 4, 3, .inr (.inr (.inr (.inr (fun _ => none)))))), (k3, .inl (κ 5, 3, .inr (.inr (.inr (.inr (fun _ => none)))))), (k4, .inl (κ 0, 6, .inl (fun _ => 0))), (k5, .inl (κ 4, 6, .inr (.inr (.inr (.inr (fun _ => none)))))), (m0, .inr (12, [.ref a0, .ref a1, .ref a2, .int 0, .int 0, .ref a5, .int 0, .int 0, .int (-1), .int (-1), .int 0, .int 0, .int 0, .int 0, .ref a14, .ref a15, .ref a16, .ref a17, .int 0, .int 0, .ref a20, .ref a21, .int 0, .ref a23, .ref a24, .ref a25, .int 0, .int 0, .ref a28, .int 0])), (a0, .inl (κ 0, 21375, .inl wf0)), (a1, .inl (κ 0, 21375, .inl (fun _ => 0))), (a2, .inl (κ 0, 128214, .inl (fun _ => 0))), (a5, .inl (κ 0, 800, .inl (fun _ => 0))), (a14, .inl (κ 0, 189, .inl (fun _ => 0))), (a15, .inl (κ 0, 9, .inl (fun _ => 0))), (a16, .inl (κ 0, 9, .inl (fun _ => 0))), (a17, .inl (κ 0, 7123, .inl (fun _ => 0))), (a20, .inl (κ 0, 801, .inl (fun _ => 0))), (a21, .inl (κ 0, 40, .inl (fun _ => 0))), (a23, .inl (κ 0, 40, .inl (fun _ => 0))), (a24, .inl (κ 0, 40, .inl (fun _ => 0))), (a25, .inl (κ 0, 6000, .inl (fun _ => 0))), (a28, .inl (κ 0, 400, .inl (fun _ => 0)))]) (hS : va_S A s.heap H locs) (hl : lv_has ls 4 [(3, .int 0), (2, .ref m0), (1, .ref x0), (0, .ref b)]) : W p l e room_1 s m #[Value.ref b] below meth c H locs 40 193696 (lw_Z below #[Value.ref b] s) (F0 m 846 ls []) := by
  obtain ⟨hx, hb, hr, hml, hown, hts0, hX, hbl, hlk, hgv⟩ := id C0
  have hb : c.code = cL_law := hb
  have hts : ∀ w ∈ wsL_law, w.before #[Value.ref b] s = true := fun w h => hts0 w (wsL_law_in w h)
  have hown : s.vm.findClass RL = some m.cls := hown
  have hK : va_K D vwCl (T0 κ) s := hKK.1
  have hbA : ¬ A b := fun h => absurd (hAq b h) (Nat.not_le.mpr hbl)
  have hFX : FX p s m #[Value.ref b] c cL_law 4 RL := ⟨hx, hb, hml, hown, hts⟩
  refine lv_aload_n hx hb dL_law_846 rfl (lv_at hl 2 rfl) ?_
  refine lv_aload_n hx hb dL_law_847 rfl (lv_at hl 3 rfl) ?_
  refine lv_iload_n hx hb dL_law_848 rfl (lv_at hl 0 rfl) ?_
  refine lv_iconst (v := 1) hx hb dL_law_849 (by decide) ?_
  refine lv_iadd hx hb dL_law_850 ?_
  refine ki (v := 1) (by decide) ?_
  refine va_sld hx hb hX hbl hbA hS (i := 1) (vp_k (by decide)) dL_law_851 ?_
  refine kv (v := .int (xs 1)) rfl ?_
  refine lv_aload_n hx hb dL_law_852 rfl (lv_at hl 3 rfl) ?_
  refine lv_iload_n hx hb dL_law_853 rfl (lv_at hl 0 rfl) ?_
  refine lv_iconst (v := 2) hx hb dL_law_854 (by decide) ?_
  refine lv_iadd hx hb dL_law_855 ?_
  refine ki (v := 2) (by decide) ?_
  refine va_sld hx hb hX hbl hbA hS (i := 2) (vp_k (by decide)) dL_law_856 ?_
  refine kv (v := .int (xs 2)) rfl ?_
  refine cr_V (As := [.int (xs 1), .int (xs 2)]) (rest := []) hFX hKK (c_X11_view l D κ x0 n0 t0 f0 r0 w0 k0 n1 n2 n3 n4 n5 (xs 1) (xs 2)) 2 gV_L_94 hdV_X11_view rfl rfl ⟨Nat.le_of_ble_eq_true rfl, Nat.le_of_ble_eq_true rfl⟩ rfl rfl (Nat.le_of_ble_eq_true rfl) dL_law_857 ⟨Nat.le_of_ble_eq_true rfl, Nat.le_of_ble_eq_true rfl⟩ hl.1 hP 0 11 rfl rfl rfl (hP.sub [0, 1, 4] rfl) (fun _ hp_1 => ?_)
  refine W.eq (g2 := F0 m 860 ls [.int (-1)]) rfl ?_
  refine lv_aload_n hx hb dL_law_860 rfl (lv_at hl 1 rfl) ?_
  refine lv_aload_n hx hb dL_law_861 rfl (lv_at hl 3 rfl) ?_
  refine lv_iload_n hx hb dL_law_862 rfl (lv_at hl 0 rfl) ?_
  refine lv_iconst (v := 1) hx hb dL_law_863 (by decide) ?_
  refine lv_iadd hx hb dL_law_864 ?_
  refine ki (v := 1) (by decide) ?_
  refine va_sld hx hb hX hbl hbA hS (i := 1) (vp_k (by decide)) dL_law_865 ?_
  refine kv (v := .int (xs 1)) rfl ?_
  refine lv_aload_n hx hb dL_law_866 rfl (lv_at hl 3 rfl) ?_
  refine lv_iload_n hx hb dL_law_867 rfl (lv_at hl 0 rfl) ?_
  refine lv_iconst (v := 2) hx hb dL_law_868 (by decide) ?_
  refine lv_iadd hx hb dL_law_869 ?_
  refine ki (v := 2) (by decide) ?_
  refine va_sld hx hb hX hbl hbA hS (i := 2) (vp_k (by decide)) dL_law_870 ?_
  refine kv (v := .int (xs 2)) rfl ?_
  refine cr_V (As := [.int (xs 1), .int (xs 2)]) (rest := [.int (-1)]) hFX hKK (c_X12_view l D κ m0 a0 a1 a2 a5 a14 a15 a16 a17 a20 a21 a23 a24 a25 a28 (xs 1) (xs 2)) 2 gV_L_97 hdV_X12_view rfl rfl ⟨Nat.le_of_ble_eq_true rfl, Nat.le_of_ble_eq_true rfl⟩ rfl rfl (Nat.le_of_ble_eq_true rfl) dL_law_871 ⟨Nat.le_of_ble_eq_true rfl, Nat.le_of_ble_eq_true rfl⟩ hl.1 hP 25 12 rfl rfl rfl (hP.sub [25, 26] rfl) (fun _ hp_2 => ?_)
  refine W.eq (g2 := F0 m 874 ls [.int (-1), .int (-1)]) rfl ?_
  refine lv_icmp_eq (tgt := 1622) hx hb dL_law_874 (by decide) (fun c_3 => ?_) (fun c_3 => absurd (by decide) c_3)
  exact law_tail C0 hA hAq hS hl (Nat.le_of_ble_eq_true rfl) (Nat.le_of_ble_eq_true rfl)
set_option maxHeartbeats 4000000 in
set_option maxRecDepth 100000 in
theorem law_case_19 {p : Program} {l : Launch} {e : Env} {s : State} {m : MethodId} {below : List Frame} {meth : Method} {c : Code} {D : va_G} {κ : Nat → ClassId} {b : Nat} {xs : Nat → Int32} (C0 : lw_At p s m meth c b 6 xs) (hKK : KK D κ s) {A : Nat → Prop} (hA : ∀ q : Nat, s.heap.size ≤ q → A q) (hAq : ∀ q : Nat, A q → s.heap.size ≤ q) (x0 n0 t0 f0 r0 w0 k0 n1 n2 n3 n4 n5 t1 b0 r1 r2 r3 r4 b1 w1 k1 k2 k3 k4 k5 m0 a0 a1 a2 a5 a14 a15 a16 a17 a20 a21 a23 a24 a25 a28 : Nat) {H : Heap} {locs : List Loc} {ls : Array Slot} (hP : va_P D vwCl [(x0, .inr (11, [.ref n0, .ref t0, .ref f0, .ref r0, .ref w0, .ref k0, .int 0])), (n0, .inr (6, [.ref n1, .ref n2, .ref n3, .ref n4, .ref n5, .int 0])), (n1, .inl (κ 0, 6, .inl dial0)), (n2, .inl (κ 4, 3, .inr (.inr (.inr (.inr (fun _ => none)))))), (n3, .inl (κ 5, 3, .inr (.inr (.inr (.inr (fun _ => none)))))), (n4, .inl (κ 0, 6, .inl (fun _ => 0))), (n5, .inl (κ 4, 6, .inr (.inr (.inr (.inr (fun _ => none)))))), (t0, .inr (8, [.ref t1, .int 0])), (t1, .inl (κ 0, 800, .inl (fun _ => 0))), (f0, .inr (2, [.int 0, .int (-1), .int (-1), .int (-1), .int (-1), .int 0])), (r0, .inr (4, [.ref t0, .ref n1, .ref f0, .ref b0, .int 0, .int (-1), .ref r1, .int 0, .ref r2, .ref r3, .int 0, .null, .ref r4, .int 0])), (b0, .inr (0, [.ref b1, .int 0, .long 0])), (b1, .inl (κ 1, 0, .inl (fun _ => 0))), (r1, .inl (κ 1, 20, .inl (fun _ => 0))), (r2, .inl (κ 2, 8, .inr (.inr (.inr (.inr (fun _ => none)))))), (r3, .inl (κ 0, 8, .inl (fun _ => 0))), (r4, .inl (κ 2, 320, .inr (.inr (.inr (.inr (fun _ => none)))))), (w0, .inr (10, [.ref n1, .ref w1, .int 0])), (w1, .inl (κ 1, 6000, .inl (fun _ => 0))), (k0, .inr (6, [.ref k1, .ref k2, .ref k3, .ref k4, .ref k5, .int 0])), (k1, .inl (κ 0, 6, .inl dial0)), (k2, .inl (κ 4, 3, .inr (.inr (.inr (.inr (fun _ => none)))))), (k3, .inl (κ 5, 3, .inr (.inr (.inr (.inr (fun _ => none)))))), (k4, .inl (κ 0, 6, .inl (fun _ => 0))), (k5, .inl (κ 4, 6, .inr (.inr (.inr (.inr (fun _ => none)))))), (m0, .inr (12, [.ref a0, .ref a1, .ref a2, .int 0, .int 0, .ref a5, .int 0, .int 0, .int (-1), .int (-1), .int 0, .int 0, .int 0, .int 0, .ref a14, .ref a15, .ref a16, .ref a17, .int 0, .int 0, .ref a20, .ref a21, .int 0, .ref a23, .ref a24, .ref a25, .int 0, .int 0, .ref a28, .int 0])), (a0, .inl (κ 0, 21375, .inl wf0)), (a1, .inl (κ 0, 21375, .inl (fun _ => 0))), (a2, .inl (κ 0, 128214, .inl (fun _ => 0))), (a5, .inl (κ 0, 800, .inl (fun _ => 0))), (a14, .inl (κ 0, 189, .inl (fun _ => 0))), (a15, .inl (κ 0, 9, .inl (fun _ => 0))), (a16, .inl (κ 0, 9, .inl (fun _ => 0))), (a17, .inl (κ 0, 7123, .inl (fun _ => 0))), (a20, .inl (κ 0, 801, .inl (fun _ => 0))), (a21, .inl (κ 0, 40, .inl (fun _ => 0))), (a23, .inl (κ 0, 40, .inl (fun _ => 0))), (a24, .inl (κ 0, 40, .inl (fun _ => 0))), (a25, .inl (κ 0, 6000, .inl (fun _ => 0))), (a28, .inl (κ 0, 400, .inl (fun _ => 0)))] H) (hD : va_D A [(x0, .inr (11, [.ref n0, .ref t0, .ref f0, .ref r0, .ref w0, .ref k0, .int 0])), (n0, .inr (6, [.ref n1, .ref n2, .ref n3, .ref n4, .ref n5, .int 0])), (n1, .inl (κ 0, 6, .inl dial0)), (n2, .inl (κ 4, 3, .inr (.inr (.inr (.inr (fun _ => none)))))), (n3, .inl (κ 5, 3, .inr (.inr (.inr (.inr (fun _ => none)))))), (n4, .inl (κ 0, 6, .inl (fun _ => 0))), (n5, .inl (κ 4, 6, .inr (.inr (.inr (.inr (fun _ => none)))))), (t0, .inr (8, [.ref t1, .int 0])), (t1, .inl (κ 0, 800, .inl (fun _ => 0))), (f0, .inr (2, [.int 0, .int (-1), .int (-1), .int (-1), .int (-1), .int 0])), (r0, .inr (4, [.ref t0, .ref n1, .ref f0, .ref b0, .int 0, .int (-1), .ref r1, .int 0, .ref r2, .ref r3, .int 0, .null, .ref r4, .int 0])), (b0, .inr (0, [.ref b1, .int 0, .long 0])), (b1, .inl (κ 1, 0, .inl (fun _ => 0))), (r1, .inl (κ 1, 20, .inl (fun _ => 0))), (r2, .inl (κ 2, 8, .inr (.inr (.inr (.inr (fun _ => none)))))), (r3, .inl (κ 0, 8, .inl (fun _ => 0))), (r4, .inl (κ 2, 320, .inr (.inr (.inr (.inr (fun _ => none)))))), (w0, .inr (10, [.ref n1, .ref w1, .int 0])), (w1, .inl (κ 1, 6000, .inl (fun _ => 0))), (k0, .inr (6, [.ref k1, .ref k2, .ref k3, .ref k4, .ref k5, .int 0])), (k1, .inl (κ 0, 6, .inl dial0)), (k2, .inl (κ 4, 3, .inr (.inr (.inr (.inr (fun _ => none)))))), (k3, .inl (κ 5, 3, .inr (.inr (.inr (.inr (fun _ => none)))))), (k4, .inl (κ 0, 6, .inl (fun _ => 0))), (k5, .inl (κ 4, 6, .inr (.inr (.inr (.inr (fun _ => none)))))), (m0, .inr (12, [.ref a0, .ref a1, .ref a2, .int 0, .int 0, .ref a5, .int 0, .int 0, .int (-1), .int (-1), .int 0, .int 0, .int 0, .int 0, .ref a14, .ref a15, .ref a16, .ref a17, .int 0, .int 0, .ref a20, .ref a21, .int 0, .ref a23, .ref a24, .ref a25, .int 0, .int 0, .ref a28, .int 0])), (a0, .inl (κ 0, 21375, .inl wf0)), (a1, .inl (κ 0, 21375, .inl (fun _ => 0))), (a2, .inl (κ 0, 128214, .inl (fun _ => 0))), (a5, .inl (κ 0, 800, .inl (fun _ => 0))), (a14, .inl (κ 0, 189, .inl (fun _ => 0))), (a15, .inl (κ 0, 9, .inl (fun _ => 0))), (a16, .inl (κ 0, 9, .inl (fun _ => 0))), (a17, .inl (κ 0, 7123, .inl (fun _ => 0))), (a20, .inl (κ 0, 801, .inl (fun _ => 0))), (a21, .inl (κ 0, 40, .inl (fun _ => 0))), (a23, .inl (κ 0, 40, .inl (fun _ => 0))), (a24, .inl (κ 0, 40, .inl (fun _ => 0))), (a25, .inl (κ 0, 6000, .inl (fun _ => 0))), (a28, .inl (κ 0, 400, .inl (fun _ => 0)))]) (hS : va_S A s.heap H locs) (hl : lv_has ls 4 [(3, .int 0), (2, .ref m0), (1, .ref x0), (0, .ref b)]) : W p l e room_1 s m #[Value.ref b] below meth c H locs 40 193696 (lw_Z below #[Value.ref b] s) (F0 m 879 ls []) := by
  obtain ⟨hx, hb, hr, hml, hown, hts0, hX, hbl, hlk, hgv⟩ := id C0
  have hb : c.code = cL_law := hb
  have hts : ∀ w ∈ wsL_law, w.before #[Value.ref b] s = true := fun w h => hts0 w (wsL_law_in w h)
  have hown : s.vm.findClass RL = some m.cls := hown
  have hK : va_K D vwCl (T0 κ) s := hKK.1
  have hbA : ¬ A b := fun h => absurd (hAq b h) (Nat.not_le.mpr hbl)
  have hFX : FX p s m #[Value.ref b] c cL_law 4 RL := ⟨hx, hb, hml, hown, hts⟩
  refine lv_aload_n hx hb dL_law_879 rfl (lv_at hl 2 rfl) ?_
  refine lv_aload_n hx hb dL_law_880 rfl (lv_at hl 3 rfl) ?_
  refine lv_iload_n hx hb dL_law_881 rfl (lv_at hl 0 rfl) ?_
  refine lv_iconst (v := 1) hx hb dL_law_882 (by decide) ?_
  refine lv_iadd hx hb dL_law_883 ?_
  refine ki (v := 1) (by decide) ?_
  refine va_sld hx hb hX hbl hbA hS (i := 1) (vp_k (by decide)) dL_law_884 ?_
  refine kv (v := .int (xs 1)) rfl ?_
  refine lv_aload_n hx hb dL_law_885 rfl (lv_at hl 3 rfl) ?_
  refine lv_iload_n hx hb dL_law_886 rfl (lv_at hl 0 rfl) ?_
  refine lv_iconst (v := 2) hx hb dL_law_887 (by decide) ?_
  refine lv_iadd hx hb dL_law_888 ?_
  refine ki (v := 2) (by decide) ?_
  refine va_sld hx hb hX hbl hbA hS (i := 2) (vp_k (by decide)) dL_law_889 ?_
  refine kv (v := .int (xs 2)) rfl ?_
  refine cr_V (As := [.int (xs 1), .int (xs 2)]) (rest := []) hFX hKK (c_X11_table l D κ x0 n0 t0 f0 r0 w0 k0 n1 n2 n3 n4 n5 (xs 1) (xs 2)) 2 gV_L_98 hdV_X11_table rfl rfl ⟨Nat.le_of_ble_eq_true rfl, Nat.le_of_ble_eq_true rfl⟩ rfl rfl (Nat.le_of_ble_eq_true rfl) dL_law_890 ⟨Nat.le_of_ble_eq_true rfl, Nat.le_of_ble_eq_true rfl⟩ hl.1 hP 0 11 rfl rfl rfl (hP.sub [0, 1, 3, 4] rfl) (fun _ hp_1 => ?_)
  refine W.eq (g2 := F0 m 893 ls [.int (-1)]) rfl ?_
  refine lv_aload_n hx hb dL_law_893 rfl (lv_at hl 1 rfl) ?_
  refine lv_aload_n hx hb dL_law_894 rfl (lv_at hl 3 rfl) ?_
  refine lv_iload_n hx hb dL_law_895 rfl (lv_at hl 0 rfl) ?_
  refine lv_iconst (v := 1) hx hb dL_law_896 (by decide) ?_
  refine lv_iadd hx hb dL_law_897 ?_
  refine ki (v := 1) (by decide) ?_
  refine va_sld hx hb hX hbl hbA hS (i := 1) (vp_k (by decide)) dL_law_898 ?_
  refine kv (v := .int (xs 1)) rfl ?_
  refine lv_aload_n hx hb dL_law_899 rfl (lv_at hl 3 rfl) ?_
  refine lv_iload_n hx hb dL_law_900 rfl (lv_at hl 0 rfl) ?_
  refine lv_iconst (v := 2) hx hb dL_law_901 (by decide) ?_
  refine lv_iadd hx hb dL_law_902 ?_
  refine ki (v := 2) (by decide) ?_
  refine va_sld hx hb hX hbl hbA hS (i := 2) (vp_k (by decide)) dL_law_903 ?_
  refine kv (v := .int (xs 2)) rfl ?_
  refine cr_V (As := [.int (xs 1), .int (xs 2)]) (rest := [.int (-1)]) hFX hKK (c_X12_table l D κ m0 a0 a1 a2 a5 a14 a15 a16 a17 a20 a21 a23 a24 a25 a28 (xs 1) (xs 2)) 2 gV_L_101 hdV_X12_table rfl rfl ⟨Nat.le_of_ble_eq_true rfl, Nat.le_of_ble_eq_true rfl⟩ rfl rfl (Nat.le_of_ble_eq_true rfl) dL_law_904 ⟨Nat.le_of_ble_eq_true rfl, Nat.le_of_ble_eq_true rfl⟩ hl.1 hP 25 12 rfl rfl rfl (hP.sub [25, 26] rfl) (fun _ hp_2 => ?_)
  refine W.eq (g2 := F0 m 907 ls [.int (-1), .int (-1)]) rfl ?_
  refine lv_icmp_eq (tgt := 1622) hx hb dL_law_907 (by decide) (fun c_3 => ?_) (fun c_3 => absurd (by decide) c_3)
  exact law_tail C0 hA hAq hS hl (Nat.le_of_ble_eq_true rfl) (Nat.le_of_ble_eq_true rfl)
set_option maxHeartbeats 4000000 in
set_option maxRecDepth 100000 in
theorem law_case_20 {p : Program} {l : Launch} {e : Env} {s : State} {m : MethodId} {below : List Frame} {meth : Method} {c : Code} {D : va_G} {κ : Nat → ClassId} {b : Nat} {xs : Nat → Int32} (C0 : lw_At p s m meth c b 6 xs) (hKK : KK D κ s) {A : Nat → Prop} (hA : ∀ q : Nat, s.heap.size ≤ q → A q) (hAq : ∀ q : Nat, A q → s.heap.size ≤ q) (x0 n0 t0 f0 r0 w0 k0 n1 n2 n3 n4 n5 t1 b0 r1 r2 r3 r4 b1 w1 k1 k2 k3 k4 k5 m0 a0 a1 a2 a5 a14 a15 a16 a17 a20 a21 a23 a24 a25 a28 : Nat) {H : Heap} {locs : List Loc} {ls : Array Slot} (hP : va_P D vwCl [(x0, .inr (11, [.ref n0, .ref t0, .ref f0, .ref r0, .ref w0, .ref k0, .int 0])), (n0, .inr (6, [.ref n1, .ref n2, .ref n3, .ref n4, .ref n5, .int 0])), (n1, .inl (κ 0, 6, .inl dial0)), (n2, .inl (κ 4, 3, .inr (.inr (.inr (.inr (fun _ => none)))))), (n3, .inl (κ 5, 3, .inr (.inr (.inr (.inr (fun _ => none)))))), (n4, .inl (κ 0, 6, .inl (fun _ => 0))), (n5, .inl (κ 4, 6, .inr (.inr (.inr (.inr (fun _ => none)))))), (t0, .inr (8, [.ref t1, .int 0])), (t1, .inl (κ 0, 800, .inl (fun _ => 0))), (f0, .inr (2, [.int 0, .int (-1), .int (-1), .int (-1), .int (-1), .int 0])), (r0, .inr (4, [.ref t0, .ref n1, .ref f0, .ref b0, .int 0, .int (-1), .ref r1, .int 0, .ref r2, .ref r3, .int 0, .null, .ref r4, .int 0])), (b0, .inr (0, [.ref b1, .int 0, .long 0])), (b1, .inl (κ 1, 0, .inl (fun _ => 0))), (r1, .inl (κ 1, 20, .inl (fun _ => 0))), (r2, .inl (κ 2, 8, .inr (.inr (.inr (.inr (fun _ => none)))))), (r3, .inl (κ 0, 8, .inl (fun _ => 0))), (r4, .inl (κ 2, 320, .inr (.inr (.inr (.inr (fun _ => none)))))), (w0, .inr (10, [.ref n1, .ref w1, .int 0])), (w1, .inl (κ 1, 6000, .inl (fun _ => 0))), (k0, .inr (6, [.ref k1, .ref k2, .ref k3, .ref k4, .ref k5, .int 0])), (k1, .inl (κ 0, 6, .inl dial0)), (k2, .inl (κ 4, 3, .inr (.inr (.inr (.inr (fun _ => none)))))), (k3, .inl (κ 5, 3, .inr (.inr (.inr (.inr (fun _ => none)))))), (k4, .inl (κ 0, 6, .inl (fun _ => 0))), (k5, .inl (κ 4, 6, .inr (.inr (.inr (.inr (fun _ => none)))))), (m0, .inr (12, [.ref a0, .ref a1, .ref a2, .int 0, .int 0, .ref a5, .int 0, .int 0, .int (-1), .int (-1), .int 0, .int 0, .int 0, .int 0, .ref a14, .ref a15, .ref a16, .ref a17, .int 0, .int 0, .ref a20, .ref a21, .int 0, .ref a23, .ref a24, .ref a25, .int 0, .int 0, .ref a28, .int 0])), (a0, .inl (κ 0, 21375, .inl wf0)), (a1, .inl (κ 0, 21375, .inl (fun _ => 0))), (a2, .inl (κ 0, 128214, .inl (fun _ => 0))), (a5, .inl (κ 0, 800, .inl (fun _ => 0))), (a14, .inl (κ 0, 189, .inl (fun _ => 0))), (a15, .inl (κ 0, 9, .inl (fun _ => 0))), (a16, .inl (κ 0, 9, .inl (fun _ => 0))), (a17, .inl (κ 0, 7123, .inl (fun _ => 0))), (a20, .inl (κ 0, 801, .inl (fun _ => 0))), (a21, .inl (κ 0, 40, .inl (fun _ => 0))), (a23, .inl (κ 0, 40, .inl (fun _ => 0))), (a24, .inl (κ 0, 40, .inl (fun _ => 0))), (a25, .inl (κ 0, 6000, .inl (fun _ => 0))), (a28, .inl (κ 0, 400, .inl (fun _ => 0)))] H) (hD : va_D A [(x0, .inr (11, [.ref n0, .ref t0, .ref f0, .ref r0, .ref w0, .ref k0, .int 0])), (n0, .inr (6, [.ref n1, .ref n2, .ref n3, .ref n4, .ref n5, .int 0])), (n1, .inl (κ 0, 6, .inl dial0)), (n2, .inl (κ 4, 3, .inr (.inr (.inr (.inr (fun _ => none)))))), (n3, .inl (κ 5, 3, .inr (.inr (.inr (.inr (fun _ => none)))))), (n4, .inl (κ 0, 6, .inl (fun _ => 0))), (n5, .inl (κ 4, 6, .inr (.inr (.inr (.inr (fun _ => none)))))), (t0, .inr (8, [.ref t1, .int 0])), (t1, .inl (κ 0, 800, .inl (fun _ => 0))), (f0, .inr (2, [.int 0, .int (-1), .int (-1), .int (-1), .int (-1), .int 0])), (r0, .inr (4, [.ref t0, .ref n1, .ref f0, .ref b0, .int 0, .int (-1), .ref r1, .int 0, .ref r2, .ref r3, .int 0, .null, .ref r4, .int 0])), (b0, .inr (0, [.ref b1, .int 0, .long 0])), (b1, .inl (κ 1, 0, .inl (fun _ => 0))), (r1, .inl (κ 1, 20, .inl (fun _ => 0))), (r2, .inl (κ 2, 8, .inr (.inr (.inr (.inr (fun _ => none)))))), (r3, .inl (κ 0, 8, .inl (fun _ => 0))), (r4, .inl (κ 2, 320, .inr (.inr (.inr (.inr (fun _ => none)))))), (w0, .inr (10, [.ref n1, .ref w1, .int 0])), (w1, .inl (κ 1, 6000, .inl (fun _ => 0))), (k0, .inr (6, [.ref k1, .ref k2, .ref k3, .ref k4, .ref k5, .int 0])), (k1, .inl (κ 0, 6, .inl dial0)), (k2, .inl (κ 4, 3, .inr (.inr (.inr (.inr (fun _ => none)))))), (k3, .inl (κ 5, 3, .inr (.inr (.inr (.inr (fun _ => none)))))), (k4, .inl (κ 0, 6, .inl (fun _ => 0))), (k5, .inl (κ 4, 6, .inr (.inr (.inr (.inr (fun _ => none)))))), (m0, .inr (12, [.ref a0, .ref a1, .ref a2, .int 0, .int 0, .ref a5, .int 0, .int 0, .int (-1), .int (-1), .int 0, .int 0, .int 0, .int 0, .ref a14, .ref a15, .ref a16, .ref a17, .int 0, .int 0, .ref a20, .ref a21, .int 0, .ref a23, .ref a24, .ref a25, .int 0, .int 0, .ref a28, .int 0])), (a0, .inl (κ 0, 21375, .inl wf0)), (a1, .inl (κ 0, 21375, .inl (fun _ => 0))), (a2, .inl (κ 0, 128214, .inl (fun _ => 0))), (a5, .inl (κ 0, 800, .inl (fun _ => 0))), (a14, .inl (κ 0, 189, .inl (fun _ => 0))), (a15, .inl (κ 0, 9, .inl (fun _ => 0))), (a16, .inl (κ 0, 9, .inl (fun _ => 0))), (a17, .inl (κ 0, 7123, .inl (fun _ => 0))), (a20, .inl (κ 0, 801, .inl (fun _ => 0))), (a21, .inl (κ 0, 40, .inl (fun _ => 0))), (a23, .inl (κ 0, 40, .inl (fun _ => 0))), (a24, .inl (κ 0, 40, .inl (fun _ => 0))), (a25, .inl (κ 0, 6000, .inl (fun _ => 0))), (a28, .inl (κ 0, 400, .inl (fun _ => 0)))]) (hS : va_S A s.heap H locs) (hl : lv_has ls 4 [(3, .int 0), (2, .ref m0), (1, .ref x0), (0, .ref b)]) : W p l e room_1 s m #[Value.ref b] below meth c H locs 40 193696 (lw_Z below #[Value.ref b] s) (F0 m 912 ls []) := by
  obtain ⟨hx, hb, hr, hml, hown, hts0, hX, hbl, hlk, hgv⟩ := id C0
  have hb : c.code = cL_law := hb
  have hts : ∀ w ∈ wsL_law, w.before #[Value.ref b] s = true := fun w h => hts0 w (wsL_law_in w h)
  have hown : s.vm.findClass RL = some m.cls := hown
  have hK : va_K D vwCl (T0 κ) s := hKK.1
  have hbA : ¬ A b := fun h => absurd (hAq b h) (Nat.not_le.mpr hbl)
  have hFX : FX p s m #[Value.ref b] c cL_law 4 RL := ⟨hx, hb, hml, hown, hts⟩
  refine lv_aload_n hx hb dL_law_912 rfl (lv_at hl 2 rfl) ?_
  refine lv_aload_n hx hb dL_law_913 rfl (lv_at hl 3 rfl) ?_
  refine lv_iload_n hx hb dL_law_914 rfl (lv_at hl 0 rfl) ?_
  refine lv_iconst (v := 1) hx hb dL_law_915 (by decide) ?_
  refine lv_iadd hx hb dL_law_916 ?_
  refine ki (v := 1) (by decide) ?_
  refine va_sld hx hb hX hbl hbA hS (i := 1) (vp_k (by decide)) dL_law_917 ?_
  refine kv (v := .int (xs 1)) rfl ?_
  refine lv_aload_n hx hb dL_law_918 rfl (lv_at hl 3 rfl) ?_
  refine lv_iload_n hx hb dL_law_919 rfl (lv_at hl 0 rfl) ?_
  refine lv_iconst (v := 2) hx hb dL_law_920 (by decide) ?_
  refine lv_iadd hx hb dL_law_921 ?_
  refine ki (v := 2) (by decide) ?_
  refine va_sld hx hb hX hbl hbA hS (i := 2) (vp_k (by decide)) dL_law_922 ?_
  refine kv (v := .int (xs 2)) rfl ?_
  refine lv_aload_n hx hb dL_law_923 rfl (lv_at hl 3 rfl) ?_
  refine lv_iload_n hx hb dL_law_924 rfl (lv_at hl 0 rfl) ?_
  refine lv_iconst (v := 3) hx hb dL_law_925 (by decide) ?_
  refine lv_iadd hx hb dL_law_926 ?_
  refine ki (v := 3) (by decide) ?_
  refine va_sld hx hb hX hbl hbA hS (i := 3) (vp_k (by decide)) dL_law_927 ?_
  refine kv (v := .int (xs 3)) rfl ?_
  refine cr_V (As := [.int (xs 1), .int (xs 2), .int (xs 3)]) (rest := []) hFX hKK (c_X11_column l D κ x0 n0 t0 f0 r0 w0 k0 n1 n2 n3 n4 n5 (xs 1) (xs 2) (xs 3)) 3 gV_L_102 hdV_X11_column rfl rfl ⟨Nat.le_of_ble_eq_true rfl, Nat.le_of_ble_eq_true rfl⟩ rfl rfl (Nat.le_of_ble_eq_true rfl) dL_law_928 ⟨Nat.le_of_ble_eq_true rfl, Nat.le_of_ble_eq_true rfl⟩ hl.1 hP 0 11 rfl rfl rfl (hP.sub [0, 1, 3] rfl) (fun _ hp_1 => ?_)
  refine W.eq (g2 := F0 m 931 ls [.int (-1)]) rfl ?_
  refine lv_aload_n hx hb dL_law_931 rfl (lv_at hl 1 rfl) ?_
  refine lv_aload_n hx hb dL_law_932 rfl (lv_at hl 3 rfl) ?_
  refine lv_iload_n hx hb dL_law_933 rfl (lv_at hl 0 rfl) ?_
  refine lv_iconst (v := 1) hx hb dL_law_934 (by decide) ?_
  refine lv_iadd hx hb dL_law_935 ?_
  refine ki (v := 1) (by decide) ?_
  refine va_sld hx hb hX hbl hbA hS (i := 1) (vp_k (by decide)) dL_law_936 ?_
  refine kv (v := .int (xs 1)) rfl ?_
  refine lv_aload_n hx hb dL_law_937 rfl (lv_at hl 3 rfl) ?_
  refine lv_iload_n hx hb dL_law_938 rfl (lv_at hl 0 rfl) ?_
  refine lv_iconst (v := 2) hx hb dL_law_939 (by decide) ?_
  refine lv_iadd hx hb dL_law_940 ?_
  refine ki (v := 2) (by decide) ?_
  refine va_sld hx hb hX hbl hbA hS (i := 2) (vp_k (by decide)) dL_law_941 ?_
  refine kv (v := .int (xs 2)) rfl ?_
  refine lv_aload_n hx hb dL_law_942 rfl (lv_at hl 3 rfl) ?_
  refine lv_iload_n hx hb dL_law_943 rfl (lv_at hl 0 rfl) ?_
  refine lv_iconst (v := 3) hx hb dL_law_944 (by decide) ?_
  refine lv_iadd hx hb dL_law_945 ?_
  refine ki (v := 3) (by decide) ?_
  refine va_sld hx hb hX hbl hbA hS (i := 3) (vp_k (by decide)) dL_law_946 ?_
  refine kv (v := .int (xs 3)) rfl ?_
  refine cr_V (As := [.int (xs 1), .int (xs 2), .int (xs 3)]) (rest := [.int (-1)]) hFX hKK (c_X12_column l D κ m0 a0 a1 a2 a5 a14 a15 a16 a17 a20 a21 a23 a24 a25 a28 (xs 1) (xs 2) (xs 3)) 3 gV_L_105 hdV_X12_column rfl rfl ⟨Nat.le_of_ble_eq_true rfl, Nat.le_of_ble_eq_true rfl⟩ rfl rfl (Nat.le_of_ble_eq_true rfl) dL_law_947 ⟨Nat.le_of_ble_eq_true rfl, Nat.le_of_ble_eq_true rfl⟩ hl.1 hP 25 12 rfl rfl rfl (hP.sub [25, 26] rfl) (fun _ hp_2 => ?_)
  refine W.eq (g2 := F0 m 950 ls [.int (-1), .int (-1)]) rfl ?_
  refine lv_icmp_eq (tgt := 1622) hx hb dL_law_950 (by decide) (fun c_3 => ?_) (fun c_3 => absurd (by decide) c_3)
  exact law_tail C0 hA hAq hS hl (Nat.le_of_ble_eq_true rfl) (Nat.le_of_ble_eq_true rfl)
set_option maxHeartbeats 4000000 in
set_option maxRecDepth 100000 in
theorem law_case_21 {p : Program} {l : Launch} {e : Env} {s : State} {m : MethodId} {below : List Frame} {meth : Method} {c : Code} {D : va_G} {κ : Nat → ClassId} {b : Nat} {xs : Nat → Int32} (C0 : lw_At p s m meth c b 6 xs) (hKK : KK D κ s) {A : Nat → Prop} (hA : ∀ q : Nat, s.heap.size ≤ q → A q) (hAq : ∀ q : Nat, A q → s.heap.size ≤ q) (x0 n0 t0 f0 r0 w0 k0 n1 n2 n3 n4 n5 t1 b0 r1 r2 r3 r4 b1 w1 k1 k2 k3 k4 k5 m0 a0 a1 a2 a5 a14 a15 a16 a17 a20 a21 a23 a24 a25 a28 : Nat) {H : Heap} {locs : List Loc} {ls : Array Slot} (hP : va_P D vwCl [(x0, .inr (11, [.ref n0, .ref t0, .ref f0, .ref r0, .ref w0, .ref k0, .int 0])), (n0, .inr (6, [.ref n1, .ref n2, .ref n3, .ref n4, .ref n5, .int 0])), (n1, .inl (κ 0, 6, .inl dial0)), (n2, .inl (κ 4, 3, .inr (.inr (.inr (.inr (fun _ => none)))))), (n3, .inl (κ 5, 3, .inr (.inr (.inr (.inr (fun _ => none)))))), (n4, .inl (κ 0, 6, .inl (fun _ => 0))), (n5, .inl (κ 4, 6, .inr (.inr (.inr (.inr (fun _ => none)))))), (t0, .inr (8, [.ref t1, .int 0])), (t1, .inl (κ 0, 800, .inl (fun _ => 0))), (f0, .inr (2, [.int 0, .int (-1), .int (-1), .int (-1), .int (-1), .int 0])), (r0, .inr (4, [.ref t0, .ref n1, .ref f0, .ref b0, .int 0, .int (-1), .ref r1, .int 0, .ref r2, .ref r3, .int 0, .null, .ref r4, .int 0])), (b0, .inr (0, [.ref b1, .int 0, .long 0])), (b1, .inl (κ 1, 0, .inl (fun _ => 0))), (r1, .inl (κ 1, 20, .inl (fun _ => 0))), (r2, .inl (κ 2, 8, .inr (.inr (.inr (.inr (fun _ => none)))))), (r3, .inl (κ 0, 8, .inl (fun _ => 0))), (r4, .inl (κ 2, 320, .inr (.inr (.inr (.inr (fun _ => none)))))), (w0, .inr (10, [.ref n1, .ref w1, .int 0])), (w1, .inl (κ 1, 6000, .inl (fun _ => 0))), (k0, .inr (6, [.ref k1, .ref k2, .ref k3, .ref k4, .ref k5, .int 0])), (k1, .inl (κ 0, 6, .inl dial0)), (k2, .inl (κ 4, 3, .inr (.inr (.inr (.inr (fun _ => none)))))), (k3, .inl (κ 5, 3, .inr (.inr (.inr (.inr (fun _ => none)))))), (k4, .inl (κ 0, 6, .inl (fun _ => 0))), (k5, .inl (κ 4, 6, .inr (.inr (.inr (.inr (fun _ => none)))))), (m0, .inr (12, [.ref a0, .ref a1, .ref a2, .int 0, .int 0, .ref a5, .int 0, .int 0, .int (-1), .int (-1), .int 0, .int 0, .int 0, .int 0, .ref a14, .ref a15, .ref a16, .ref a17, .int 0, .int 0, .ref a20, .ref a21, .int 0, .ref a23, .ref a24, .ref a25, .int 0, .int 0, .ref a28, .int 0])), (a0, .inl (κ 0, 21375, .inl wf0)), (a1, .inl (κ 0, 21375, .inl (fun _ => 0))), (a2, .inl (κ 0, 128214, .inl (fun _ => 0))), (a5, .inl (κ 0, 800, .inl (fun _ => 0))), (a14, .inl (κ 0, 189, .inl (fun _ => 0))), (a15, .inl (κ 0, 9, .inl (fun _ => 0))), (a16, .inl (κ 0, 9, .inl (fun _ => 0))), (a17, .inl (κ 0, 7123, .inl (fun _ => 0))), (a20, .inl (κ 0, 801, .inl (fun _ => 0))), (a21, .inl (κ 0, 40, .inl (fun _ => 0))), (a23, .inl (κ 0, 40, .inl (fun _ => 0))), (a24, .inl (κ 0, 40, .inl (fun _ => 0))), (a25, .inl (κ 0, 6000, .inl (fun _ => 0))), (a28, .inl (κ 0, 400, .inl (fun _ => 0)))] H) (hD : va_D A [(x0, .inr (11, [.ref n0, .ref t0, .ref f0, .ref r0, .ref w0, .ref k0, .int 0])), (n0, .inr (6, [.ref n1, .ref n2, .ref n3, .ref n4, .ref n5, .int 0])), (n1, .inl (κ 0, 6, .inl dial0)), (n2, .inl (κ 4, 3, .inr (.inr (.inr (.inr (fun _ => none)))))), (n3, .inl (κ 5, 3, .inr (.inr (.inr (.inr (fun _ => none)))))), (n4, .inl (κ 0, 6, .inl (fun _ => 0))), (n5, .inl (κ 4, 6, .inr (.inr (.inr (.inr (fun _ => none)))))), (t0, .inr (8, [.ref t1, .int 0])), (t1, .inl (κ 0, 800, .inl (fun _ => 0))), (f0, .inr (2, [.int 0, .int (-1), .int (-1), .int (-1), .int (-1), .int 0])), (r0, .inr (4, [.ref t0, .ref n1, .ref f0, .ref b0, .int 0, .int (-1), .ref r1, .int 0, .ref r2, .ref r3, .int 0, .null, .ref r4, .int 0])), (b0, .inr (0, [.ref b1, .int 0, .long 0])), (b1, .inl (κ 1, 0, .inl (fun _ => 0))), (r1, .inl (κ 1, 20, .inl (fun _ => 0))), (r2, .inl (κ 2, 8, .inr (.inr (.inr (.inr (fun _ => none)))))), (r3, .inl (κ 0, 8, .inl (fun _ => 0))), (r4, .inl (κ 2, 320, .inr (.inr (.inr (.inr (fun _ => none)))))), (w0, .inr (10, [.ref n1, .ref w1, .int 0])), (w1, .inl (κ 1, 6000, .inl (fun _ => 0))), (k0, .inr (6, [.ref k1, .ref k2, .ref k3, .ref k4, .ref k5, .int 0])), (k1, .inl (κ 0, 6, .inl dial0)), (k2, .inl (κ 4, 3, .inr (.inr (.inr (.inr (fun _ => none)))))), (k3, .inl (κ 5, 3, .inr (.inr (.inr (.inr (fun _ => none)))))), (k4, .inl (κ 0, 6, .inl (fun _ => 0))), (k5, .inl (κ 4, 6, .inr (.inr (.inr (.inr (fun _ => none)))))), (m0, .inr (12, [.ref a0, .ref a1, .ref a2, .int 0, .int 0, .ref a5, .int 0, .int 0, .int (-1), .int (-1), .int 0, .int 0, .int 0, .int 0, .ref a14, .ref a15, .ref a16, .ref a17, .int 0, .int 0, .ref a20, .ref a21, .int 0, .ref a23, .ref a24, .ref a25, .int 0, .int 0, .ref a28, .int 0])), (a0, .inl (κ 0, 21375, .inl wf0)), (a1, .inl (κ 0, 21375, .inl (fun _ => 0))), (a2, .inl (κ 0, 128214, .inl (fun _ => 0))), (a5, .inl (κ 0, 800, .inl (fun _ => 0))), (a14, .inl (κ 0, 189, .inl (fun _ => 0))), (a15, .inl (κ 0, 9, .inl (fun _ => 0))), (a16, .inl (κ 0, 9, .inl (fun _ => 0))), (a17, .inl (κ 0, 7123, .inl (fun _ => 0))), (a20, .inl (κ 0, 801, .inl (fun _ => 0))), (a21, .inl (κ 0, 40, .inl (fun _ => 0))), (a23, .inl (κ 0, 40, .inl (fun _ => 0))), (a24, .inl (κ 0, 40, .inl (fun _ => 0))), (a25, .inl (κ 0, 6000, .inl (fun _ => 0))), (a28, .inl (κ 0, 400, .inl (fun _ => 0)))]) (hS : va_S A s.heap H locs) (hl : lv_has ls 4 [(3, .int 0), (2, .ref m0), (1, .ref x0), (0, .ref b)]) : W p l e room_1 s m #[Value.ref b] below meth c H locs 40 193696 (lw_Z below #[Value.ref b] s) (F0 m 955 ls []) := by
  obtain ⟨hx, hb, hr, hml, hown, hts0, hX, hbl, hlk, hgv⟩ := id C0
  have hb : c.code = cL_law := hb
  have hts : ∀ w ∈ wsL_law, w.before #[Value.ref b] s = true := fun w h => hts0 w (wsL_law_in w h)
  have hown : s.vm.findClass RL = some m.cls := hown
  have hK : va_K D vwCl (T0 κ) s := hKK.1
  have hbA : ¬ A b := fun h => absurd (hAq b h) (Nat.not_le.mpr hbl)
  have hFX : FX p s m #[Value.ref b] c cL_law 4 RL := ⟨hx, hb, hml, hown, hts⟩
  refine lv_aload_n hx hb dL_law_955 rfl (lv_at hl 2 rfl) ?_
  refine lv_aload_n hx hb dL_law_956 rfl (lv_at hl 3 rfl) ?_
  refine lv_iload_n hx hb dL_law_957 rfl (lv_at hl 0 rfl) ?_
  refine lv_iconst (v := 1) hx hb dL_law_958 (by decide) ?_
  refine lv_iadd hx hb dL_law_959 ?_
  refine ki (v := 1) (by decide) ?_
  refine va_sld hx hb hX hbl hbA hS (i := 1) (vp_k (by decide)) dL_law_960 ?_
  refine kv (v := .int (xs 1)) rfl ?_
  refine lv_aload_n hx hb dL_law_961 rfl (lv_at hl 3 rfl) ?_
  refine lv_iload_n hx hb dL_law_962 rfl (lv_at hl 0 rfl) ?_
  refine lv_iconst (v := 2) hx hb dL_law_963 (by decide) ?_
  refine lv_iadd hx hb dL_law_964 ?_
  refine ki (v := 2) (by decide) ?_
  refine va_sld hx hb hX hbl hbA hS (i := 2) (vp_k (by decide)) dL_law_965 ?_
  refine kv (v := .int (xs 2)) rfl ?_
  refine lv_aload_n hx hb dL_law_966 rfl (lv_at hl 3 rfl) ?_
  refine lv_iload_n hx hb dL_law_967 rfl (lv_at hl 0 rfl) ?_
  refine lv_iconst (v := 3) hx hb dL_law_968 (by decide) ?_
  refine lv_iadd hx hb dL_law_969 ?_
  refine ki (v := 3) (by decide) ?_
  refine va_sld hx hb hX hbl hbA hS (i := 3) (vp_k (by decide)) dL_law_970 ?_
  refine kv (v := .int (xs 3)) rfl ?_
  refine cr_V (As := [.int (xs 1), .int (xs 2), .int (xs 3)]) (rest := []) hFX hKK (c_X11_nameAt l D κ x0 n0 t0 f0 r0 w0 k0 n1 n2 n3 n4 n5 (xs 1) (xs 2) (xs 3)) 3 gV_L_106 hdV_X11_nameAt rfl rfl ⟨Nat.le_of_ble_eq_true rfl, Nat.le_of_ble_eq_true rfl⟩ rfl rfl (Nat.le_of_ble_eq_true rfl) dL_law_971 ⟨Nat.le_of_ble_eq_true rfl, Nat.le_of_ble_eq_true rfl⟩ hl.1 hP 0 11 rfl rfl rfl (hP.sub [0, 1, 3] rfl) (fun _ hp_1 => ?_)
  refine W.eq (g2 := F0 m 974 ls [.int (-1)]) rfl ?_
  refine lv_aload_n hx hb dL_law_974 rfl (lv_at hl 1 rfl) ?_
  refine lv_aload_n hx hb dL_law_975 rfl (lv_at hl 3 rfl) ?_
  refine lv_iload_n hx hb dL_law_976 rfl (lv_at hl 0 rfl) ?_
  refine lv_iconst (v := 1) hx hb dL_law_977 (by decide) ?_
  refine lv_iadd hx hb dL_law_978 ?_
  refine ki (v := 1) (by decide) ?_
  refine va_sld hx hb hX hbl hbA hS (i := 1) (vp_k (by decide)) dL_law_979 ?_
  refine kv (v := .int (xs 1)) rfl ?_
  refine lv_aload_n hx hb dL_law_980 rfl (lv_at hl 3 rfl) ?_
  refine lv_iload_n hx hb dL_law_981 rfl (lv_at hl 0 rfl) ?_
  refine lv_iconst (v := 2) hx hb dL_law_982 (by decide) ?_
  refine lv_iadd hx hb dL_law_983 ?_
  refine ki (v := 2) (by decide) ?_
  refine va_sld hx hb hX hbl hbA hS (i := 2) (vp_k (by decide)) dL_law_984 ?_
  refine kv (v := .int (xs 2)) rfl ?_
  refine lv_aload_n hx hb dL_law_985 rfl (lv_at hl 3 rfl) ?_
  refine lv_iload_n hx hb dL_law_986 rfl (lv_at hl 0 rfl) ?_
  refine lv_iconst (v := 3) hx hb dL_law_987 (by decide) ?_
  refine lv_iadd hx hb dL_law_988 ?_
  refine ki (v := 3) (by decide) ?_
  refine va_sld hx hb hX hbl hbA hS (i := 3) (vp_k (by decide)) dL_law_989 ?_
  refine kv (v := .int (xs 3)) rfl ?_
  refine cr_V (As := [.int (xs 1), .int (xs 2), .int (xs 3)]) (rest := [.int (-1)]) hFX hKK (c_X12_nameAt_ l D κ m0 a0 a1 a2 a5 a14 a15 a16 a17 a20 a21 a23 a24 a25 a28 (xs 1) (xs 2) (xs 3)) 3 gV_L_109 hdV_X12_nameAt_ rfl rfl ⟨Nat.le_of_ble_eq_true rfl, Nat.le_of_ble_eq_true rfl⟩ rfl rfl (Nat.le_of_ble_eq_true rfl) dL_law_990 ⟨Nat.le_of_ble_eq_true rfl, Nat.le_of_ble_eq_true rfl⟩ hl.1 hP 25 12 rfl rfl rfl (hP.sub [25, 26] rfl) (fun _ hp_2 => ?_)
  refine W.eq (g2 := F0 m 993 ls [.int (-1), .int (-1)]) rfl ?_
  refine lv_icmp_eq (tgt := 1622) hx hb dL_law_993 (by decide) (fun c_3 => ?_) (fun c_3 => absurd (by decide) c_3)
  exact law_tail C0 hA hAq hS hl (Nat.le_of_ble_eq_true rfl) (Nat.le_of_ble_eq_true rfl)
set_option maxHeartbeats 4000000 in
set_option maxRecDepth 100000 in
theorem law_case_22 {p : Program} {l : Launch} {e : Env} {s : State} {m : MethodId} {below : List Frame} {meth : Method} {c : Code} {D : va_G} {κ : Nat → ClassId} {b : Nat} {xs : Nat → Int32} (C0 : lw_At p s m meth c b 6 xs) (hKK : KK D κ s) {A : Nat → Prop} (hA : ∀ q : Nat, s.heap.size ≤ q → A q) (hAq : ∀ q : Nat, A q → s.heap.size ≤ q) (x0 n0 t0 f0 r0 w0 k0 n1 n2 n3 n4 n5 t1 b0 r1 r2 r3 r4 b1 w1 k1 k2 k3 k4 k5 m0 a0 a1 a2 a5 a14 a15 a16 a17 a20 a21 a23 a24 a25 a28 : Nat) {H : Heap} {locs : List Loc} {ls : Array Slot} (hP : va_P D vwCl [(x0, .inr (11, [.ref n0, .ref t0, .ref f0, .ref r0, .ref w0, .ref k0, .int 0])), (n0, .inr (6, [.ref n1, .ref n2, .ref n3, .ref n4, .ref n5, .int 0])), (n1, .inl (κ 0, 6, .inl dial0)), (n2, .inl (κ 4, 3, .inr (.inr (.inr (.inr (fun _ => none)))))), (n3, .inl (κ 5, 3, .inr (.inr (.inr (.inr (fun _ => none)))))), (n4, .inl (κ 0, 6, .inl (fun _ => 0))), (n5, .inl (κ 4, 6, .inr (.inr (.inr (.inr (fun _ => none)))))), (t0, .inr (8, [.ref t1, .int 0])), (t1, .inl (κ 0, 800, .inl (fun _ => 0))), (f0, .inr (2, [.int 0, .int (-1), .int (-1), .int (-1), .int (-1), .int 0])), (r0, .inr (4, [.ref t0, .ref n1, .ref f0, .ref b0, .int 0, .int (-1), .ref r1, .int 0, .ref r2, .ref r3, .int 0, .null, .ref r4, .int 0])), (b0, .inr (0, [.ref b1, .int 0, .long 0])), (b1, .inl (κ 1, 0, .inl (fun _ => 0))), (r1, .inl (κ 1, 20, .inl (fun _ => 0))), (r2, .inl (κ 2, 8, .inr (.inr (.inr (.inr (fun _ => none)))))), (r3, .inl (κ 0, 8, .inl (fun _ => 0))), (r4, .inl (κ 2, 320, .inr (.inr (.inr (.inr (fun _ => none)))))), (w0, .inr (10, [.ref n1, .ref w1, .int 0])), (w1, .inl (κ 1, 6000, .inl (fun _ => 0))), (k0, .inr (6, [.ref k1, .ref k2, .ref k3, .ref k4, .ref k5, .int 0])), (k1, .inl (κ 0, 6, .inl dial0)), (k2, .inl (κ 4, 3, .inr (.inr (.inr (.inr (fun _ => none)))))), (k3, .inl (κ 5, 3, .inr (.inr (.inr (.inr (fun _ => none)))))), (k4, .inl (κ 0, 6, .inl (fun _ => 0))), (k5, .inl (κ 4, 6, .inr (.inr (.inr (.inr (fun _ => none)))))), (m0, .inr (12, [.ref a0, .ref a1, .ref a2, .int 0, .int 0, .ref a5, .int 0, .int 0, .int (-1), .int (-1), .int 0, .int 0, .int 0, .int 0, .ref a14, .ref a15, .ref a16, .ref a17, .int 0, .int 0, .ref a20, .ref a21, .int 0, .ref a23, .ref a24, .ref a25, .int 0, .int 0, .ref a28, .int 0])), (a0, .inl (κ 0, 21375, .inl wf0)), (a1, .inl (κ 0, 21375, .inl (fun _ => 0))), (a2, .inl (κ 0, 128214, .inl (fun _ => 0))), (a5, .inl (κ 0, 800, .inl (fun _ => 0))), (a14, .inl (κ 0, 189, .inl (fun _ => 0))), (a15, .inl (κ 0, 9, .inl (fun _ => 0))), (a16, .inl (κ 0, 9, .inl (fun _ => 0))), (a17, .inl (κ 0, 7123, .inl (fun _ => 0))), (a20, .inl (κ 0, 801, .inl (fun _ => 0))), (a21, .inl (κ 0, 40, .inl (fun _ => 0))), (a23, .inl (κ 0, 40, .inl (fun _ => 0))), (a24, .inl (κ 0, 40, .inl (fun _ => 0))), (a25, .inl (κ 0, 6000, .inl (fun _ => 0))), (a28, .inl (κ 0, 400, .inl (fun _ => 0)))] H) (hD : va_D A [(x0, .inr (11, [.ref n0, .ref t0, .ref f0, .ref r0, .ref w0, .ref k0, .int 0])), (n0, .inr (6, [.ref n1, .ref n2, .ref n3, .ref n4, .ref n5, .int 0])), (n1, .inl (κ 0, 6, .inl dial0)), (n2, .inl (κ 4, 3, .inr (.inr (.inr (.inr (fun _ => none)))))), (n3, .inl (κ 5, 3, .inr (.inr (.inr (.inr (fun _ => none)))))), (n4, .inl (κ 0, 6, .inl (fun _ => 0))), (n5, .inl (κ 4, 6, .inr (.inr (.inr (.inr (fun _ => none)))))), (t0, .inr (8, [.ref t1, .int 0])), (t1, .inl (κ 0, 800, .inl (fun _ => 0))), (f0, .inr (2, [.int 0, .int (-1), .int (-1), .int (-1), .int (-1), .int 0])), (r0, .inr (4, [.ref t0, .ref n1, .ref f0, .ref b0, .int 0, .int (-1), .ref r1, .int 0, .ref r2, .ref r3, .int 0, .null, .ref r4, .int 0])), (b0, .inr (0, [.ref b1, .int 0, .long 0])), (b1, .inl (κ 1, 0, .inl (fun _ => 0))), (r1, .inl (κ 1, 20, .inl (fun _ => 0))), (r2, .inl (κ 2, 8, .inr (.inr (.inr (.inr (fun _ => none)))))), (r3, .inl (κ 0, 8, .inl (fun _ => 0))), (r4, .inl (κ 2, 320, .inr (.inr (.inr (.inr (fun _ => none)))))), (w0, .inr (10, [.ref n1, .ref w1, .int 0])), (w1, .inl (κ 1, 6000, .inl (fun _ => 0))), (k0, .inr (6, [.ref k1, .ref k2, .ref k3, .ref k4, .ref k5, .int 0])), (k1, .inl (κ 0, 6, .inl dial0)), (k2, .inl (κ 4, 3, .inr (.inr (.inr (.inr (fun _ => none)))))), (k3, .inl (κ 5, 3, .inr (.inr (.inr (.inr (fun _ => none)))))), (k4, .inl (κ 0, 6, .inl (fun _ => 0))), (k5, .inl (κ 4, 6, .inr (.inr (.inr (.inr (fun _ => none)))))), (m0, .inr (12, [.ref a0, .ref a1, .ref a2, .int 0, .int 0, .ref a5, .int 0, .int 0, .int (-1), .int (-1), .int 0, .int 0, .int 0, .int 0, .ref a14, .ref a15, .ref a16, .ref a17, .int 0, .int 0, .ref a20, .ref a21, .int 0, .ref a23, .ref a24, .ref a25, .int 0, .int 0, .ref a28, .int 0])), (a0, .inl (κ 0, 21375, .inl wf0)), (a1, .inl (κ 0, 21375, .inl (fun _ => 0))), (a2, .inl (κ 0, 128214, .inl (fun _ => 0))), (a5, .inl (κ 0, 800, .inl (fun _ => 0))), (a14, .inl (κ 0, 189, .inl (fun _ => 0))), (a15, .inl (κ 0, 9, .inl (fun _ => 0))), (a16, .inl (κ 0, 9, .inl (fun _ => 0))), (a17, .inl (κ 0, 7123, .inl (fun _ => 0))), (a20, .inl (κ 0, 801, .inl (fun _ => 0))), (a21, .inl (κ 0, 40, .inl (fun _ => 0))), (a23, .inl (κ 0, 40, .inl (fun _ => 0))), (a24, .inl (κ 0, 40, .inl (fun _ => 0))), (a25, .inl (κ 0, 6000, .inl (fun _ => 0))), (a28, .inl (κ 0, 400, .inl (fun _ => 0)))]) (hS : va_S A s.heap H locs) (hl : lv_has ls 4 [(3, .int 0), (2, .ref m0), (1, .ref x0), (0, .ref b)]) : W p l e room_1 s m #[Value.ref b] below meth c H locs 40 193696 (lw_Z below #[Value.ref b] s) (F0 m 998 ls []) := by
  obtain ⟨hx, hb, hr, hml, hown, hts0, hX, hbl, hlk, hgv⟩ := id C0
  have hb : c.code = cL_law := hb
  have hts : ∀ w ∈ wsL_law, w.before #[Value.ref b] s = true := fun w h => hts0 w (wsL_law_in w h)
  have hown : s.vm.findClass RL = some m.cls := hown
  have hK : va_K D vwCl (T0 κ) s := hKK.1
  have hbA : ¬ A b := fun h => absurd (hAq b h) (Nat.not_le.mpr hbl)
  have hFX : FX p s m #[Value.ref b] c cL_law 4 RL := ⟨hx, hb, hml, hown, hts⟩
  refine lv_aload_n hx hb dL_law_998 rfl (lv_at hl 2 rfl) ?_
  refine lv_aload_n hx hb dL_law_999 rfl (lv_at hl 3 rfl) ?_
  refine lv_iload_n hx hb dL_law_1000 rfl (lv_at hl 0 rfl) ?_
  refine lv_iconst (v := 1) hx hb dL_law_1001 (by decide) ?_
  refine lv_iadd hx hb dL_law_1002 ?_
  refine ki (v := 1) (by decide) ?_
  refine va_sld hx hb hX hbl hbA hS (i := 1) (vp_k (by decide)) dL_law_1003 ?_
  refine kv (v := .int (xs 1)) rfl ?_
  refine ct_V (wr := [(n1, .inl (κ 0, 6, .inl dial0)), (n3, .inl (κ 5, 3, .inr (.inr (.inr (.inr (fun _ => none)))))), (n4, .inl (κ 0, 6, .inl (fun _ => 0))), (n5, .inl (κ 4, 6, .inr (.inr (.inr (.inr (fun _ => none)))))), (f0, .inr (2, [.int 0, .int (-1), .int (-1), .int (-1), .int (-1), .int 0])), (r0, .inr (4, [.ref t0, .ref n1, .ref f0, .ref b0, .int 0, .int (-1), .ref r1, .int 0, .ref r2, .ref r3, .int 0, .null, .ref r4, .int 0])), (b0, .inr (0, [.ref b1, .int 0, .long 0])), (b1, .inl (κ 1, 0, .inl (fun _ => 0))), (r1, .inl (κ 1, 20, .inl (fun _ => 0))), (r2, .inl (κ 2, 8, .inr (.inr (.inr (.inr (fun _ => none)))))), (r3, .inl (κ 0, 8, .inl (fun _ => 0))), (r4, .inl (κ 2, 320, .inr (.inr (.inr (.inr (fun _ => none)))))), (w0, .inr (10, [.ref n1, .ref w1, .int 0])), (w1, .inl (κ 1, 6000, .inl (fun _ => 0))), (k0, .inr (6, [.ref k1, .ref k2, .ref k3, .ref k4, .ref k5, .int 0])), (k1, .inl (κ 0, 6, .inl dial0)), (k2, .inl (κ 4, 3, .inr (.inr (.inr (.inr (fun _ => none)))))), (k3, .inl (κ 5, 3, .inr (.inr (.inr (.inr (fun _ => none)))))), (k4, .inl (κ 0, 6, .inl (fun _ => 0))), (k5, .inl (κ 4, 6, .inr (.inr (.inr (.inr (fun _ => none)))))), (m0, .inr (12, [.ref a0, .ref a1, .ref a2, .int 0, .int 0, .ref a5, .int 0, .int 0, .int (-1), .int (-1), .int 0, .int 0, .int 0, .int 0, .ref a14, .ref a15, .ref a16, .ref a17, .int 0, .int 0, .ref a20, .ref a21, .int 0, .ref a23, .ref a24, .ref a25, .int 0, .int 0, .ref a28, .int 0])), (a0, .inl (κ 0, 21375, .inl wf0)), (a1, .inl (κ 0, 21375, .inl (fun _ => 0))), (a2, .inl (κ 0, 128214, .inl (fun _ => 0))), (a5, .inl (κ 0, 800, .inl (fun _ => 0))), (a14, .inl (κ 0, 189, .inl (fun _ => 0))), (a15, .inl (κ 0, 9, .inl (fun _ => 0))), (a16, .inl (κ 0, 9, .inl (fun _ => 0))), (a17, .inl (κ 0, 7123, .inl (fun _ => 0))), (a20, .inl (κ 0, 801, .inl (fun _ => 0))), (a21, .inl (κ 0, 40, .inl (fun _ => 0))), (a23, .inl (κ 0, 40, .inl (fun _ => 0))), (a24, .inl (κ 0, 40, .inl (fun _ => 0))), (a25, .inl (κ 0, 6000, .inl (fun _ => 0))), (a28, .inl (κ 0, 400, .inl (fun _ => 0)))]) (As := [.int (xs 1)]) (rest := []) hFX hKK hP hD hS hA (c_X11_find l D κ x0 n0 t0 f0 r0 w0 k0 n1 n2 n3 n4 n5 t1 (xs 1)) 1 gV_L_110 hdV_X11_find ⟨Nat.le_of_ble_eq_true rfl, Nat.le_of_ble_eq_true rfl⟩ rfl rfl (Nat.le_of_ble_eq_true rfl) dL_law_1004 ⟨Nat.le_of_ble_eq_true rfl, Nat.le_of_ble_eq_true rfl⟩ hl.1 [0, 1, 3, 7, 8] [2, 4, 5, 6, 9, 10, 11, 12, 13, 14, 15, 16, 17, 18, 19, 20, 21, 22, 23, 24, 25, 26, 27, 28, 29, 30, 31, 32, 33, 34, 35, 36, 37, 38, 39] rfl rfl (by decide) (by decide) (by decide) 0 11 rfl rfl rfl trivial (fun _ H locs hp_1 _ hP hD hS hz_ hk_ => ?_)
  have hP : va_P D vwCl [(n1, .inl (κ 0, 6, .inl dial0)), (n3, .inl (κ 5, 3, .inr (.inr (.inr (.inr (fun _ => none)))))), (n4, .inl (κ 0, 6, .inl (fun _ => 0))), (n5, .inl (κ 4, 6, .inr (.inr (.inr (.inr (fun _ => none)))))), (f0, .inr (2, [.int 0, .int (-1), .int (-1), .int (-1), .int (-1), .int 0])), (r0, .inr (4, [.ref t0, .ref n1, .ref f0, .ref b0, .int 0, .int (-1), .ref r1, .int 0, .ref r2, .ref r3, .int 0, .null, .ref r4, .int 0])), (b0, .inr (0, [.ref b1, .int 0, .long 0])), (b1, .inl (κ 1, 0, .inl (fun _ => 0))), (r1, .inl (κ 1, 20, .inl (fun _ => 0))), (r2, .inl (κ 2, 8, .inr (.inr (.inr (.inr (fun _ => none)))))), (r3, .inl (κ 0, 8, .inl (fun _ => 0))), (r4, .inl (κ 2, 320, .inr (.inr (.inr (.inr (fun _ => none)))))), (w0, .inr (10, [.ref n1, .ref w1, .int 0])), (w1, .inl (κ 1, 6000, .inl (fun _ => 0))), (k0, .inr (6, [.ref k1, .ref k2, .ref k3, .ref k4, .ref k5, .int 0])), (k1, .inl (κ 0, 6, .inl dial0)), (k2, .inl (κ 4, 3, .inr (.inr (.inr (.inr (fun _ => none)))))), (k3, .inl (κ 5, 3, .inr (.inr (.inr (.inr (fun _ => none)))))), (k4, .inl (κ 0, 6, .inl (fun _ => 0))), (k5, .inl (κ 4, 6, .inr (.inr (.inr (.inr (fun _ => none)))))), (m0, .inr (12, [.ref a0, .ref a1, .ref a2, .int 0, .int 0, .ref a5, .int 0, .int 0, .int (-1), .int (-1), .int 0, .int 0, .int 0, .int 0, .ref a14, .ref a15, .ref a16, .ref a17, .int 0, .int 0, .ref a20, .ref a21, .int 0, .ref a23, .ref a24, .ref a25, .int 0, .int 0, .ref a28, .int 0])), (a0, .inl (κ 0, 21375, .inl wf0)), (a1, .inl (κ 0, 21375, .inl (fun _ => 0))), (a2, .inl (κ 0, 128214, .inl (fun _ => 0))), (a5, .inl (κ 0, 800, .inl (fun _ => 0))), (a14, .inl (κ 0, 189, .inl (fun _ => 0))), (a15, .inl (κ 0, 9, .inl (fun _ => 0))), (a16, .inl (κ 0, 9, .inl (fun _ => 0))), (a17, .inl (κ 0, 7123, .inl (fun _ => 0))), (a20, .inl (κ 0, 801, .inl (fun _ => 0))), (a21, .inl (κ 0, 40, .inl (fun _ => 0))), (a23, .inl (κ 0, 40, .inl (fun _ => 0))), (a24, .inl (κ 0, 40, .inl (fun _ => 0))), (a25, .inl (κ 0, 6000, .inl (fun _ => 0))), (a28, .inl (κ 0, 400, .inl (fun _ => 0)))] H := hP
  have hD : va_D A [(n1, .inl (κ 0, 6, .inl dial0)), (n3, .inl (κ 5, 3, .inr (.inr (.inr (.inr (fun _ => none)))))), (n4, .inl (κ 0, 6, .inl (fun _ => 0))), (n5, .inl (κ 4, 6, .inr (.inr (.inr (.inr (fun _ => none)))))), (f0, .inr (2, [.int 0, .int (-1), .int (-1), .int (-1), .int (-1), .int 0])), (r0, .inr (4, [.ref t0, .ref n1, .ref f0, .ref b0, .int 0, .int (-1), .ref r1, .int 0, .ref r2, .ref r3, .int 0, .null, .ref r4, .int 0])), (b0, .inr (0, [.ref b1, .int 0, .long 0])), (b1, .inl (κ 1, 0, .inl (fun _ => 0))), (r1, .inl (κ 1, 20, .inl (fun _ => 0))), (r2, .inl (κ 2, 8, .inr (.inr (.inr (.inr (fun _ => none)))))), (r3, .inl (κ 0, 8, .inl (fun _ => 0))), (r4, .inl (κ 2, 320, .inr (.inr (.inr (.inr (fun _ => none)))))), (w0, .inr (10, [.ref n1, .ref w1, .int 0])), (w1, .inl (κ 1, 6000, .inl (fun _ => 0))), (k0, .inr (6, [.ref k1, .ref k2, .ref k3, .ref k4, .ref k5, .int 0])), (k1, .inl (κ 0, 6, .inl dial0)), (k2, .inl (κ 4, 3, .inr (.inr (.inr (.inr (fun _ => none)))))), (k3, .inl (κ 5, 3, .inr (.inr (.inr (.inr (fun _ => none)))))), (k4, .inl (κ 0, 6, .inl (fun _ => 0))), (k5, .inl (κ 4, 6, .inr (.inr (.inr (.inr (fun _ => none)))))), (m0, .inr (12, [.ref a0, .ref a1, .ref a2, .int 0, .int 0, .ref a5, .int 0, .int 0, .int (-1), .int (-1), .int 0, .int 0, .int 0, .int 0, .ref a14, .ref a15, .ref a16, .ref a17, .int 0, .int 0, .ref a20, .ref a21, .int 0, .ref a23, .ref a24, .ref a25, .int 0, .int 0, .ref a28, .int 0])), (a0, .inl (κ 0, 21375, .inl wf0)), (a1, .inl (κ 0, 21375, .inl (fun _ => 0))), (a2, .inl (κ 0, 128214, .inl (fun _ => 0))), (a5, .inl (κ 0, 800, .inl (fun _ => 0))), (a14, .inl (κ 0, 189, .inl (fun _ => 0))), (a15, .inl (κ 0, 9, .inl (fun _ => 0))), (a16, .inl (κ 0, 9, .inl (fun _ => 0))), (a17, .inl (κ 0, 7123, .inl (fun _ => 0))), (a20, .inl (κ 0, 801, .inl (fun _ => 0))), (a21, .inl (κ 0, 40, .inl (fun _ => 0))), (a23, .inl (κ 0, 40, .inl (fun _ => 0))), (a24, .inl (κ 0, 40, .inl (fun _ => 0))), (a25, .inl (κ 0, 6000, .inl (fun _ => 0))), (a28, .inl (κ 0, 400, .inl (fun _ => 0)))] := hD
  refine W.eq (g2 := F0 m 1007 ls [.int (-1)]) rfl ?_
  refine lv_aload_n hx hb dL_law_1007 rfl (lv_at hl 1 rfl) ?_
  refine lv_aload_n hx hb dL_law_1008 rfl (lv_at hl 3 rfl) ?_
  refine lv_iload_n hx hb dL_law_1009 rfl (lv_at hl 0 rfl) ?_
  refine lv_iconst (v := 1) hx hb dL_law_1010 (by decide) ?_
  refine lv_iadd hx hb dL_law_1011 ?_
  refine ki (v := 1) (by decide) ?_
  refine va_sld hx hb hX hbl hbA hS (i := 1) (vp_k (by decide)) dL_law_1012 ?_
  refine kv (v := .int (xs 1)) rfl ?_
  refine ct_V (wr := [(n1, .inl (κ 0, 6, .inl dial0)), (n3, .inl (κ 5, 3, .inr (.inr (.inr (.inr (fun _ => none)))))), (n4, .inl (κ 0, 6, .inl (fun _ => 0))), (n5, .inl (κ 4, 6, .inr (.inr (.inr (.inr (fun _ => none)))))), (f0, .inr (2, [.int 0, .int (-1), .int (-1), .int (-1), .int (-1), .int 0])), (r0, .inr (4, [.ref t0, .ref n1, .ref f0, .ref b0, .int 0, .int (-1), .ref r1, .int 0, .ref r2, .ref r3, .int 0, .null, .ref r4, .int 0])), (b0, .inr (0, [.ref b1, .int 0, .long 0])), (b1, .inl (κ 1, 0, .inl (fun _ => 0))), (r1, .inl (κ 1, 20, .inl (fun _ => 0))), (r2, .inl (κ 2, 8, .inr (.inr (.inr (.inr (fun _ => none)))))), (r3, .inl (κ 0, 8, .inl (fun _ => 0))), (r4, .inl (κ 2, 320, .inr (.inr (.inr (.inr (fun _ => none)))))), (w0, .inr (10, [.ref n1, .ref w1, .int 0])), (w1, .inl (κ 1, 6000, .inl (fun _ => 0))), (k0, .inr (6, [.ref k1, .ref k2, .ref k3, .ref k4, .ref k5, .int 0])), (k1, .inl (κ 0, 6, .inl dial0)), (k2, .inl (κ 4, 3, .inr (.inr (.inr (.inr (fun _ => none)))))), (k3, .inl (κ 5, 3, .inr (.inr (.inr (.inr (fun _ => none)))))), (k4, .inl (κ 0, 6, .inl (fun _ => 0))), (k5, .inl (κ 4, 6, .inr (.inr (.inr (.inr (fun _ => none)))))), (a1, .inl (κ 0, 21375, .inl (fun _ => 0))), (a2, .inl (κ 0, 128214, .inl (fun _ => 0))), (a5, .inl (κ 0, 800, .inl (fun _ => 0))), (a14, .inl (κ 0, 189, .inl (fun _ => 0))), (a15, .inl (κ 0, 9, .inl (fun _ => 0))), (a16, .inl (κ 0, 9, .inl (fun _ => 0))), (a17, .inl (κ 0, 7123, .inl (fun _ => 0))), (a21, .inl (κ 0, 40, .inl (fun _ => 0))), (a23, .inl (κ 0, 40, .inl (fun _ => 0))), (a24, .inl (κ 0, 40, .inl (fun _ => 0))), (a25, .inl (κ 0, 6000, .inl (fun _ => 0))), (a28, .inl (κ 0, 400, .inl (fun _ => 0)))]) (As := [.int (xs 1)]) (rest := [.int (-1)]) hFX hKK hP hD hS hA (c_X12_find l D κ m0 a0 a1 a2 a5 a14 a15 a16 a17 a20 a21 a23 a24 a25 a28 (xs 1)) 1 gV_L_113 hdV_X12_find ⟨Nat.le_of_ble_eq_true rfl, Nat.le_of_ble_eq_true rfl⟩ rfl rfl (Nat.le_of_ble_eq_true rfl) dL_law_1013 ⟨Nat.le_of_ble_eq_true rfl, Nat.le_of_ble_eq_true rfl⟩ hl.1 [20, 21, 29] [0, 1, 2, 3, 4, 5, 6, 7, 8, 9, 10, 11, 12, 13, 14, 15, 16, 17, 18, 19, 22, 23, 24, 25, 26, 27, 28, 30, 31, 32, 33, 34] rfl rfl (by decide) (by decide) (by decide) 20 12 rfl rfl rfl trivial (fun _ H locs hp_2 _ hP hD hS hz_ hk_ => ?_)
  have hP : va_P D vwCl [(n1, .inl (κ 0, 6, .inl dial0)), (n3, .inl (κ 5, 3, .inr (.inr (.inr (.inr (fun _ => none)))))), (n4, .inl (κ 0, 6, .inl (fun _ => 0))), (n5, .inl (κ 4, 6, .inr (.inr (.inr (.inr (fun _ => none)))))), (f0, .inr (2, [.int 0, .int (-1), .int (-1), .int (-1), .int (-1), .int 0])), (r0, .inr (4, [.ref t0, .ref n1, .ref f0, .ref b0, .int 0, .int (-1), .ref r1, .int 0, .ref r2, .ref r3, .int 0, .null, .ref r4, .int 0])), (b0, .inr (0, [.ref b1, .int 0, .long 0])), (b1, .inl (κ 1, 0, .inl (fun _ => 0))), (r1, .inl (κ 1, 20, .inl (fun _ => 0))), (r2, .inl (κ 2, 8, .inr (.inr (.inr (.inr (fun _ => none)))))), (r3, .inl (κ 0, 8, .inl (fun _ => 0))), (r4, .inl (κ 2, 320, .inr (.inr (.inr (.inr (fun _ => none)))))), (w0, .inr (10, [.ref n1, .ref w1, .int 0])), (w1, .inl (κ 1, 6000, .inl (fun _ => 0))), (k0, .inr (6, [.ref k1, .ref k2, .ref k3, .ref k4, .ref k5, .int 0])), (k1, .inl (κ 0, 6, .inl dial0)), (k2, .inl (κ 4, 3, .inr (.inr (.inr (.inr (fun _ => none)))))), (k3, .inl (κ 5, 3, .inr (.inr (.inr (.inr (fun _ => none)))))), (k4, .inl (κ 0, 6, .inl (fun _ => 0))), (k5, .inl (κ 4, 6, .inr (.inr (.inr (.inr (fun _ => none)))))), (a1, .inl (κ 0, 21375, .inl (fun _ => 0))), (a2, .inl (κ 0, 128214, .inl (fun _ => 0))), (a5, .inl (κ 0, 800, .inl (fun _ => 0))), (a14, .inl (κ 0, 189, .inl (fun _ => 0))), (a15, .inl (κ 0, 9, .inl (fun _ => 0))), (a16, .inl (κ 0, 9, .inl (fun _ => 0))), (a17, .inl (κ 0, 7123, .inl (fun _ => 0))), (a21, .inl (κ 0, 40, .inl (fun _ => 0))), (a23, .inl (κ 0, 40, .inl (fun _ => 0))), (a24, .inl (κ 0, 40, .inl (fun _ => 0))), (a25, .inl (κ 0, 6000, .inl (fun _ => 0))), (a28, .inl (κ 0, 400, .inl (fun _ => 0)))] H := hP
  have hD : va_D A [(n1, .inl (κ 0, 6, .inl dial0)), (n3, .inl (κ 5, 3, .inr (.inr (.inr (.inr (fun _ => none)))))), (n4, .inl (κ 0, 6, .inl (fun _ => 0))), (n5, .inl (κ 4, 6, .inr (.inr (.inr (.inr (fun _ => none)))))), (f0, .inr (2, [.int 0, .int (-1), .int (-1), .int (-1), .int (-1), .int 0])), (r0, .inr (4, [.ref t0, .ref n1, .ref f0, .ref b0, .int 0, .int (-1), .ref r1, .int 0, .ref r2, .ref r3, .int 0, .null, .ref r4, .int 0])), (b0, .inr (0, [.ref b1, .int 0, .long 0])), (b1, .inl (κ 1, 0, .inl (fun _ => 0))), (r1, .inl (κ 1, 20, .inl (fun _ => 0))), (r2, .inl (κ 2, 8, .inr (.inr (.inr (.inr (fun _ => none)))))), (r3, .inl (κ 0, 8, .inl (fun _ => 0))), (r4, .inl (κ 2, 320, .inr (.inr (.inr (.inr (fun _ => none)))))), (w0, .inr (10, [.ref n1, .ref w1, .int 0])), (w1, .inl (κ 1, 6000, .inl (fun _ => 0))), (k0, .inr (6, [.ref k1, .ref k2, .ref k3, .ref k4, .ref k5, .int 0])), (k1, .inl (κ 0, 6, .inl dial0)), (k2, .inl (κ 4, 3, .inr (.inr (.inr (.inr (fun _ => none)))))), (k3, .inl (κ 5, 3, .inr (.inr (.inr (.inr (fun _ => none)))))), (k4, .inl (κ 0, 6, .inl (fun _ => 0))), (k5, .inl (κ 4, 6, .inr (.inr (.inr (.inr (fun _ => none)))))), (a1, .inl (κ 0, 21375, .inl (fun _ => 0))), (a2, .inl (κ 0, 128214, .inl (fun _ => 0))), (a5, .inl (κ 0, 800, .inl (fun _ => 0))), (a14, .inl (κ 0, 189, .inl (fun _ => 0))), (a15, .inl (κ 0, 9, .inl (fun _ => 0))), (a16, .inl (κ 0, 9, .inl (fun _ => 0))), (a17, .inl (κ 0, 7123, .inl (fun _ => 0))), (a21, .inl (κ 0, 40, .inl (fun _ => 0))), (a23, .inl (κ 0, 40, .inl (fun _ => 0))), (a24, .inl (κ 0, 40, .inl (fun _ => 0))), (a25, .inl (κ 0, 6000, .inl (fun _ => 0))), (a28, .inl (κ 0, 400, .inl (fun _ => 0)))] := hD
  refine W.eq (g2 := F0 m 1016 ls [.int (-1), .int (-1)]) rfl ?_
  refine lv_icmp_eq (tgt := 1622) hx hb dL_law_1016 (by decide) (fun c_3 => ?_) (fun c_3 => absurd (by decide) c_3)
  exact law_tail C0 hA hAq hS hl (Nat.le_of_ble_eq_true rfl) (Nat.le_of_ble_eq_true rfl)
set_option maxHeartbeats 4000000 in
set_option maxRecDepth 100000 in
theorem law_case_23 {p : Program} {l : Launch} {e : Env} {s : State} {m : MethodId} {below : List Frame} {meth : Method} {c : Code} {D : va_G} {κ : Nat → ClassId} {b : Nat} {xs : Nat → Int32} (C0 : lw_At p s m meth c b 6 xs) (hKK : KK D κ s) {A : Nat → Prop} (hA : ∀ q : Nat, s.heap.size ≤ q → A q) (hAq : ∀ q : Nat, A q → s.heap.size ≤ q) (x0 n0 t0 f0 r0 w0 k0 n1 n2 n3 n4 n5 t1 b0 r1 r2 r3 r4 b1 w1 k1 k2 k3 k4 k5 m0 a0 a1 a2 a5 a14 a15 a16 a17 a20 a21 a23 a24 a25 a28 : Nat) {H : Heap} {locs : List Loc} {ls : Array Slot} (hP : va_P D vwCl [(x0, .inr (11, [.ref n0, .ref t0, .ref f0, .ref r0, .ref w0, .ref k0, .int 0])), (n0, .inr (6, [.ref n1, .ref n2, .ref n3, .ref n4, .ref n5, .int 0])), (n1, .inl (κ 0, 6, .inl dial0)), (n2, .inl (κ 4, 3, .inr (.inr (.inr (.inr (fun _ => none)))))), (n3, .inl (κ 5, 3, .inr (.inr (.inr (.inr (fun _ => none)))))), (n4, .inl (κ 0, 6, .inl (fun _ => 0))), (n5, .inl (κ 4, 6, .inr (.inr (.inr (.inr (fun _ => none)))))), (t0, .inr (8, [.ref t1, .int 0])), (t1, .inl (κ 0, 800, .inl (fun _ => 0))), (f0, .inr (2, [.int 0, .int (-1), .int (-1), .int (-1), .int (-1), .int 0])), (r0, .inr (4, [.ref t0, .ref n1, .ref f0, .ref b0, .int 0, .int (-1), .ref r1, .int 0, .ref r2, .ref r3, .int 0, .null, .ref r4, .int 0])), (b0, .inr (0, [.ref b1, .int 0, .long 0])), (b1, .inl (κ 1, 0, .inl (fun _ => 0))), (r1, .inl (κ 1, 20, .inl (fun _ => 0))), (r2, .inl (κ 2, 8, .inr (.inr (.inr (.inr (fun _ => none)))))), (r3, .inl (κ 0, 8, .inl (fun _ => 0))), (r4, .inl (κ 2, 320, .inr (.inr (.inr (.inr (fun _ => none)))))), (w0, .inr (10, [.ref n1, .ref w1, .int 0])), (w1, .inl (κ 1, 6000, .inl (fun _ => 0))), (k0, .inr (6, [.ref k1, .ref k2, .ref k3, .ref k4, .ref k5, .int 0])), (k1, .inl (κ 0, 6, .inl dial0)), (k2, .inl (κ 4, 3, .inr (.inr (.inr (.inr (fun _ => none)))))), (k3, .inl (κ 5, 3, .inr (.inr (.inr (.inr (fun _ => none)))))), (k4, .inl (κ 0, 6, .inl (fun _ => 0))), (k5, .inl (κ 4, 6, .inr (.inr (.inr (.inr (fun _ => none)))))), (m0, .inr (12, [.ref a0, .ref a1, .ref a2, .int 0, .int 0, .ref a5, .int 0, .int 0, .int (-1), .int (-1), .int 0, .int 0, .int 0, .int 0, .ref a14, .ref a15, .ref a16, .ref a17, .int 0, .int 0, .ref a20, .ref a21, .int 0, .ref a23, .ref a24, .ref a25, .int 0, .int 0, .ref a28, .int 0])), (a0, .inl (κ 0, 21375, .inl wf0)), (a1, .inl (κ 0, 21375, .inl (fun _ => 0))), (a2, .inl (κ 0, 128214, .inl (fun _ => 0))), (a5, .inl (κ 0, 800, .inl (fun _ => 0))), (a14, .inl (κ 0, 189, .inl (fun _ => 0))), (a15, .inl (κ 0, 9, .inl (fun _ => 0))), (a16, .inl (κ 0, 9, .inl (fun _ => 0))), (a17, .inl (κ 0, 7123, .inl (fun _ => 0))), (a20, .inl (κ 0, 801, .inl (fun _ => 0))), (a21, .inl (κ 0, 40, .inl (fun _ => 0))), (a23, .inl (κ 0, 40, .inl (fun _ => 0))), (a24, .inl (κ 0, 40, .inl (fun _ => 0))), (a25, .inl (κ 0, 6000, .inl (fun _ => 0))), (a28, .inl (κ 0, 400, .inl (fun _ => 0)))] H) (hD : va_D A [(x0, .inr (11, [.ref n0, .ref t0, .ref f0, .ref r0, .ref w0, .ref k0, .int 0])), (n0, .inr (6, [.ref n1, .ref n2, .ref n3, .ref n4, .ref n5, .int 0])), (n1, .inl (κ 0, 6, .inl dial0)), (n2, .inl (κ 4, 3, .inr (.inr (.inr (.inr (fun _ => none)))))), (n3, .inl (κ 5, 3, .inr (.inr (.inr (.inr (fun _ => none)))))), (n4, .inl (κ 0, 6, .inl (fun _ => 0))), (n5, .inl (κ 4, 6, .inr (.inr (.inr (.inr (fun _ => none)))))), (t0, .inr (8, [.ref t1, .int 0])), (t1, .inl (κ 0, 800, .inl (fun _ => 0))), (f0, .inr (2, [.int 0, .int (-1), .int (-1), .int (-1), .int (-1), .int 0])), (r0, .inr (4, [.ref t0, .ref n1, .ref f0, .ref b0, .int 0, .int (-1), .ref r1, .int 0, .ref r2, .ref r3, .int 0, .null, .ref r4, .int 0])), (b0, .inr (0, [.ref b1, .int 0, .long 0])), (b1, .inl (κ 1, 0, .inl (fun _ => 0))), (r1, .inl (κ 1, 20, .inl (fun _ => 0))), (r2, .inl (κ 2, 8, .inr (.inr (.inr (.inr (fun _ => none)))))), (r3, .inl (κ 0, 8, .inl (fun _ => 0))), (r4, .inl (κ 2, 320, .inr (.inr (.inr (.inr (fun _ => none)))))), (w0, .inr (10, [.ref n1, .ref w1, .int 0])), (w1, .inl (κ 1, 6000, .inl (fun _ => 0))), (k0, .inr (6, [.ref k1, .ref k2, .ref k3, .ref k4, .ref k5, .int 0])), (k1, .inl (κ 0, 6, .inl dial0)), (k2, .inl (κ 4, 3, .inr (.inr (.inr (.inr (fun _ => none)))))), (k3, .inl (κ 5, 3, .inr (.inr (.inr (.inr (fun _ => none)))))), (k4, .inl (κ 0, 6, .inl (fun _ => 0))), (k5, .inl (κ 4, 6, .inr (.inr (.inr (.inr (fun _ => none)))))), (m0, .inr (12, [.ref a0, .ref a1, .ref a2, .int 0, .int 0, .ref a5, .int 0, .int 0, .int (-1), .int (-1), .int 0, .int 0, .int 0, .int 0, .ref a14, .ref a15, .ref a16, .ref a17, .int 0, .int 0, .ref a20, .ref a21, .int 0, .ref a23, .ref a24, .ref a25, .int 0, .int 0, .ref a28, .int 0])), (a0, .inl (κ 0, 21375, .inl wf0)), (a1, .inl (κ 0, 21375, .inl (fun _ => 0))), (a2, .inl (κ 0, 128214, .inl (fun _ => 0))), (a5, .inl (κ 0, 800, .inl (fun _ => 0))), (a14, .inl (κ 0, 189, .inl (fun _ => 0))), (a15, .inl (κ 0, 9, .inl (fun _ => 0))), (a16, .inl (κ 0, 9, .inl (fun _ => 0))), (a17, .inl (κ 0, 7123, .inl (fun _ => 0))), (a20, .inl (κ 0, 801, .inl (fun _ => 0))), (a21, .inl (κ 0, 40, .inl (fun _ => 0))), (a23, .inl (κ 0, 40, .inl (fun _ => 0))), (a24, .inl (κ 0, 40, .inl (fun _ => 0))), (a25, .inl (κ 0, 6000, .inl (fun _ => 0))), (a28, .inl (κ 0, 400, .inl (fun _ => 0)))]) (hS : va_S A s.heap H locs) (hl : lv_has ls 4 [(3, .int 0), (2, .ref m0), (1, .ref x0), (0, .ref b)]) : W p l e room_1 s m #[Value.ref b] below meth c H locs 40 193696 (lw_Z below #[Value.ref b] s) (F0 m 1021 ls []) := by
  obtain ⟨hx, hb, hr, hml, hown, hts0, hX, hbl, hlk, hgv⟩ := id C0
  have hb : c.code = cL_law := hb
  have hts : ∀ w ∈ wsL_law, w.before #[Value.ref b] s = true := fun w h => hts0 w (wsL_law_in w h)
  have hown : s.vm.findClass RL = some m.cls := hown
  have hK : va_K D vwCl (T0 κ) s := hKK.1
  have hbA : ¬ A b := fun h => absurd (hAq b h) (Nat.not_le.mpr hbl)
  have hFX : FX p s m #[Value.ref b] c cL_law 4 RL := ⟨hx, hb, hml, hown, hts⟩
  refine lv_aload_n hx hb dL_law_1021 rfl (lv_at hl 2 rfl) ?_
  refine lv_aload_n hx hb dL_law_1022 rfl (lv_at hl 3 rfl) ?_
  refine lv_iload_n hx hb dL_law_1023 rfl (lv_at hl 0 rfl) ?_
  refine lv_iconst (v := 1) hx hb dL_law_1024 (by decide) ?_
  refine lv_iadd hx hb dL_law_1025 ?_
  refine ki (v := 1) (by decide) ?_
  refine va_sld hx hb hX hbl hbA hS (i := 1) (vp_k (by decide)) dL_law_1026 ?_
  refine kv (v := .int (xs 1)) rfl ?_
  refine lv_aload_n hx hb dL_law_1027 rfl (lv_at hl 3 rfl) ?_
  refine lv_iload_n hx hb dL_law_1028 rfl (lv_at hl 0 rfl) ?_
  refine lv_iconst (v := 2) hx hb dL_law_1029 (by decide) ?_
  refine lv_iadd hx hb dL_law_1030 ?_
  refine ki (v := 2) (by decide) ?_
  refine va_sld hx hb hX hbl hbA hS (i := 2) (vp_k (by decide)) dL_law_1031 ?_
  refine kv (v := .int (xs 2)) rfl ?_
  refine lv_aload_n hx hb dL_law_1032 rfl (lv_at hl 3 rfl) ?_
  refine lv_iload_n hx hb dL_law_1033 rfl (lv_at hl 0 rfl) ?_
  refine lv_iconst (v := 3) hx hb dL_law_1034 (by decide) ?_
  refine lv_iadd hx hb dL_law_1035 ?_
  refine ki (v := 3) (by decide) ?_
  refine va_sld hx hb hX hbl hbA hS (i := 3) (vp_k (by decide)) dL_law_1036 ?_
  refine kv (v := .int (xs 3)) rfl ?_
  refine lv_aload_n hx hb dL_law_1037 rfl (lv_at hl 3 rfl) ?_
  refine lv_iload_n hx hb dL_law_1038 rfl (lv_at hl 0 rfl) ?_
  refine lv_iconst (v := 4) hx hb dL_law_1039 (by decide) ?_
  refine lv_iadd hx hb dL_law_1040 ?_
  refine ki (v := 4) (by decide) ?_
  refine va_sld hx hb hX hbl hbA hS (i := 4) (vp_k (by decide)) dL_law_1041 ?_
  refine kv (v := .int (xs 4)) rfl ?_
  refine cr_V (As := [.int (xs 1), .int (xs 2), .int (xs 3), .int (xs 4)]) (rest := []) hFX hKK (c_X11_proof l D κ x0 n0 t0 f0 r0 w0 k0 n1 n2 n3 n4 n5 (xs 1) (xs 2) (xs 3) (xs 4)) 4 gV_L_114 hdV_X11_proof rfl rfl ⟨Nat.le_of_ble_eq_true rfl, Nat.le_of_ble_eq_true rfl⟩ rfl rfl (Nat.le_of_ble_eq_true rfl) dL_law_1042 ⟨Nat.le_of_ble_eq_true rfl, Nat.le_of_ble_eq_true rfl⟩ hl.1 hP 0 11 rfl rfl rfl (hP.sub [0, 1, 3] rfl) (fun _ hp_1 => ?_)
  refine W.eq (g2 := F0 m 1045 ls [.int (-1)]) rfl ?_
  refine lv_aload_n hx hb dL_law_1045 rfl (lv_at hl 1 rfl) ?_
  refine lv_aload_n hx hb dL_law_1046 rfl (lv_at hl 3 rfl) ?_
  refine lv_iload_n hx hb dL_law_1047 rfl (lv_at hl 0 rfl) ?_
  refine lv_iconst (v := 1) hx hb dL_law_1048 (by decide) ?_
  refine lv_iadd hx hb dL_law_1049 ?_
  refine ki (v := 1) (by decide) ?_
  refine va_sld hx hb hX hbl hbA hS (i := 1) (vp_k (by decide)) dL_law_1050 ?_
  refine kv (v := .int (xs 1)) rfl ?_
  refine lv_aload_n hx hb dL_law_1051 rfl (lv_at hl 3 rfl) ?_
  refine lv_iload_n hx hb dL_law_1052 rfl (lv_at hl 0 rfl) ?_
  refine lv_iconst (v := 2) hx hb dL_law_1053 (by decide) ?_
  refine lv_iadd hx hb dL_law_1054 ?_
  refine ki (v := 2) (by decide) ?_
  refine va_sld hx hb hX hbl hbA hS (i := 2) (vp_k (by decide)) dL_law_1055 ?_
  refine kv (v := .int (xs 2)) rfl ?_
  refine lv_aload_n hx hb dL_law_1056 rfl (lv_at hl 3 rfl) ?_
  refine lv_iload_n hx hb dL_law_1057 rfl (lv_at hl 0 rfl) ?_
  refine lv_iconst (v := 3) hx hb dL_law_1058 (by decide) ?_
  refine lv_iadd hx hb dL_law_1059 ?_
  refine ki (v := 3) (by decide) ?_
  refine va_sld hx hb hX hbl hbA hS (i := 3) (vp_k (by decide)) dL_law_1060 ?_
  refine kv (v := .int (xs 3)) rfl ?_
  refine lv_aload_n hx hb dL_law_1061 rfl (lv_at hl 3 rfl) ?_
  refine lv_iload_n hx hb dL_law_1062 rfl (lv_at hl 0 rfl) ?_
  refine lv_iconst (v := 4) hx hb dL_law_1063 (by decide) ?_
  refine lv_iadd hx hb dL_law_1064 ?_
  refine ki (v := 4) (by decide) ?_
  refine va_sld hx hb hX hbl hbA hS (i := 4) (vp_k (by decide)) dL_law_1065 ?_
  refine kv (v := .int (xs 4)) rfl ?_
  refine cr_V (As := [.int (xs 1), .int (xs 2), .int (xs 3), .int (xs 4)]) (rest := [.int (-1)]) hFX hKK (c_X12_proof l D κ m0 a0 a1 a2 a5 a14 a15 a16 a17 a20 a21 a23 a24 a25 a28 (xs 1) (xs 2) (xs 3) (xs 4)) 4 gV_L_118 hdV_X12_proof rfl rfl ⟨Nat.le_of_ble_eq_true rfl, Nat.le_of_ble_eq_true rfl⟩ rfl rfl (Nat.le_of_ble_eq_true rfl) dL_law_1066 ⟨Nat.le_of_ble_eq_true rfl, Nat.le_of_ble_eq_true rfl⟩ hl.1 hP 25 12 rfl rfl rfl (hP.sub [25, 26] rfl) (fun _ hp_2 => ?_)
  refine W.eq (g2 := F0 m 1069 ls [.int (-1), .int (-1)]) rfl ?_
  refine lv_icmp_eq (tgt := 1622) hx hb dL_law_1069 (by decide) (fun c_3 => ?_) (fun c_3 => absurd (by decide) c_3)
  exact law_tail C0 hA hAq hS hl (Nat.le_of_ble_eq_true rfl) (Nat.le_of_ble_eq_true rfl)
set_option maxHeartbeats 4000000 in
set_option maxRecDepth 100000 in
theorem law_case_24 {p : Program} {l : Launch} {e : Env} {s : State} {m : MethodId} {below : List Frame} {meth : Method} {c : Code} {D : va_G} {κ : Nat → ClassId} {b : Nat} {xs : Nat → Int32} (C0 : lw_At p s m meth c b 6 xs) (hKK : KK D κ s) {A : Nat → Prop} (hA : ∀ q : Nat, s.heap.size ≤ q → A q) (hAq : ∀ q : Nat, A q → s.heap.size ≤ q) (x0 n0 t0 f0 r0 w0 k0 n1 n2 n3 n4 n5 t1 b0 r1 r2 r3 r4 b1 w1 k1 k2 k3 k4 k5 m0 a0 a1 a2 a5 a14 a15 a16 a17 a20 a21 a23 a24 a25 a28 : Nat) {H : Heap} {locs : List Loc} {ls : Array Slot} (hP : va_P D vwCl [(x0, .inr (11, [.ref n0, .ref t0, .ref f0, .ref r0, .ref w0, .ref k0, .int 0])), (n0, .inr (6, [.ref n1, .ref n2, .ref n3, .ref n4, .ref n5, .int 0])), (n1, .inl (κ 0, 6, .inl dial0)), (n2, .inl (κ 4, 3, .inr (.inr (.inr (.inr (fun _ => none)))))), (n3, .inl (κ 5, 3, .inr (.inr (.inr (.inr (fun _ => none)))))), (n4, .inl (κ 0, 6, .inl (fun _ => 0))), (n5, .inl (κ 4, 6, .inr (.inr (.inr (.inr (fun _ => none)))))), (t0, .inr (8, [.ref t1, .int 0])), (t1, .inl (κ 0, 800, .inl (fun _ => 0))), (f0, .inr (2, [.int 0, .int (-1), .int (-1), .int (-1), .int (-1), .int 0])), (r0, .inr (4, [.ref t0, .ref n1, .ref f0, .ref b0, .int 0, .int (-1), .ref r1, .int 0, .ref r2, .ref r3, .int 0, .null, .ref r4, .int 0])), (b0, .inr (0, [.ref b1, .int 0, .long 0])), (b1, .inl (κ 1, 0, .inl (fun _ => 0))), (r1, .inl (κ 1, 20, .inl (fun _ => 0))), (r2, .inl (κ 2, 8, .inr (.inr (.inr (.inr (fun _ => none)))))), (r3, .inl (κ 0, 8, .inl (fun _ => 0))), (r4, .inl (κ 2, 320, .inr (.inr (.inr (.inr (fun _ => none)))))), (w0, .inr (10, [.ref n1, .ref w1, .int 0])), (w1, .inl (κ 1, 6000, .inl (fun _ => 0))), (k0, .inr (6, [.ref k1, .ref k2, .ref k3, .ref k4, .ref k5, .int 0])), (k1, .inl (κ 0, 6, .inl dial0)), (k2, .inl (κ 4, 3, .inr (.inr (.inr (.inr (fun _ => none)))))), (k3, .inl (κ 5, 3, .inr (.inr (.inr (.inr (fun _ => none)))))), (k4, .inl (κ 0, 6, .inl (fun _ => 0))), (k5, .inl (κ 4, 6, .inr (.inr (.inr (.inr (fun _ => none)))))), (m0, .inr (12, [.ref a0, .ref a1, .ref a2, .int 0, .int 0, .ref a5, .int 0, .int 0, .int (-1), .int (-1), .int 0, .int 0, .int 0, .int 0, .ref a14, .ref a15, .ref a16, .ref a17, .int 0, .int 0, .ref a20, .ref a21, .int 0, .ref a23, .ref a24, .ref a25, .int 0, .int 0, .ref a28, .int 0])), (a0, .inl (κ 0, 21375, .inl wf0)), (a1, .inl (κ 0, 21375, .inl (fun _ => 0))), (a2, .inl (κ 0, 128214, .inl (fun _ => 0))), (a5, .inl (κ 0, 800, .inl (fun _ => 0))), (a14, .inl (κ 0, 189, .inl (fun _ => 0))), (a15, .inl (κ 0, 9, .inl (fun _ => 0))), (a16, .inl (κ 0, 9, .inl (fun _ => 0))), (a17, .inl (κ 0, 7123, .inl (fun _ => 0))), (a20, .inl (κ 0, 801, .inl (fun _ => 0))), (a21, .inl (κ 0, 40, .inl (fun _ => 0))), (a23, .inl (κ 0, 40, .inl (fun _ => 0))), (a24, .inl (κ 0, 40, .inl (fun _ => 0))), (a25, .inl (κ 0, 6000, .inl (fun _ => 0))), (a28, .inl (κ 0, 400, .inl (fun _ => 0)))] H) (hD : va_D A [(x0, .inr (11, [.ref n0, .ref t0, .ref f0, .ref r0, .ref w0, .ref k0, .int 0])), (n0, .inr (6, [.ref n1, .ref n2, .ref n3, .ref n4, .ref n5, .int 0])), (n1, .inl (κ 0, 6, .inl dial0)), (n2, .inl (κ 4, 3, .inr (.inr (.inr (.inr (fun _ => none)))))), (n3, .inl (κ 5, 3, .inr (.inr (.inr (.inr (fun _ => none)))))), (n4, .inl (κ 0, 6, .inl (fun _ => 0))), (n5, .inl (κ 4, 6, .inr (.inr (.inr (.inr (fun _ => none)))))), (t0, .inr (8, [.ref t1, .int 0])), (t1, .inl (κ 0, 800, .inl (fun _ => 0))), (f0, .inr (2, [.int 0, .int (-1), .int (-1), .int (-1), .int (-1), .int 0])), (r0, .inr (4, [.ref t0, .ref n1, .ref f0, .ref b0, .int 0, .int (-1), .ref r1, .int 0, .ref r2, .ref r3, .int 0, .null, .ref r4, .int 0])), (b0, .inr (0, [.ref b1, .int 0, .long 0])), (b1, .inl (κ 1, 0, .inl (fun _ => 0))), (r1, .inl (κ 1, 20, .inl (fun _ => 0))), (r2, .inl (κ 2, 8, .inr (.inr (.inr (.inr (fun _ => none)))))), (r3, .inl (κ 0, 8, .inl (fun _ => 0))), (r4, .inl (κ 2, 320, .inr (.inr (.inr (.inr (fun _ => none)))))), (w0, .inr (10, [.ref n1, .ref w1, .int 0])), (w1, .inl (κ 1, 6000, .inl (fun _ => 0))), (k0, .inr (6, [.ref k1, .ref k2, .ref k3, .ref k4, .ref k5, .int 0])), (k1, .inl (κ 0, 6, .inl dial0)), (k2, .inl (κ 4, 3, .inr (.inr (.inr (.inr (fun _ => none)))))), (k3, .inl (κ 5, 3, .inr (.inr (.inr (.inr (fun _ => none)))))), (k4, .inl (κ 0, 6, .inl (fun _ => 0))), (k5, .inl (κ 4, 6, .inr (.inr (.inr (.inr (fun _ => none)))))), (m0, .inr (12, [.ref a0, .ref a1, .ref a2, .int 0, .int 0, .ref a5, .int 0, .int 0, .int (-1), .int (-1), .int 0, .int 0, .int 0, .int 0, .ref a14, .ref a15, .ref a16, .ref a17, .int 0, .int 0, .ref a20, .ref a21, .int 0, .ref a23, .ref a24, .ref a25, .int 0, .int 0, .ref a28, .int 0])), (a0, .inl (κ 0, 21375, .inl wf0)), (a1, .inl (κ 0, 21375, .inl (fun _ => 0))), (a2, .inl (κ 0, 128214, .inl (fun _ => 0))), (a5, .inl (κ 0, 800, .inl (fun _ => 0))), (a14, .inl (κ 0, 189, .inl (fun _ => 0))), (a15, .inl (κ 0, 9, .inl (fun _ => 0))), (a16, .inl (κ 0, 9, .inl (fun _ => 0))), (a17, .inl (κ 0, 7123, .inl (fun _ => 0))), (a20, .inl (κ 0, 801, .inl (fun _ => 0))), (a21, .inl (κ 0, 40, .inl (fun _ => 0))), (a23, .inl (κ 0, 40, .inl (fun _ => 0))), (a24, .inl (κ 0, 40, .inl (fun _ => 0))), (a25, .inl (κ 0, 6000, .inl (fun _ => 0))), (a28, .inl (κ 0, 400, .inl (fun _ => 0)))]) (hS : va_S A s.heap H locs) (hl : lv_has ls 4 [(3, .int 0), (2, .ref m0), (1, .ref x0), (0, .ref b)]) : W p l e room_1 s m #[Value.ref b] below meth c H locs 40 193696 (lw_Z below #[Value.ref b] s) (F0 m 1074 ls []) := by
  obtain ⟨hx, hb, hr, hml, hown, hts0, hX, hbl, hlk, hgv⟩ := id C0
  have hb : c.code = cL_law := hb
  have hts : ∀ w ∈ wsL_law, w.before #[Value.ref b] s = true := fun w h => hts0 w (wsL_law_in w h)
  have hown : s.vm.findClass RL = some m.cls := hown
  have hK : va_K D vwCl (T0 κ) s := hKK.1
  have hbA : ¬ A b := fun h => absurd (hAq b h) (Nat.not_le.mpr hbl)
  have hFX : FX p s m #[Value.ref b] c cL_law 4 RL := ⟨hx, hb, hml, hown, hts⟩
  refine lv_aload_n hx hb dL_law_1074 rfl (lv_at hl 2 rfl) ?_
  refine lv_aload_n hx hb dL_law_1075 rfl (lv_at hl 3 rfl) ?_
  refine lv_iload_n hx hb dL_law_1076 rfl (lv_at hl 0 rfl) ?_
  refine lv_iconst (v := 1) hx hb dL_law_1077 (by decide) ?_
  refine lv_iadd hx hb dL_law_1078 ?_
  refine ki (v := 1) (by decide) ?_
  refine va_sld hx hb hX hbl hbA hS (i := 1) (vp_k (by decide)) dL_law_1079 ?_
  refine kv (v := .int (xs 1)) rfl ?_
  refine lv_aload_n hx hb dL_law_1080 rfl (lv_at hl 3 rfl) ?_
  refine lv_iload_n hx hb dL_law_1081 rfl (lv_at hl 0 rfl) ?_
  refine lv_iconst (v := 2) hx hb dL_law_1082 (by decide) ?_
  refine lv_iadd hx hb dL_law_1083 ?_
  refine ki (v := 2) (by decide) ?_
  refine va_sld hx hb hX hbl hbA hS (i := 2) (vp_k (by decide)) dL_law_1084 ?_
  refine kv (v := .int (xs 2)) rfl ?_
  refine lv_aload_n hx hb dL_law_1085 rfl (lv_at hl 3 rfl) ?_
  refine lv_iload_n hx hb dL_law_1086 rfl (lv_at hl 0 rfl) ?_
  refine lv_iconst (v := 3) hx hb dL_law_1087 (by decide) ?_
  refine lv_iadd hx hb dL_law_1088 ?_
  refine ki (v := 3) (by decide) ?_
  refine va_sld hx hb hX hbl hbA hS (i := 3) (vp_k (by decide)) dL_law_1089 ?_
  refine kv (v := .int (xs 3)) rfl ?_
  refine cr_V (As := [.int (xs 1), .int (xs 2), .int (xs 3)]) (rest := []) hFX hKK (c_X11_against l D κ x0 n0 t0 f0 r0 w0 k0 n1 n2 n3 n4 n5 (xs 1) (xs 2) (xs 3)) 3 gV_L_119 hdV_X11_against rfl rfl ⟨Nat.le_of_ble_eq_true rfl, Nat.le_of_ble_eq_true rfl⟩ rfl rfl (Nat.le_of_ble_eq_true rfl) dL_law_1090 ⟨Nat.le_of_ble_eq_true rfl, Nat.le_of_ble_eq_true rfl⟩ hl.1 hP 0 11 rfl rfl rfl (hP.sub [0, 1, 3] rfl) (fun _ hp_1 => ?_)
  refine W.eq (g2 := F0 m 1093 ls [.int (-1)]) rfl ?_
  refine lv_aload_n hx hb dL_law_1093 rfl (lv_at hl 1 rfl) ?_
  refine lv_aload_n hx hb dL_law_1094 rfl (lv_at hl 3 rfl) ?_
  refine lv_iload_n hx hb dL_law_1095 rfl (lv_at hl 0 rfl) ?_
  refine lv_iconst (v := 1) hx hb dL_law_1096 (by decide) ?_
  refine lv_iadd hx hb dL_law_1097 ?_
  refine ki (v := 1) (by decide) ?_
  refine va_sld hx hb hX hbl hbA hS (i := 1) (vp_k (by decide)) dL_law_1098 ?_
  refine kv (v := .int (xs 1)) rfl ?_
  refine lv_aload_n hx hb dL_law_1099 rfl (lv_at hl 3 rfl) ?_
  refine lv_iload_n hx hb dL_law_1100 rfl (lv_at hl 0 rfl) ?_
  refine lv_iconst (v := 2) hx hb dL_law_1101 (by decide) ?_
  refine lv_iadd hx hb dL_law_1102 ?_
  refine ki (v := 2) (by decide) ?_
  refine va_sld hx hb hX hbl hbA hS (i := 2) (vp_k (by decide)) dL_law_1103 ?_
  refine kv (v := .int (xs 2)) rfl ?_
  refine lv_aload_n hx hb dL_law_1104 rfl (lv_at hl 3 rfl) ?_
  refine lv_iload_n hx hb dL_law_1105 rfl (lv_at hl 0 rfl) ?_
  refine lv_iconst (v := 3) hx hb dL_law_1106 (by decide) ?_
  refine lv_iadd hx hb dL_law_1107 ?_
  refine ki (v := 3) (by decide) ?_
  refine va_sld hx hb hX hbl hbA hS (i := 3) (vp_k (by decide)) dL_law_1108 ?_
  refine kv (v := .int (xs 3)) rfl ?_
  refine cr_V (As := [.int (xs 1), .int (xs 2), .int (xs 3)]) (rest := [.int (-1)]) hFX hKK (c_X12_against l D κ m0 a0 a1 a2 a5 a14 a15 a16 a17 a20 a21 a23 a24 a25 a28 (xs 1) (xs 2) (xs 3)) 3 gV_L_122 hdV_X12_against rfl rfl ⟨Nat.le_of_ble_eq_true rfl, Nat.le_of_ble_eq_true rfl⟩ rfl rfl (Nat.le_of_ble_eq_true rfl) dL_law_1109 ⟨Nat.le_of_ble_eq_true rfl, Nat.le_of_ble_eq_true rfl⟩ hl.1 hP 25 12 rfl rfl rfl (hP.sub [25, 26] rfl) (fun _ hp_2 => ?_)
  refine W.eq (g2 := F0 m 1112 ls [.int (-1), .int (-1)]) rfl ?_
  refine lv_icmp_eq (tgt := 1622) hx hb dL_law_1112 (by decide) (fun c_3 => ?_) (fun c_3 => absurd (by decide) c_3)
  exact law_tail C0 hA hAq hS hl (Nat.le_of_ble_eq_true rfl) (Nat.le_of_ble_eq_true rfl)
set_option maxHeartbeats 4000000 in
set_option maxRecDepth 100000 in
theorem law_case_25 {p : Program} {l : Launch} {e : Env} {s : State} {m : MethodId} {below : List Frame} {meth : Method} {c : Code} {D : va_G} {κ : Nat → ClassId} {b : Nat} {xs : Nat → Int32} (C0 : lw_At p s m meth c b 6 xs) (hKK : KK D κ s) {A : Nat → Prop} (hA : ∀ q : Nat, s.heap.size ≤ q → A q) (hAq : ∀ q : Nat, A q → s.heap.size ≤ q) (x0 n0 t0 f0 r0 w0 k0 n1 n2 n3 n4 n5 t1 b0 r1 r2 r3 r4 b1 w1 k1 k2 k3 k4 k5 m0 a0 a1 a2 a5 a14 a15 a16 a17 a20 a21 a23 a24 a25 a28 : Nat) {H : Heap} {locs : List Loc} {ls : Array Slot} (hP : va_P D vwCl [(x0, .inr (11, [.ref n0, .ref t0, .ref f0, .ref r0, .ref w0, .ref k0, .int 0])), (n0, .inr (6, [.ref n1, .ref n2, .ref n3, .ref n4, .ref n5, .int 0])), (n1, .inl (κ 0, 6, .inl dial0)), (n2, .inl (κ 4, 3, .inr (.inr (.inr (.inr (fun _ => none)))))), (n3, .inl (κ 5, 3, .inr (.inr (.inr (.inr (fun _ => none)))))), (n4, .inl (κ 0, 6, .inl (fun _ => 0))), (n5, .inl (κ 4, 6, .inr (.inr (.inr (.inr (fun _ => none)))))), (t0, .inr (8, [.ref t1, .int 0])), (t1, .inl (κ 0, 800, .inl (fun _ => 0))), (f0, .inr (2, [.int 0, .int (-1), .int (-1), .int (-1), .int (-1), .int 0])), (r0, .inr (4, [.ref t0, .ref n1, .ref f0, .ref b0, .int 0, .int (-1), .ref r1, .int 0, .ref r2, .ref r3, .int 0, .null, .ref r4, .int 0])), (b0, .inr (0, [.ref b1, .int 0, .long 0])), (b1, .inl (κ 1, 0, .inl (fun _ => 0))), (r1, .inl (κ 1, 20, .inl (fun _ => 0))), (r2, .inl (κ 2, 8, .inr (.inr (.inr (.inr (fun _ => none)))))), (r3, .inl (κ 0, 8, .inl (fun _ => 0))), (r4, .inl (κ 2, 320, .inr (.inr (.inr (.inr (fun _ => none)))))), (w0, .inr (10, [.ref n1, .ref w1, .int 0])), (w1, .inl (κ 1, 6000, .inl (fun _ => 0))), (k0, .inr (6, [.ref k1, .ref k2, .ref k3, .ref k4, .ref k5, .int 0])), (k1, .inl (κ 0, 6, .inl dial0)), (k2, .inl (κ 4, 3, .inr (.inr (.inr (.inr (fun _ => none)))))), (k3, .inl (κ 5, 3, .inr (.inr (.inr (.inr (fun _ => none)))))), (k4, .inl (κ 0, 6, .inl (fun _ => 0))), (k5, .inl (κ 4, 6, .inr (.inr (.inr (.inr (fun _ => none)))))), (m0, .inr (12, [.ref a0, .ref a1, .ref a2, .int 0, .int 0, .ref a5, .int 0, .int 0, .int (-1), .int (-1), .int 0, .int 0, .int 0, .int 0, .ref a14, .ref a15, .ref a16, .ref a17, .int 0, .int 0, .ref a20, .ref a21, .int 0, .ref a23, .ref a24, .ref a25, .int 0, .int 0, .ref a28, .int 0])), (a0, .inl (κ 0, 21375, .inl wf0)), (a1, .inl (κ 0, 21375, .inl (fun _ => 0))), (a2, .inl (κ 0, 128214, .inl (fun _ => 0))), (a5, .inl (κ 0, 800, .inl (fun _ => 0))), (a14, .inl (κ 0, 189, .inl (fun _ => 0))), (a15, .inl (κ 0, 9, .inl (fun _ => 0))), (a16, .inl (κ 0, 9, .inl (fun _ => 0))), (a17, .inl (κ 0, 7123, .inl (fun _ => 0))), (a20, .inl (κ 0, 801, .inl (fun _ => 0))), (a21, .inl (κ 0, 40, .inl (fun _ => 0))), (a23, .inl (κ 0, 40, .inl (fun _ => 0))), (a24, .inl (κ 0, 40, .inl (fun _ => 0))), (a25, .inl (κ 0, 6000, .inl (fun _ => 0))), (a28, .inl (κ 0, 400, .inl (fun _ => 0)))] H) (hD : va_D A [(x0, .inr (11, [.ref n0, .ref t0, .ref f0, .ref r0, .ref w0, .ref k0, .int 0])), (n0, .inr (6, [.ref n1, .ref n2, .ref n3, .ref n4, .ref n5, .int 0])), (n1, .inl (κ 0, 6, .inl dial0)), (n2, .inl (κ 4, 3, .inr (.inr (.inr (.inr (fun _ => none)))))), (n3, .inl (κ 5, 3, .inr (.inr (.inr (.inr (fun _ => none)))))), (n4, .inl (κ 0, 6, .inl (fun _ => 0))), (n5, .inl (κ 4, 6, .inr (.inr (.inr (.inr (fun _ => none)))))), (t0, .inr (8, [.ref t1, .int 0])), (t1, .inl (κ 0, 800, .inl (fun _ => 0))), (f0, .inr (2, [.int 0, .int (-1), .int (-1), .int (-1), .int (-1), .int 0])), (r0, .inr (4, [.ref t0, .ref n1, .ref f0, .ref b0, .int 0, .int (-1), .ref r1, .int 0, .ref r2, .ref r3, .int 0, .null, .ref r4, .int 0])), (b0, .inr (0, [.ref b1, .int 0, .long 0])), (b1, .inl (κ 1, 0, .inl (fun _ => 0))), (r1, .inl (κ 1, 20, .inl (fun _ => 0))), (r2, .inl (κ 2, 8, .inr (.inr (.inr (.inr (fun _ => none)))))), (r3, .inl (κ 0, 8, .inl (fun _ => 0))), (r4, .inl (κ 2, 320, .inr (.inr (.inr (.inr (fun _ => none)))))), (w0, .inr (10, [.ref n1, .ref w1, .int 0])), (w1, .inl (κ 1, 6000, .inl (fun _ => 0))), (k0, .inr (6, [.ref k1, .ref k2, .ref k3, .ref k4, .ref k5, .int 0])), (k1, .inl (κ 0, 6, .inl dial0)), (k2, .inl (κ 4, 3, .inr (.inr (.inr (.inr (fun _ => none)))))), (k3, .inl (κ 5, 3, .inr (.inr (.inr (.inr (fun _ => none)))))), (k4, .inl (κ 0, 6, .inl (fun _ => 0))), (k5, .inl (κ 4, 6, .inr (.inr (.inr (.inr (fun _ => none)))))), (m0, .inr (12, [.ref a0, .ref a1, .ref a2, .int 0, .int 0, .ref a5, .int 0, .int 0, .int (-1), .int (-1), .int 0, .int 0, .int 0, .int 0, .ref a14, .ref a15, .ref a16, .ref a17, .int 0, .int 0, .ref a20, .ref a21, .int 0, .ref a23, .ref a24, .ref a25, .int 0, .int 0, .ref a28, .int 0])), (a0, .inl (κ 0, 21375, .inl wf0)), (a1, .inl (κ 0, 21375, .inl (fun _ => 0))), (a2, .inl (κ 0, 128214, .inl (fun _ => 0))), (a5, .inl (κ 0, 800, .inl (fun _ => 0))), (a14, .inl (κ 0, 189, .inl (fun _ => 0))), (a15, .inl (κ 0, 9, .inl (fun _ => 0))), (a16, .inl (κ 0, 9, .inl (fun _ => 0))), (a17, .inl (κ 0, 7123, .inl (fun _ => 0))), (a20, .inl (κ 0, 801, .inl (fun _ => 0))), (a21, .inl (κ 0, 40, .inl (fun _ => 0))), (a23, .inl (κ 0, 40, .inl (fun _ => 0))), (a24, .inl (κ 0, 40, .inl (fun _ => 0))), (a25, .inl (κ 0, 6000, .inl (fun _ => 0))), (a28, .inl (κ 0, 400, .inl (fun _ => 0)))]) (hS : va_S A s.heap H locs) (hl : lv_has ls 4 [(3, .int 0), (2, .ref m0), (1, .ref x0), (0, .ref b)]) : W p l e room_1 s m #[Value.ref b] below meth c H locs 40 193696 (lw_Z below #[Value.ref b] s) (F0 m 1117 ls []) := by
  obtain ⟨hx, hb, hr, hml, hown, hts0, hX, hbl, hlk, hgv⟩ := id C0
  have hb : c.code = cL_law := hb
  have hts : ∀ w ∈ wsL_law, w.before #[Value.ref b] s = true := fun w h => hts0 w (wsL_law_in w h)
  have hown : s.vm.findClass RL = some m.cls := hown
  have hK : va_K D vwCl (T0 κ) s := hKK.1
  have hbA : ¬ A b := fun h => absurd (hAq b h) (Nat.not_le.mpr hbl)
  have hFX : FX p s m #[Value.ref b] c cL_law 4 RL := ⟨hx, hb, hml, hown, hts⟩
  refine lv_aload_n hx hb dL_law_1117 rfl (lv_at hl 2 rfl) ?_
  refine lv_aload_n hx hb dL_law_1118 rfl (lv_at hl 3 rfl) ?_
  refine lv_iload_n hx hb dL_law_1119 rfl (lv_at hl 0 rfl) ?_
  refine lv_iconst (v := 1) hx hb dL_law_1120 (by decide) ?_
  refine lv_iadd hx hb dL_law_1121 ?_
  refine ki (v := 1) (by decide) ?_
  refine va_sld hx hb hX hbl hbA hS (i := 1) (vp_k (by decide)) dL_law_1122 ?_
  refine kv (v := .int (xs 1)) rfl ?_
  refine lv_aload_n hx hb dL_law_1123 rfl (lv_at hl 3 rfl) ?_
  refine lv_iload_n hx hb dL_law_1124 rfl (lv_at hl 0 rfl) ?_
  refine lv_iconst (v := 2) hx hb dL_law_1125 (by decide) ?_
  refine lv_iadd hx hb dL_law_1126 ?_
  refine ki (v := 2) (by decide) ?_
  refine va_sld hx hb hX hbl hbA hS (i := 2) (vp_k (by decide)) dL_law_1127 ?_
  refine kv (v := .int (xs 2)) rfl ?_
  refine lv_aload_n hx hb dL_law_1128 rfl (lv_at hl 3 rfl) ?_
  refine lv_iload_n hx hb dL_law_1129 rfl (lv_at hl 0 rfl) ?_
  refine lv_iconst (v := 3) hx hb dL_law_1130 (by decide) ?_
  refine lv_iadd hx hb dL_law_1131 ?_
  refine ki (v := 3) (by decide) ?_
  refine va_sld hx hb hX hbl hbA hS (i := 3) (vp_k (by decide)) dL_law_1132 ?_
  refine kv (v := .int (xs 3)) rfl ?_
  refine lv_aload_n hx hb dL_law_1133 rfl (lv_at hl 3 rfl) ?_
  refine lv_iload_n hx hb dL_law_1134 rfl (lv_at hl 0 rfl) ?_
  refine lv_iconst (v := 4) hx hb dL_law_1135 (by decide) ?_
  refine lv_iadd hx hb dL_law_1136 ?_
  refine ki (v := 4) (by decide) ?_
  refine va_sld hx hb hX hbl hbA hS (i := 4) (vp_k (by decide)) dL_law_1137 ?_
  refine kv (v := .int (xs 4)) rfl ?_
  refine cr_V (As := [.int (xs 1), .int (xs 2), .int (xs 3), .int (xs 4)]) (rest := []) hFX hKK (c_X11_cell l D κ x0 n0 t0 f0 r0 w0 k0 n1 n2 n3 n4 n5 (xs 1) (xs 2) (xs 3) (xs 4)) 4 gV_L_123 hdV_X11_cell rfl rfl ⟨Nat.le_of_ble_eq_true rfl, Nat.le_of_ble_eq_true rfl⟩ rfl rfl (Nat.le_of_ble_eq_true rfl) dL_law_1138 ⟨Nat.le_of_ble_eq_true rfl, Nat.le_of_ble_eq_true rfl⟩ hl.1 hP 0 11 rfl rfl rfl (hP.sub [0, 1, 3] rfl) (fun _ hp_1 => ?_)
  refine W.eq (g2 := F0 m 1141 ls [.int (-1)]) rfl ?_
  refine lv_aload_n hx hb dL_law_1141 rfl (lv_at hl 1 rfl) ?_
  refine lv_aload_n hx hb dL_law_1142 rfl (lv_at hl 3 rfl) ?_
  refine lv_iload_n hx hb dL_law_1143 rfl (lv_at hl 0 rfl) ?_
  refine lv_iconst (v := 1) hx hb dL_law_1144 (by decide) ?_
  refine lv_iadd hx hb dL_law_1145 ?_
  refine ki (v := 1) (by decide) ?_
  refine va_sld hx hb hX hbl hbA hS (i := 1) (vp_k (by decide)) dL_law_1146 ?_
  refine kv (v := .int (xs 1)) rfl ?_
  refine lv_aload_n hx hb dL_law_1147 rfl (lv_at hl 3 rfl) ?_
  refine lv_iload_n hx hb dL_law_1148 rfl (lv_at hl 0 rfl) ?_
  refine lv_iconst (v := 2) hx hb dL_law_1149 (by decide) ?_
  refine lv_iadd hx hb dL_law_1150 ?_
  refine ki (v := 2) (by decide) ?_
  refine va_sld hx hb hX hbl hbA hS (i := 2) (vp_k (by decide)) dL_law_1151 ?_
  refine kv (v := .int (xs 2)) rfl ?_
  refine lv_aload_n hx hb dL_law_1152 rfl (lv_at hl 3 rfl) ?_
  refine lv_iload_n hx hb dL_law_1153 rfl (lv_at hl 0 rfl) ?_
  refine lv_iconst (v := 3) hx hb dL_law_1154 (by decide) ?_
  refine lv_iadd hx hb dL_law_1155 ?_
  refine ki (v := 3) (by decide) ?_
  refine va_sld hx hb hX hbl hbA hS (i := 3) (vp_k (by decide)) dL_law_1156 ?_
  refine kv (v := .int (xs 3)) rfl ?_
  refine lv_aload_n hx hb dL_law_1157 rfl (lv_at hl 3 rfl) ?_
  refine lv_iload_n hx hb dL_law_1158 rfl (lv_at hl 0 rfl) ?_
  refine lv_iconst (v := 4) hx hb dL_law_1159 (by decide) ?_
  refine lv_iadd hx hb dL_law_1160 ?_
  refine ki (v := 4) (by decide) ?_
  refine va_sld hx hb hX hbl hbA hS (i := 4) (vp_k (by decide)) dL_law_1161 ?_
  refine kv (v := .int (xs 4)) rfl ?_
  refine cr_V (As := [.int (xs 1), .int (xs 2), .int (xs 3), .int (xs 4)]) (rest := [.int (-1)]) hFX hKK (c_X12_cell l D κ m0 a0 a1 a2 a5 a14 a15 a16 a17 a20 a21 a23 a24 a25 a28 (xs 1) (xs 2) (xs 3) (xs 4)) 4 gV_L_126 hdV_X12_cell rfl rfl ⟨Nat.le_of_ble_eq_true rfl, Nat.le_of_ble_eq_true rfl⟩ rfl rfl (Nat.le_of_ble_eq_true rfl) dL_law_1162 ⟨Nat.le_of_ble_eq_true rfl, Nat.le_of_ble_eq_true rfl⟩ hl.1 hP 25 12 rfl rfl rfl (hP.sub [25, 26] rfl) (fun _ hp_2 => ?_)
  refine W.eq (g2 := F0 m 1165 ls [.int (-1), .int (-1)]) rfl ?_
  refine lv_icmp_eq (tgt := 1622) hx hb dL_law_1165 (by decide) (fun c_3 => ?_) (fun c_3 => absurd (by decide) c_3)
  exact law_tail C0 hA hAq hS hl (Nat.le_of_ble_eq_true rfl) (Nat.le_of_ble_eq_true rfl)
