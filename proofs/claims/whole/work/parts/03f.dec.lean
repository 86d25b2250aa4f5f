def lDL_law_6 : List (Nat × Instr × Nat) := [(688, .iconst 0, 1), (689, .ireturn, 1), (690, .aload_n 1, 1), (691, .aload_n 0, 1), (692, .iload 4, 2), (694, .iconst 1, 1), (695, .iadd, 1), (696, .iaload, 1), (697, .invokevirtual 86, 3), (700, .aload_n 2, 1), (701, .aload_n 0, 1), (702, .iload 4, 2), (704, .iconst 1, 1), (705, .iadd, 1), (706, .iaload, 1), (707, .invokevirtual 89, 3), (710, .if_icmp .eq 683, 3), (713, .iconst 0, 1), (714, .ireturn, 1), (715, .aload_n 1, 1), (716, .aload_n 0, 1), (717, .iload 4, 2), (719, .iconst 1, 1), (720, .iadd, 1), (721, .iaload, 1), (722, .invokevirtual 90, 3), (725, .aload_n 2, 1), (726, .aload_n 0, 1), (727, .iload 4, 2), (729, .iconst 1, 1), (730, .iadd, 1), (731, .iaload, 1), (732, .invokevirtual 93, 3), (735, .if_icmp .eq 658, 3), (738, .iconst 0, 1), (739, .ireturn, 1), (740, .aload_n 1, 1), (741, .aload_n 0, 1), (742, .iload 4, 2), (744, .iconst 1, 1), (745, .iadd, 1), (746, .iaload, 1), (747, .invokevirtual 94, 3), (750, .aload_n 2, 1), (751, .aload_n 0, 1), (752, .iload 4, 2), (754, .iconst 1, 1), (755, .iadd, 1), (756, .iaload, 1), (757, .invokevirtual 97, 3), (760, .if_icmp .eq 633, 3), (763, .iconst 0, 1), (764, .ireturn, 1), (765, .aload_n 1, 1), (766, .invokevirtual 98, 3), (769, .aload_n 2, 1), (770, .invokevirtual 101, 3), (773, .if_icmp .eq 620, 3), (776, .iconst 0, 1), (777, .ireturn, 1)]
theorem DL_law_6 : dAll cL_law lDL_law_6 = true := by decide +kernel
theorem dL_law_688 : decode cL_law 688 = .ok (.iconst 0, 1) := dAt (x := (688, .iconst 0, 1)) DL_law_6 0 rfl
theorem dL_law_689 : decode cL_law 689 = .ok (.ireturn, 1) := dAt (x := (689, .ireturn, 1)) DL_law_6 1 rfl
theorem dL_law_690 : decode cL_law 690 = .ok (.aload_n 1, 1) := dAt (x := (690, .aload_n 1, 1)) DL_law_6 2 rfl
theorem dL_law_691 : decode cL_law 691 = .ok (.aload_n 0, 1) := dAt (x := (691, .aload_n 0, 1)) DL_law_6 3 rfl
theorem dL_law_692 : decode cL_law 692 = .ok (.iload 4, 2) := dAt (x := (692, .iload 4, 2)) DL_law_6 4 rfl
theorem dL_law_694 : decode cL_law 694 = .ok (.iconst 1, 1) := dAt (x := (694, .iconst 1, 1)) DL_law_6 5 rfl
theorem dL_law_695 : decode cL_law 695 = .ok (.iadd, 1) := dAt (x := (695, .iadd, 1)) DL_law_6 6 rfl
theorem dL_law_696 : decode cL_law 696 = .ok (.iaload, 1) := dAt (x := (696, .iaload, 1)) DL_law_6 7 rfl
theorem dL_law_697 : decode cL_law 697 = .ok (.invokevirtual 86, 3) := dAt (x := (697, .invokevirtual 86, 3)) DL_law_6 8 rfl
theorem dL_law_700 : decode cL_law 700 = .ok (.aload_n 2, 1) := dAt (x := (700, .aload_n 2, 1)) DL_law_6 9 rfl
theorem dL_law_701 : decode cL_law 701 = .ok (.aload_n 0, 1) := dAt (x := (701, .aload_n 0, 1)) DL_law_6 10 rfl
theorem dL_law_702 : decode cL_law 702 = .ok (.iload 4, 2) := dAt (x := (702, .iload 4, 2)) DL_law_6 11 rfl
theorem dL_law_704 : decode cL_law 704 = .ok (.iconst 1, 1) := dAt (x := (704, .iconst 1, 1)) DL_law_6 12 rfl
theorem dL_law_705 : decode cL_law 705 = .ok (.iadd, 1) := dAt (x := (705, .iadd, 1)) DL_law_6 13 rfl
theorem dL_law_706 : decode cL_law 706 = .ok (.iaload, 1) := dAt (x := (706, .iaload, 1)) DL_law_6 14 rfl
theorem dL_law_707 : decode cL_law 707 = .ok (.invokevirtual 89, 3) := dAt (x := (707, .invokevirtual 89, 3)) DL_law_6 15 rfl
theorem dL_law_710 : decode cL_law 710 = .ok (.if_icmp .eq 683, 3) := dAt (x := (710, .if_icmp .eq 683, 3)) DL_law_6 16 rfl
theorem dL_law_713 : decode cL_law 713 = .ok (.iconst 0, 1) := dAt (x := (713, .iconst 0, 1)) DL_law_6 17 rfl
theorem dL_law_714 : decode cL_law 714 = .ok (.ireturn, 1) := dAt (x := (714, .ireturn, 1)) DL_law_6 18 rfl
theorem dL_law_715 : decode cL_law 715 = .ok (.aload_n 1, 1) := dAt (x := (715, .aload_n 1, 1)) DL_law_6 19 rfl
theorem dL_law_716 : decode cL_law 716 = .ok (.aload_n 0, 1) := dAt (x := (716, .aload_n 0, 1)) DL_law_6 20 rfl
theorem dL_law_717 : decode cL_law 717 = .ok (.iload 4, 2) := dAt (x := (717, .iload 4, 2)) DL_law_6 21 rfl
theorem dL_law_719 : decode cL_law 719 = .ok (.iconst 1, 1) := dAt (x := (719, .iconst 1, 1)) DL_law_6 22 rfl
theorem dL_law_720 : decode cL_law 720 = .ok (.iadd, 1) := dAt (x := (720, .iadd, 1)) DL_law_6 23 rfl
theorem dL_law_721 : decode cL_law 721 = .ok (.iaload, 1) := dAt (x := (721, .iaload, 1)) DL_law_6 24 rfl
theorem dL_law_722 : decode cL_law 722 = .ok (.invokevirtual 90, 3) := dAt (x := (722, .invokevirtual 90, 3)) DL_law_6 25 rfl
theorem dL_law_725 : decode cL_law 725 = .ok (.aload_n 2, 1) := dAt (x := (725, .aload_n 2, 1)) DL_law_6 26 rfl
theorem dL_law_726 : decode cL_law 726 = .ok (.aload_n 0, 1) := dAt (x := (726, .aload_n 0, 1)) DL_law_6 27 rfl
theorem dL_law_727 : decode cL_law 727 = .ok (.iload 4, 2) := dAt (x := (727, .iload 4, 2)) DL_law_6 28 rfl
theorem dL_law_729 : decode cL_law 729 = .ok (.iconst 1, 1) := dAt (x := (729, .iconst 1, 1)) DL_law_6 29 rfl
theorem dL_law_730 : decode cL_law 730 = .ok (.iadd, 1) := dAt (x := (730, .iadd, 1)) DL_law_6 30 rfl
theorem dL_law_731 : decode cL_law 731 = .ok (.iaload, 1) := dAt (x := (731, .iaload, 1)) DL_law_6 31 rfl
theorem dL_law_732 : decode cL_law 732 = .ok (.invokevirtual 93, 3) := dAt (x := (732, .invokevirtual 93, 3)) DL_law_6 32 rfl
theorem dL_law_735 : decode cL_law 735 = .ok (.if_icmp .eq 658, 3) := dAt (x := (735, .if_icmp .eq 658, 3)) DL_law_6 33 rfl
theorem dL_law_738 : decode cL_law 738 = .ok (.iconst 0, 1) := dAt (x := (738, .iconst 0, 1)) DL_law_6 34 rfl
theorem dL_law_739 : decode cL_law 739 = .ok (.ireturn, 1) := dAt (x := (739, .ireturn, 1)) DL_law_6 35 rfl
theorem dL_law_740 : decode cL_law 740 = .ok (.aload_n 1, 1) := dAt (x := (740, .aload_n 1, 1)) DL_law_6 36 rfl
theorem dL_law_741 : decode cL_law 741 = .ok (.aload_n 0, 1) := dAt (x := (741, .aload_n 0, 1)) DL_law_6 37 rfl
theorem dL_law_742 : decode cL_law 742 = .ok (.iload 4, 2) := dAt (x := (742, .iload 4, 2)) DL_law_6 38 rfl
theorem dL_law_744 : decode cL_law 744 = .ok (.iconst 1, 1) := dAt (x := (744, .iconst 1, 1)) DL_law_6 39 rfl
theorem dL_law_745 : decode cL_law 745 = .ok (.iadd, 1) := dAt (x := (745, .iadd, 1)) DL_law_6 40 rfl
theorem dL_law_746 : decode cL_law 746 = .ok (.iaload, 1) := dAt (x := (746, .iaload, 1)) DL_law_6 41 rfl
theorem dL_law_747 : decode cL_law 747 = .ok (.invokevirtual 94, 3) := dAt (x := (747, .invokevirtual 94, 3)) DL_law_6 42 rfl
theorem dL_law_750 : decode cL_law 750 = .ok (.aload_n 2, 1) := dAt (x := (750, .aload_n 2, 1)) DL_law_6 43 rfl
theorem dL_law_751 : decode cL_law 751 = .ok (.aload_n 0, 1) := dAt (x := (751, .aload_n 0, 1)) DL_law_6 44 rfl
theorem dL_law_752 : decode cL_law 752 = .ok (.iload 4, 2) := dAt (x := (752, .iload 4, 2)) DL_law_6 45 rfl
theorem dL_law_754 : decode cL_law 754 = .ok (.iconst 1, 1) := dAt (x := (754, .iconst 1, 1)) DL_law_6 46 rfl
theorem dL_law_755 : decode cL_law 755 = .ok (.iadd, 1) := dAt (x := (755, .iadd, 1)) DL_law_6 47 rfl
theorem dL_law_756 : decode cL_law 756 = .ok (.iaload, 1) := dAt (x := (756, .iaload, 1)) DL_law_6 48 rfl
theorem dL_law_757 : decode cL_law 757 = .ok (.invokevirtual 97, 3) := dAt (x := (757, .invokevirtual 97, 3)) DL_law_6 49 rfl
theorem dL_law_760 : decode cL_law 760 = .ok (.if_icmp .eq 633, 3) := dAt (x := (760, .if_icmp .eq 633, 3)) DL_law_6 50 rfl
theorem dL_law_763 : decode cL_law 763 = .ok (.iconst 0, 1) := dAt (x := (763, .iconst 0, 1)) DL_law_6 51 rfl
theorem dL_law_764 : decode cL_law 764 = .ok (.ireturn, 1) := dAt (x := (764, .ireturn, 1)) DL_law_6 52 rfl
theorem dL_law_765 : decode cL_law 765 = .ok (.aload_n 1, 1) := dAt (x := (765, .aload_n 1, 1)) DL_law_6 53 rfl
theorem dL_law_766 : decode cL_law 766 = .ok (.invokevirtual 98, 3) := dAt (x := (766, .invokevirtual 98, 3)) DL_law_6 54 rfl
theorem dL_law_769 : decode cL_law 769 = .ok (.aload_n 2, 1) := dAt (x := (769, .aload_n 2, 1)) DL_law_6 55 rfl
theorem dL_law_770 : decode cL_law 770 = .ok (.invokevirtual 101, 3) := dAt (x := (770, .invokevirtual 101, 3)) DL_law_6 56 rfl
theorem dL_law_773 : decode cL_law 773 = .ok (.if_icmp .eq 620, 3) := dAt (x := (773, .if_icmp .eq 620, 3)) DL_law_6 57 rfl
theorem dL_law_776 : decode cL_law 776 = .ok (.iconst 0, 1) := dAt (x := (776, .iconst 0, 1)) DL_law_6 58 rfl
theorem dL_law_777 : decode cL_law 777 = .ok (.ireturn, 1) := dAt (x := (777, .ireturn, 1)) DL_law_6 59 rfl
def lDL_law_7 : List (Nat × Instr × Nat) := [(778, .aload_n 1, 1), (779, .aload_n 0, 1), (780, .iload 4, 2), (782, .iconst 1, 1), (783, .iadd, 1), (784, .iaload, 1), (785, .invokevirtual 102, 3), (788, .aload_n 2, 1), (789, .aload_n 0, 1), (790, .iload 4, 2), (792, .iconst 1, 1), (793, .iadd, 1), (794, .iaload, 1), (795, .invokevirtual 105, 3), (798, .if_icmp .eq 595, 3), (801, .iconst 0, 1), (802, .ireturn, 1), (803, .aload_n 1, 1), (804, .invokevirtual 106, 3), (807, .aload_n 2, 1), (808, .invokevirtual 109, 3), (811, .if_icmp .eq 582, 3), (814, .iconst 0, 1), (815, .ireturn, 1), (816, .aload_n 1, 1), (817, .invokevirtual 110, 3), (820, .aload_n 2, 1), (821, .invokevirtual 113, 3), (824, .if_icmp .eq 569, 3), (827, .iconst 0, 1), (828, .ireturn, 1), (829, .aload_n 1, 1), (830, .aload_n 0, 1), (831, .iload 4, 2), (833, .iconst 1, 1), (834, .iadd, 1), (835, .iaload, 1), (836, .aload_n 0, 1), (837, .iload 4, 2), (839, .iconst 2, 1), (840, .iadd, 1), (841, .iaload, 1), (842, .invokevirtual 114, 3), (845, .aload_n 2, 1), (846, .aload_n 0, 1), (847, .iload 4, 2), (849, .iconst 1, 1), (850, .iadd, 1), (851, .iaload, 1), (852, .aload_n 0, 1), (853, .iload 4, 2), (855, .iconst 2, 1), (856, .iadd, 1), (857, .iaload, 1), (858, .invokevirtual 117, 3), (861, .if_icmp .eq 532, 3), (864, .iconst 0, 1), (865, .ireturn, 1), (866, .aload_n 1, 1), (867, .aload_n 0, 1)]
theorem DL_law_7 : dAll cL_law lDL_law_7 = true := by decide +kernel
theorem dL_law_778 : decode cL_law 778 = .ok (.aload_n 1, 1) := dAt (x := (778, .aload_n 1, 1)) DL_law_7 0 rfl
theorem dL_law_779 : decode cL_law 779 = .ok (.aload_n 0, 1) := dAt (x := (779, .aload_n 0, 1)) DL_law_7 1 rfl
theorem dL_law_780 : decode cL_law 780 = .ok (.iload 4, 2) := dAt (x := (780, .iload 4, 2)) DL_law_7 2 rfl
theorem dL_law_782 : decode cL_law 782 = .ok (.iconst 1, 1) := dAt (x := (782, .iconst 1, 1)) DL_law_7 3 rfl
theorem dL_law_783 : decode cL_law 783 = .ok (.iadd, 1) := dAt (x := (783, .iadd, 1)) DL_law_7 4 rfl
theorem dL_law_784 : decode cL_law 784 = .ok (.iaload, 1) := dAt (x := (784, .iaload, 1)) DL_law_7 5 rfl
theorem dL_law_785 : decode cL_law 785 = .ok (.invokevirtual 102, 3) := dAt (x := (785, .invokevirtual 102, 3)) DL_law_7 6 rfl
theorem dL_law_788 : decode cL_law 788 = .ok (.aload_n 2, 1) := dAt (x := (788, .aload_n 2, 1)) DL_law_7 7 rfl
theorem dL_law_789 : decode cL_law 789 = .ok (.aload_n 0, 1) := dAt (x := (789, .aload_n 0, 1)) DL_law_7 8 rfl
theorem dL_law_790 : decode cL_law 790 = .ok (.iload 4, 2) := dAt (x := (790, .iload 4, 2)) DL_law_7 9 rfl
theorem dL_law_792 : decode cL_law 792 = .ok (.iconst 1, 1) := dAt (x := (792, .iconst 1, 1)) DL_law_7 10 rfl
theorem dL_law_793 : decode cL_law 793 = .ok (.iadd, 1) := dAt (x := (793, .iadd, 1)) DL_law_7 11 rfl
theorem dL_law_794 : decode cL_law 794 = .ok (.iaload, 1) := dAt (x := (794, .iaload, 1)) DL_law_7 12 rfl
theorem dL_law_795 : decode cL_law 795 = .ok (.invokevirtual 105, 3) := dAt (x := (795, .invokevirtual 105, 3)) DL_law_7 13 rfl
theorem dL_law_798 : decode cL_law 798 = .ok (.if_icmp .eq 595, 3) := dAt (x := (798, .if_icmp .eq 595, 3)) DL_law_7 14 rfl
theorem dL_law_801 : decode cL_law 801 = .ok (.iconst 0, 1) := dAt (x := (801, .iconst 0, 1)) DL_law_7 15 rfl
theorem dL_law_802 : decode cL_law 802 = .ok (.ireturn, 1) := dAt (x := (802, .ireturn, 1)) DL_law_7 16 rfl
theorem dL_law_803 : decode cL_law 803 = .ok (.aload_n 1, 1) := dAt (x := (803, .aload_n 1, 1)) DL_law_7 17 rfl
theorem dL_law_804 : decode cL_law 804 = .ok (.invokevirtual 106, 3) := dAt (x := (804, .invokevirtual 106, 3)) DL_law_7 18 rfl
theorem dL_law_807 : decode cL_law 807 = .ok (.aload_n 2, 1) := dAt (x := (807, .aload_n 2, 1)) DL_law_7 19 rfl
theorem dL_law_808 : decode cL_law 808 = .ok (.invokevirtual 109, 3) := dAt (x := (808, .invokevirtual 109, 3)) DL_law_7 20 rfl
theorem dL_law_811 : decode cL_law 811 = .ok (.if_icmp .eq 582, 3) := dAt (x := (811, .if_icmp .eq 582, 3)) DL_law_7 21 rfl
theorem dL_law_814 : decode cL_law 814 = .ok (.iconst 0, 1) := dAt (x := (814, .iconst 0, 1)) DL_law_7 22 rfl
theorem dL_law_815 : decode cL_law 815 = .ok (.ireturn, 1) := dAt (x := (815, .ireturn, 1)) DL_law_7 23 rfl
theorem dL_law_816 : decode cL_law 816 = .ok (.aload_n 1, 1) := dAt (x := (816, .aload_n 1, 1)) DL_law_7 24 rfl
theorem dL_law_817 : decode cL_law 817 = .ok (.invokevirtual 110, 3) := dAt (x := (817, .invokevirtual 110, 3)) DL_law_7 25 rfl
theorem dL_law_820 : decode cL_law 820 = .ok (.aload_n 2, 1) := dAt (x := (820, .aload_n 2, 1)) DL_law_7 26 rfl
theorem dL_law_821 : decode cL_law 821 = .ok (.invokevirtual 113, 3) := dAt (x := (821, .invokevirtual 113, 3)) DL_law_7 27 rfl
theorem dL_law_824 : decode cL_law 824 = .ok (.if_icmp .eq 569, 3) := dAt (x := (824, .if_icmp .eq 569, 3)) DL_law_7 28 rfl
theorem dL_law_827 : decode cL_law 827 = .ok (.iconst 0, 1) := dAt (x := (827, .iconst 0, 1)) DL_law_7 29 rfl
theorem dL_law_828 : decode cL_law 828 = .ok (.ireturn, 1) := dAt (x := (828, .ireturn, 1)) DL_law_7 30 rfl
theorem dL_law_829 : decode cL_law 829 = .ok (.aload_n 1, 1) := dAt (x := (829, .aload_n 1, 1)) DL_law_7 31 rfl
theorem dL_law_830 : decode cL_law 830 = .ok (.aload_n 0, 1) := dAt (x := (830, .aload_n 0, 1)) DL_law_7 32 rfl
theorem dL_law_831 : decode cL_law 831 = .ok (.iload 4, 2) := dAt (x := (831, .iload 4, 2)) DL_law_7 33 rfl
theorem dL_law_833 : decode cL_law 833 = .ok (.iconst 1, 1) := dAt (x := (833, .iconst 1, 1)) DL_law_7 34 rfl
theorem dL_law_834 : decode cL_law 834 = .ok (.iadd, 1) := dAt (x := (834, .iadd, 1)) DL_law_7 35 rfl
theorem dL_law_835 : decode cL_law 835 = .ok (.iaload, 1) := dAt (x := (835, .iaload, 1)) DL_law_7 36 rfl
theorem dL_law_836 : decode cL_law 836 = .ok (.aload_n 0, 1) := dAt (x := (836, .aload_n 0, 1)) DL_law_7 37 rfl
theorem dL_law_837 : decode cL_law 837 = .ok (.iload 4, 2) := dAt (x := (837, .iload 4, 2)) DL_law_7 38 rfl
theorem dL_law_839 : decode cL_law 839 = .ok (.iconst 2, 1) := dAt (x := (839, .iconst 2, 1)) DL_law_7 39 rfl
theorem dL_law_840 : decode cL_law 840 = .ok (.iadd, 1) := dAt (x := (840, .iadd, 1)) DL_law_7 40 rfl
theorem dL_law_841 : decode cL_law 841 = .ok (.iaload, 1) := dAt (x := (841, .iaload, 1)) DL_law_7 41 rfl
theorem dL_law_842 : decode cL_law 842 = .ok (.invokevirtual 114, 3) := dAt (x := (842, .invokevirtual 114, 3)) DL_law_7 42 rfl
theorem dL_law_845 : decode cL_law 845 = .ok (.aload_n 2, 1) := dAt (x := (845, .aload_n 2, 1)) DL_law_7 43 rfl
theorem dL_law_846 : decode cL_law 846 = .ok (.aload_n 0, 1) := dAt (x := (846, .aload_n 0, 1)) DL_law_7 44 rfl
theorem dL_law_847 : decode cL_law 847 = .ok (.iload 4, 2) := dAt (x := (847, .iload 4, 2)) DL_law_7 45 rfl
theorem dL_law_849 : decode cL_law 849 = .ok (.iconst 1, 1) := dAt (x := (849, .iconst 1, 1)) DL_law_7 46 rfl
theorem dL_law_850 : decode cL_law 850 = .ok (.iadd, 1) := dAt (x := (850, .iadd, 1)) DL_law_7 47 rfl
theorem dL_law_851 : decode cL_law 851 = .ok (.iaload, 1) := dAt (x := (851, .iaload, 1)) DL_law_7 48 rfl
theorem dL_law_852 : decode cL_law 852 = .ok (.aload_n 0, 1) := dAt (x := (852, .aload_n 0, 1)) DL_law_7 49 rfl
theorem dL_law_853 : decode cL_law 853 = .ok (.iload 4, 2) := dAt (x := (853, .iload 4, 2)) DL_law_7 50 rfl
theorem dL_law_855 : decode cL_law 855 = .ok (.iconst 2, 1) := dAt (x := (855, .iconst 2, 1)) DL_law_7 51 rfl
theorem dL_law_856 : decode cL_law 856 = .ok (.iadd, 1) := dAt (x := (856, .iadd, 1)) DL_law_7 52 rfl
theorem dL_law_857 : decode cL_law 857 = .ok (.iaload, 1) := dAt (x := (857, .iaload, 1)) DL_law_7 53 rfl
theorem dL_law_858 : decode cL_law 858 = .ok (.invokevirtual 117, 3) := dAt (x := (858, .invokevirtual 117, 3)) DL_law_7 54 rfl
theorem dL_law_861 : decode cL_law 861 = .ok (.if_icmp .eq 532, 3) := dAt (x := (861, .if_icmp .eq 532, 3)) DL_law_7 55 rfl
theorem dL_law_864 : decode cL_law 864 = .ok (.iconst 0, 1) := dAt (x := (864, .iconst 0, 1)) DL_law_7 56 rfl
theorem dL_law_865 : decode cL_law 865 = .ok (.ireturn, 1) := dAt (x := (865, .ireturn, 1)) DL_law_7 57 rfl
theorem dL_law_866 : decode cL_law 866 = .ok (.aload_n 1, 1) := dAt (x := (866, .aload_n 1, 1)) DL_law_7 58 rfl
theorem dL_law_867 : decode cL_law 867 = .ok (.aload_n 0, 1) := dAt (x := (867, .aload_n 0, 1)) DL_law_7 59 rfl
def lDL_law_8 : List (Nat × Instr × Nat) := [(868, .iload 4, 2), (870, .iconst 1, 1), (871, .iadd, 1), (872, .iaload, 1), (873, .invokevirtual 118, 3), (876, .aload_n 2, 1), (877, .aload_n 0, 1), (878, .iload 4, 2), (880, .iconst 1, 1), (881, .iadd, 1), (882, .iaload, 1), (883, .invokevirtual 121, 3), (886, .if_icmp .eq 507, 3), (889, .iconst 0, 1), (890, .ireturn, 1), (891, .aload_n 1, 1), (892, .aload_n 0, 1), (893, .iload 4, 2), (895, .iconst 1, 1), (896, .iadd, 1), (897, .iaload, 1), (898, .invokevirtual 122, 3), (901, .aload_n 2, 1), (902, .aload_n 0, 1), (903, .iload 4, 2), (905, .iconst 1, 1), (906, .iadd, 1), (907, .iaload, 1), (908, .invokevirtual 125, 3), (911, .if_icmp .eq 482, 3), (914, .iconst 0, 1), (915, .ireturn, 1), (916, .aload_n 1, 1), (917, .aload_n 0, 1), (918, .iload 4, 2), (920, .iconst 1, 1), (921, .iadd, 1), (922, .iaload, 1), (923, .invokevirtual 126, 3), (926, .aload_n 2, 1), (927, .aload_n 0, 1), (928, .iload 4, 2), (930, .iconst 1, 1), (931, .iadd, 1), (932, .iaload, 1), (933, .invokevirtual 129, 3), (936, .if_icmp .eq 457, 3), (939, .iconst 0, 1), (940, .ireturn, 1), (941, .aload_n 1, 1), (942, .aload_n 0, 1), (943, .iload 4, 2), (945, .iconst 1, 1), (946, .iadd, 1), (947, .iaload, 1), (948, .invokevirtual 130, 3), (951, .aload_n 2, 1), (952, .aload_n 0, 1), (953, .iload 4, 2), (955, .iconst 1, 1)]
theorem DL_law_8 : dAll cL_law lDL_law_8 = true := by decide +kernel
theorem dL_law_868 : decode cL_law 868 = .ok (.iload 4, 2) := dAt (x := (868, .iload 4, 2)) DL_law_8 0 rfl
theorem dL_law_870 : decode cL_law 870 = .ok (.iconst 1, 1) := dAt (x := (870, .iconst 1, 1)) DL_law_8 1 rfl
theorem dL_law_871 : decode cL_law 871 = .ok (.iadd, 1) := dAt (x := (871, .iadd, 1)) DL_law_8 2 rfl
theorem dL_law_872 : decode cL_law 872 = .ok (.iaload, 1) := dAt (x := (872, .iaload, 1)) DL_law_8 3 rfl
theorem dL_law_873 : decode cL_law 873 = .ok (.invokevirtual 118, 3) := dAt (x := (873, .invokevirtual 118, 3)) DL_law_8 4 rfl
theorem dL_law_876 : decode cL_law 876 = .ok (.aload_n 2, 1) := dAt (x := (876, .aload_n 2, 1)) DL_law_8 5 rfl
theorem dL_law_877 : decode cL_law 877 = .ok (.aload_n 0, 1) := dAt (x := (877, .aload_n 0, 1)) DL_law_8 6 rfl
theorem dL_law_878 : decode cL_law 878 = .ok (.iload 4, 2) := dAt (x := (878, .iload 4, 2)) DL_law_8 7 rfl
theorem dL_law_880 : decode cL_law 880 = .ok (.iconst 1, 1) := dAt (x := (880, .iconst 1, 1)) DL_law_8 8 rfl
theorem dL_law_881 : decode cL_law 881 = .ok (.iadd, 1) := dAt (x := (881, .iadd, 1)) DL_law_8 9 rfl
theorem dL_law_882 : decode cL_law 882 = .ok (.iaload, 1) := dAt (x := (882, .iaload, 1)) DL_law_8 10 rfl
theorem dL_law_883 : decode cL_law 883 = .ok (.invokevirtual 121, 3) := dAt (x := (883, .invokevirtual 121, 3)) DL_law_8 11 rfl
theorem dL_law_886 : decode cL_law 886 = .ok (.if_icmp .eq 507, 3) := dAt (x := (886, .if_icmp .eq 507, 3)) DL_law_8 12 rfl
theorem dL_law_889 : decode cL_law 889 = .ok (.iconst 0, 1) := dAt (x := (889, .iconst 0, 1)) DL_law_8 13 rfl
theorem dL_law_890 : decode cL_law 890 = .ok (.ireturn, 1) := dAt (x := (890, .ireturn, 1)) DL_law_8 14 rfl
theorem dL_law_891 : decode cL_law 891 = .ok (.aload_n 1, 1) := dAt (x := (891, .aload_n 1, 1)) DL_law_8 15 rfl
theorem dL_law_892 : decode cL_law 892 = .ok (.aload_n 0, 1) := dAt (x := (892, .aload_n 0, 1)) DL_law_8 16 rfl
theorem dL_law_893 : decode cL_law 893 = .ok (.iload 4, 2) := dAt (x := (893, .iload 4, 2)) DL_law_8 17 rfl
theorem dL_law_895 : decode cL_law 895 = .ok (.iconst 1, 1) := dAt (x := (895, .iconst 1, 1)) DL_law_8 18 rfl
theorem dL_law_896 : decode cL_law 896 = .ok (.iadd, 1) := dAt (x := (896, .iadd, 1)) DL_law_8 19 rfl
theorem dL_law_897 : decode cL_law 897 = .ok (.iaload, 1) := dAt (x := (897, .iaload, 1)) DL_law_8 20 rfl
theorem dL_law_898 : decode cL_law 898 = .ok (.invokevirtual 122, 3) := dAt (x := (898, .invokevirtual 122, 3)) DL_law_8 21 rfl
theorem dL_law_901 : decode cL_law 901 = .ok (.aload_n 2, 1) := dAt (x := (901, .aload_n 2, 1)) DL_law_8 22 rfl
theorem dL_law_902 : decode cL_law 902 = .ok (.aload_n 0, 1) := dAt (x := (902, .aload_n 0, 1)) DL_law_8 23 rfl
theorem dL_law_903 : decode cL_law 903 = .ok (.iload 4, 2) := dAt (x := (903, .iload 4, 2)) DL_law_8 24 rfl
theorem dL_law_905 : decode cL_law 905 = .ok (.iconst 1, 1) := dAt (x := (905, .iconst 1, 1)) DL_law_8 25 rfl
theorem dL_law_906 : decode cL_law 906 = .ok (.iadd, 1) := dAt (x := (906, .iadd, 1)) DL_law_8 26 rfl
theorem dL_law_907 : decode cL_law 907 = .ok (.iaload, 1) := dAt (x := (907, .iaload, 1)) DL_law_8 27 rfl
theorem dL_law_908 : decode cL_law 908 = .ok (.invokevirtual 125, 3) := dAt (x := (908, .invokevirtual 125, 3)) DL_law_8 28 rfl
theorem dL_law_911 : decode cL_law 911 = .ok (.if_icmp .eq 482, 3) := dAt (x := (911, .if_icmp .eq 482, 3)) DL_law_8 29 rfl
theorem dL_law_914 : decode cL_law 914 = .ok (.iconst 0, 1) := dAt (x := (914, .iconst 0, 1)) DL_law_8 30 rfl
theorem dL_law_915 : decode cL_law 915 = .ok (.ireturn, 1) := dAt (x := (915, .ireturn, 1)) DL_law_8 31 rfl
theorem dL_law_916 : decode cL_law 916 = .ok (.aload_n 1, 1) := dAt (x := (916, .aload_n 1, 1)) DL_law_8 32 rfl
theorem dL_law_917 : decode cL_law 917 = .ok (.aload_n 0, 1) := dAt (x := (917, .aload_n 0, 1)) DL_law_8 33 rfl
theorem dL_law_918 : decode cL_law 918 = .ok (.iload 4, 2) := dAt (x := (918, .iload 4, 2)) DL_law_8 34 rfl
theorem dL_law_920 : decode cL_law 920 = .ok (.iconst 1, 1) := dAt (x := (920, .iconst 1, 1)) DL_law_8 35 rfl
theorem dL_law_921 : decode cL_law 921 = .ok (.iadd, 1) := dAt (x := (921, .iadd, 1)) DL_law_8 36 rfl
theorem dL_law_922 : decode cL_law 922 = .ok (.iaload, 1) := dAt (x := (922, .iaload, 1)) DL_law_8 37 rfl
theorem dL_law_923 : decode cL_law 923 = .ok (.invokevirtual 126, 3) := dAt (x := (923, .invokevirtual 126, 3)) DL_law_8 38 rfl
theorem dL_law_926 : decode cL_law 926 = .ok (.aload_n 2, 1) := dAt (x := (926, .aload_n 2, 1)) DL_law_8 39 rfl
theorem dL_law_927 : decode cL_law 927 = .ok (.aload_n 0, 1) := dAt (x := (927, .aload_n 0, 1)) DL_law_8 40 rfl
theorem dL_law_928 : decode cL_law 928 = .ok (.iload 4, 2) := dAt (x := (928, .iload 4, 2)) DL_law_8 41 rfl
theorem dL_law_930 : decode cL_law 930 = .ok (.iconst 1, 1) := dAt (x := (930, .iconst 1, 1)) DL_law_8 42 rfl
theorem dL_law_931 : decode cL_law 931 = .ok (.iadd, 1) := dAt (x := (931, .iadd, 1)) DL_law_8 43 rfl
theorem dL_law_932 : decode cL_law 932 = .ok (.iaload, 1) := dAt (x := (932, .iaload, 1)) DL_law_8 44 rfl
theorem dL_law_933 : decode cL_law 933 = .ok (.invokevirtual 129, 3) := dAt (x := (933, .invokevirtual 129, 3)) DL_law_8 45 rfl
theorem dL_law_936 : decode cL_law 936 = .ok (.if_icmp .eq 457, 3) := dAt (x := (936, .if_icmp .eq 457, 3)) DL_law_8 46 rfl
theorem dL_law_939 : decode cL_law 939 = .ok (.iconst 0, 1) := dAt (x := (939, .iconst 0, 1)) DL_law_8 47 rfl
theorem dL_law_940 : decode cL_law 940 = .ok (.ireturn, 1) := dAt (x := (940, .ireturn, 1)) DL_law_8 48 rfl
theorem dL_law_941 : decode cL_law 941 = .ok (.aload_n 1, 1) := dAt (x := (941, .aload_n 1, 1)) DL_law_8 49 rfl
theorem dL_law_942 : decode cL_law 942 = .ok (.aload_n 0, 1) := dAt (x := (942, .aload_n 0, 1)) DL_law_8 50 rfl
theorem dL_law_943 : decode cL_law 943 = .ok (.iload 4, 2) := dAt (x := (943, .iload 4, 2)) DL_law_8 51 rfl
theorem dL_law_945 : decode cL_law 945 = .ok (.iconst 1, 1) := dAt (x := (945, .iconst 1, 1)) DL_law_8 52 rfl
theorem dL_law_946 : decode cL_law 946 = .ok (.iadd, 1) := dAt (x := (946, .iadd, 1)) DL_law_8 53 rfl
theorem dL_law_947 : decode cL_law 947 = .ok (.iaload, 1) := dAt (x := (947, .iaload, 1)) DL_law_8 54 rfl
theorem dL_law_948 : decode cL_law 948 = .ok (.invokevirtual 130, 3) := dAt (x := (948, .invokevirtual 130, 3)) DL_law_8 55 rfl
theorem dL_law_951 : decode cL_law 951 = .ok (.aload_n 2, 1) := dAt (x := (951, .aload_n 2, 1)) DL_law_8 56 rfl
theorem dL_law_952 : decode cL_law 952 = .ok (.aload_n 0, 1) := dAt (x := (952, .aload_n 0, 1)) DL_law_8 57 rfl
theorem dL_law_953 : decode cL_law 953 = .ok (.iload 4, 2) := dAt (x := (953, .iload 4, 2)) DL_law_8 58 rfl
theorem dL_law_955 : decode cL_law 955 = .ok (.iconst 1, 1) := dAt (x := (955, .iconst 1, 1)) DL_law_8 59 rfl
def lDL_law_9 : List (Nat × Instr × Nat) := [(956, .iadd, 1), (957, .iaload, 1), (958, .invokevirtual 133, 3), (961, .if_icmp .eq 432, 3), (964, .iconst 0, 1), (965, .ireturn, 1), (966, .aload_n 1, 1), (967, .aload_n 0, 1), (968, .iload 4, 2), (970, .iconst 1, 1), (971, .iadd, 1), (972, .iaload, 1), (973, .aload_n 0, 1), (974, .iload 4, 2), (976, .iconst 2, 1), (977, .iadd, 1), (978, .iaload, 1), (979, .aload_n 0, 1), (980, .iload 4, 2), (982, .iconst 3, 1), (983, .iadd, 1), (984, .iaload, 1), (985, .invokevirtual 134, 3), (988, .aload_n 2, 1), (989, .aload_n 0, 1), (990, .iload 4, 2), (992, .iconst 1, 1), (993, .iadd, 1), (994, .iaload, 1), (995, .aload_n 0, 1), (996, .iload 4, 2), (998, .iconst 2, 1), (999, .iadd, 1), (1000, .iaload, 1), (1001, .aload_n 0, 1), (1002, .iload 4, 2), (1004, .iconst 3, 1), (1005, .iadd, 1), (1006, .iaload, 1), (1007, .invokevirtual 138, 3), (1010, .lcmp, 1), (1011, .ifCond .eq 382, 3), (1014, .iconst 0, 1), (1015, .ireturn, 1), (1016, .aload_n 1, 1), (1017, .aload_n 0, 1), (1018, .iload 4, 2), (1020, .iconst 1, 1), (1021, .iadd, 1), (1022, .iaload, 1), (1023, .aload_n 0, 1), (1024, .iload 4, 2), (1026, .iconst 2, 1), (1027, .iadd, 1), (1028, .iaload, 1), (1029, .invokevirtual 139, 3), (1032, .aload_n 2, 1), (1033, .aload_n 0, 1), (1034, .iload 4, 2), (1036, .iconst 1, 1)]
theorem DL_law_9 : dAll cL_law lDL_law_9 = true := by decide +kernel
theorem dL_law_956 : decode cL_law 956 = .ok (.iadd, 1) := dAt (x := (956, .iadd, 1)) DL_law_9 0 rfl
theorem dL_law_957 : decode cL_law 957 = .ok (.iaload, 1) := dAt (x := (957, .iaload, 1)) DL_law_9 1 rfl
theorem dL_law_958 : decode cL_law 958 = .ok (.invokevirtual 133, 3) := dAt (x := (958, .invokevirtual 133, 3)) DL_law_9 2 rfl
theorem dL_law_961 : decode cL_law 961 = .ok (.if_icmp .eq 432, 3) := dAt (x := (961, .if_icmp .eq 432, 3)) DL_law_9 3 rfl
theorem dL_law_964 : decode cL_law 964 = .ok (.iconst 0, 1) := dAt (x := (964, .iconst 0, 1)) DL_law_9 4 rfl
theorem dL_law_965 : decode cL_law 965 = .ok (.ireturn, 1) := dAt (x := (965, .ireturn, 1)) DL_law_9 5 rfl
theorem dL_law_966 : decode cL_law 966 = .ok (.aload_n 1, 1) := dAt (x := (966, .aload_n 1, 1)) DL_law_9 6 rfl
theorem dL_law_967 : decode cL_law 967 = .ok (.aload_n 0, 1) := dAt (x := (967, .aload_n 0, 1)) DL_law_9 7 rfl
theorem dL_law_968 : decode cL_law 968 = .ok (.iload 4, 2) := dAt (x := (968, .iload 4, 2)) DL_law_9 8 rfl
theorem dL_law_970 : decode cL_law 970 = .ok (.iconst 1, 1) := dAt (x := (970, .iconst 1, 1)) DL_law_9 9 rfl
theorem dL_law_971 : decode cL_law 971 = .ok (.iadd, 1) := dAt (x := (971, .iadd, 1)) DL_law_9 10 rfl
theorem dL_law_972 : decode cL_law 972 = .ok (.iaload, 1) := dAt (x := (972, .iaload, 1)) DL_law_9 11 rfl
theorem dL_law_973 : decode cL_law 973 = .ok (.aload_n 0, 1) := dAt (x := (973, .aload_n 0, 1)) DL_law_9 12 rfl
theorem dL_law_974 : decode cL_law 974 = .ok (.iload 4, 2) := dAt (x := (974, .iload 4, 2)) DL_law_9 13 rfl
theorem dL_law_976 : decode cL_law 976 = .ok (.iconst 2, 1) := dAt (x := (976, .iconst 2, 1)) DL_law_9 14 rfl
theorem dL_law_977 : decode cL_law 977 = .ok (.iadd, 1) := dAt (x := (977, .iadd, 1)) DL_law_9 15 rfl
theorem dL_law_978 : decode cL_law 978 = .ok (.iaload, 1) := dAt (x := (978, .iaload, 1)) DL_law_9 16 rfl
theorem dL_law_979 : decode cL_law 979 = .ok (.aload_n 0, 1) := dAt (x := (979, .aload_n 0, 1)) DL_law_9 17 rfl
theorem dL_law_980 : decode cL_law 980 = .ok (.iload 4, 2) := dAt (x := (980, .iload 4, 2)) DL_law_9 18 rfl
theorem dL_law_982 : decode cL_law 982 = .ok (.iconst 3, 1) := dAt (x := (982, .iconst 3, 1)) DL_law_9 19 rfl
theorem dL_law_983 : decode cL_law 983 = .ok (.iadd, 1) := dAt (x := (983, .iadd, 1)) DL_law_9 20 rfl
theorem dL_law_984 : decode cL_law 984 = .ok (.iaload, 1) := dAt (x := (984, .iaload, 1)) DL_law_9 21 rfl
theorem dL_law_985 : decode cL_law 985 = .ok (.invokevirtual 134, 3) := dAt (x := (985, .invokevirtual 134, 3)) DL_law_9 22 rfl
theorem dL_law_988 : decode cL_law 988 = .ok (.aload_n 2, 1) := dAt (x := (988, .aload_n 2, 1)) DL_law_9 23 rfl
theorem dL_law_989 : decode cL_law 989 = .ok (.aload_n 0, 1) := dAt (x := (989, .aload_n 0, 1)) DL_law_9 24 rfl
theorem dL_law_990 : decode cL_law 990 = .ok (.iload 4, 2) := dAt (x := (990, .iload 4, 2)) DL_law_9 25 rfl
theorem dL_law_992 : decode cL_law 992 = .ok (.iconst 1, 1) := dAt (x := (992, .iconst 1, 1)) DL_law_9 26 rfl
theorem dL_law_993 : decode cL_law 993 = .ok (.iadd, 1) := dAt (x := (993, .iadd, 1)) DL_law_9 27 rfl
theorem dL_law_994 : decode cL_law 994 = .ok (.iaload, 1) := dAt (x := (994, .iaload, 1)) DL_law_9 28 rfl
theorem dL_law_995 : decode cL_law 995 = .ok (.aload_n 0, 1) := dAt (x := (995, .aload_n 0, 1)) DL_law_9 29 rfl
theorem dL_law_996 : decode cL_law 996 = .ok (.iload 4, 2) := dAt (x := (996, .iload 4, 2)) DL_law_9 30 rfl
theorem dL_law_998 : decode cL_law 998 = .ok (.iconst 2, 1) := dAt (x := (998, .iconst 2, 1)) DL_law_9 31 rfl
theorem dL_law_999 : decode cL_law 999 = .ok (.iadd, 1) := dAt (x := (999, .iadd, 1)) DL_law_9 32 rfl
theorem dL_law_1000 : decode cL_law 1000 = .ok (.iaload, 1) := dAt (x := (1000, .iaload, 1)) DL_law_9 33 rfl
theorem dL_law_1001 : decode cL_law 1001 = .ok (.aload_n 0, 1) := dAt (x := (1001, .aload_n 0, 1)) DL_law_9 34 rfl
theorem dL_law_1002 : decode cL_law 1002 = .ok (.iload 4, 2) := dAt (x := (1002, .iload 4, 2)) DL_law_9 35 rfl
theorem dL_law_1004 : decode cL_law 1004 = .ok (.iconst 3, 1) := dAt (x := (1004, .iconst 3, 1)) DL_law_9 36 rfl
theorem dL_law_1005 : decode cL_law 1005 = .ok (.iadd, 1) := dAt (x := (1005, .iadd, 1)) DL_law_9 37 rfl
theorem dL_law_1006 : decode cL_law 1006 = .ok (.iaload, 1) := dAt (x := (1006, .iaload, 1)) DL_law_9 38 rfl
theorem dL_law_1007 : decode cL_law 1007 = .ok (.invokevirtual 138, 3) := dAt (x := (1007, .invokevirtual 138, 3)) DL_law_9 39 rfl
theorem dL_law_1010 : decode cL_law 1010 = .ok (.lcmp, 1) := dAt (x := (1010, .lcmp, 1)) DL_law_9 40 rfl
theorem dL_law_1011 : decode cL_law 1011 = .ok (.ifCond .eq 382, 3) := dAt (x := (1011, .ifCond .eq 382, 3)) DL_law_9 41 rfl
theorem dL_law_1014 : decode cL_law 1014 = .ok (.iconst 0, 1) := dAt (x := (1014, .iconst 0, 1)) DL_law_9 42 rfl
theorem dL_law_1015 : decode cL_law 1015 = .ok (.ireturn, 1) := dAt (x := (1015, .ireturn, 1)) DL_law_9 43 rfl
theorem dL_law_1016 : decode cL_law 1016 = .ok (.aload_n 1, 1) := dAt (x := (1016, .aload_n 1, 1)) DL_law_9 44 rfl
theorem dL_law_1017 : decode cL_law 1017 = .ok (.aload_n 0, 1) := dAt (x := (1017, .aload_n 0, 1)) DL_law_9 45 rfl
theorem dL_law_1018 : decode cL_law 1018 = .ok (.iload 4, 2) := dAt (x := (1018, .iload 4, 2)) DL_law_9 46 rfl
theorem dL_law_1020 : decode cL_law 1020 = .ok (.iconst 1, 1) := dAt (x := (1020, .iconst 1, 1)) DL_law_9 47 rfl
theorem dL_law_1021 : decode cL_law 1021 = .ok (.iadd, 1) := dAt (x := (1021, .iadd, 1)) DL_law_9 48 rfl
theorem dL_law_1022 : decode cL_law 1022 = .ok (.iaload, 1) := dAt (x := (1022, .iaload, 1)) DL_law_9 49 rfl
theorem dL_law_1023 : decode cL_law 1023 = .ok (.aload_n 0, 1) := dAt (x := (1023, .aload_n 0, 1)) DL_law_9 50 rfl
theorem dL_law_1024 : decode cL_law 1024 = .ok (.iload 4, 2) := dAt (x := (1024, .iload 4, 2)) DL_law_9 51 rfl
theorem dL_law_1026 : decode cL_law 1026 = .ok (.iconst 2, 1) := dAt (x := (1026, .iconst 2, 1)) DL_law_9 52 rfl
theorem dL_law_1027 : decode cL_law 1027 = .ok (.iadd, 1) := dAt (x := (1027, .iadd, 1)) DL_law_9 53 rfl
theorem dL_law_1028 : decode cL_law 1028 = .ok (.iaload, 1) := dAt (x := (1028, .iaload, 1)) DL_law_9 54 rfl
theorem dL_law_1029 : decode cL_law 1029 = .ok (.invokevirtual 139, 3) := dAt (x := (1029, .invokevirtual 139, 3)) DL_law_9 55 rfl
theorem dL_law_1032 : decode cL_law 1032 = .ok (.aload_n 2, 1) := dAt (x := (1032, .aload_n 2, 1)) DL_law_9 56 rfl
theorem dL_law_1033 : decode cL_law 1033 = .ok (.aload_n 0, 1) := dAt (x := (1033, .aload_n 0, 1)) DL_law_9 57 rfl
theorem dL_law_1034 : decode cL_law 1034 = .ok (.iload 4, 2) := dAt (x := (1034, .iload 4, 2)) DL_law_9 58 rfl
theorem dL_law_1036 : decode cL_law 1036 = .ok (.iconst 1, 1) := dAt (x := (1036, .iconst 1, 1)) DL_law_9 59 rfl
def lDL_law_10 : List (Nat × Instr × Nat) := [(1037, .iadd, 1), (1038, .iaload, 1), (1039, .aload_n 0, 1), (1040, .iload 4, 2), (1042, .iconst 2, 1), (1043, .iadd, 1), (1044, .iaload, 1), (1045, .invokevirtual 142, 3), (1048, .lcmp, 1), (1049, .ifCond .eq 344, 3), (1052, .iconst 0, 1), (1053, .ireturn, 1), (1054, .aload_n 1, 1), (1055, .aload_n 0, 1), (1056, .iload 4, 2), (1058, .iconst 1, 1), (1059, .iadd, 1), (1060, .iaload, 1), (1061, .aload_n 0, 1), (1062, .iload 4, 2), (1064, .iconst 2, 1), (1065, .iadd, 1), (1066, .iaload, 1), (1067, .aload_n 0, 1), (1068, .iload 4, 2), (1070, .iconst 3, 1), (1071, .iadd, 1), (1072, .iaload, 1), (1073, .ifCond .eq 7, 3), (1076, .iconst 1, 1), (1077, .goto 4, 3), (1080, .iconst 0, 1), (1081, .invokevirtual 143, 3), (1084, .aload_n 2, 1), (1085, .aload_n 0, 1), (1086, .iload 4, 2), (1088, .iconst 1, 1), (1089, .iadd, 1), (1090, .iaload, 1), (1091, .aload_n 0, 1), (1092, .iload 4, 2), (1094, .iconst 2, 1), (1095, .iadd, 1), (1096, .iaload, 1), (1097, .aload_n 0, 1), (1098, .iload 4, 2), (1100, .iconst 3, 1), (1101, .iadd, 1), (1102, .iaload, 1), (1103, .ifCond .eq 7, 3), (1106, .iconst 1, 1), (1107, .goto 4, 3), (1110, .iconst 0, 1), (1111, .invokevirtual 147, 3), (1114, .if_icmp .eq 279, 3), (1117, .iconst 0, 1), (1118, .ireturn, 1), (1119, .aload_n 1, 1), (1120, .aload_n 0, 1), (1121, .iload 4, 2)]
theorem DL_law_10 : dAll cL_law lDL_law_10 = true := by decide +kernel
theorem dL_law_1037 : decode cL_law 1037 = .ok (.iadd, 1) := dAt (x := (1037, .iadd, 1)) DL_law_10 0 rfl
theorem dL_law_1038 : decode cL_law 1038 = .ok (.iaload, 1) := dAt (x := (1038, .iaload, 1)) DL_law_10 1 rfl
theorem dL_law_1039 : decode cL_law 1039 = .ok (.aload_n 0, 1) := dAt (x := (1039, .aload_n 0, 1)) DL_law_10 2 rfl
theorem dL_law_1040 : decode cL_law 1040 = .ok (.iload 4, 2) := dAt (x := (1040, .iload 4, 2)) DL_law_10 3 rfl
theorem dL_law_1042 : decode cL_law 1042 = .ok (.iconst 2, 1) := dAt (x := (1042, .iconst 2, 1)) DL_law_10 4 rfl
theorem dL_law_1043 : decode cL_law 1043 = .ok (.iadd, 1) := dAt (x := (1043, .iadd, 1)) DL_law_10 5 rfl
theorem dL_law_1044 : decode cL_law 1044 = .ok (.iaload, 1) := dAt (x := (1044, .iaload, 1)) DL_law_10 6 rfl
theorem dL_law_1045 : decode cL_law 1045 = .ok (.invokevirtual 142, 3) := dAt (x := (1045, .invokevirtual 142, 3)) DL_law_10 7 rfl
theorem dL_law_1048 : decode cL_law 1048 = .ok (.lcmp, 1) := dAt (x := (1048, .lcmp, 1)) DL_law_10 8 rfl
theorem dL_law_1049 : decode cL_law 1049 = .ok (.ifCond .eq 344, 3) := dAt (x := (1049, .ifCond .eq 344, 3)) DL_law_10 9 rfl
theorem dL_law_1052 : decode cL_law 1052 = .ok (.iconst 0, 1) := dAt (x := (1052, .iconst 0, 1)) DL_law_10 10 rfl
theorem dL_law_1053 : decode cL_law 1053 = .ok (.ireturn, 1) := dAt (x := (1053, .ireturn, 1)) DL_law_10 11 rfl
theorem dL_law_1054 : decode cL_law 1054 = .ok (.aload_n 1, 1) := dAt (x := (1054, .aload_n 1, 1)) DL_law_10 12 rfl
theorem dL_law_1055 : decode cL_law 1055 = .ok (.aload_n 0, 1) := dAt (x := (1055, .aload_n 0, 1)) DL_law_10 13 rfl
theorem dL_law_1056 : decode cL_law 1056 = .ok (.iload 4, 2) := dAt (x := (1056, .iload 4, 2)) DL_law_10 14 rfl
theorem dL_law_1058 : decode cL_law 1058 = .ok (.iconst 1, 1) := dAt (x := (1058, .iconst 1, 1)) DL_law_10 15 rfl
theorem dL_law_1059 : decode cL_law 1059 = .ok (.iadd, 1) := dAt (x := (1059, .iadd, 1)) DL_law_10 16 rfl
theorem dL_law_1060 : decode cL_law 1060 = .ok (.iaload, 1) := dAt (x := (1060, .iaload, 1)) DL_law_10 17 rfl
theorem dL_law_1061 : decode cL_law 1061 = .ok (.aload_n 0, 1) := dAt (x := (1061, .aload_n 0, 1)) DL_law_10 18 rfl
theorem dL_law_1062 : decode cL_law 1062 = .ok (.iload 4, 2) := dAt (x := (1062, .iload 4, 2)) DL_law_10 19 rfl
theorem dL_law_1064 : decode cL_law 1064 = .ok (.iconst 2, 1) := dAt (x := (1064, .iconst 2, 1)) DL_law_10 20 rfl
theorem dL_law_1065 : decode cL_law 1065 = .ok (.iadd, 1) := dAt (x := (1065, .iadd, 1)) DL_law_10 21 rfl
theorem dL_law_1066 : decode cL_law 1066 = .ok (.iaload, 1) := dAt (x := (1066, .iaload, 1)) DL_law_10 22 rfl
theorem dL_law_1067 : decode cL_law 1067 = .ok (.aload_n 0, 1) := dAt (x := (1067, .aload_n 0, 1)) DL_law_10 23 rfl
theorem dL_law_1068 : decode cL_law 1068 = .ok (.iload 4, 2) := dAt (x := (1068, .iload 4, 2)) DL_law_10 24 rfl
theorem dL_law_1070 : decode cL_law 1070 = .ok (.iconst 3, 1) := dAt (x := (1070, .iconst 3, 1)) DL_law_10 25 rfl
theorem dL_law_1071 : decode cL_law 1071 = .ok (.iadd, 1) := dAt (x := (1071, .iadd, 1)) DL_law_10 26 rfl
theorem dL_law_1072 : decode cL_law 1072 = .ok (.iaload, 1) := dAt (x := (1072, .iaload, 1)) DL_law_10 27 rfl
theorem dL_law_1073 : decode cL_law 1073 = .ok (.ifCond .eq 7, 3) := dAt (x := (1073, .ifCond .eq 7, 3)) DL_law_10 28 rfl
theorem dL_law_1076 : decode cL_law 1076 = .ok (.iconst 1, 1) := dAt (x := (1076, .iconst 1, 1)) DL_law_10 29 rfl
theorem dL_law_1077 : decode cL_law 1077 = .ok (.goto 4, 3) := dAt (x := (1077, .goto 4, 3)) DL_law_10 30 rfl
theorem dL_law_1080 : decode cL_law 1080 = .ok (.iconst 0, 1) := dAt (x := (1080, .iconst 0, 1)) DL_law_10 31 rfl
theorem dL_law_1081 : decode cL_law 1081 = .ok (.invokevirtual 143, 3) := dAt (x := (1081, .invokevirtual 143, 3)) DL_law_10 32 rfl
theorem dL_law_1084 : decode cL_law 1084 = .ok (.aload_n 2, 1) := dAt (x := (1084, .aload_n 2, 1)) DL_law_10 33 rfl
theorem dL_law_1085 : decode cL_law 1085 = .ok (.aload_n 0, 1) := dAt (x := (1085, .aload_n 0, 1)) DL_law_10 34 rfl
theorem dL_law_1086 : decode cL_law 1086 = .ok (.iload 4, 2) := dAt (x := (1086, .iload 4, 2)) DL_law_10 35 rfl
theorem dL_law_1088 : decode cL_law 1088 = .ok (.iconst 1, 1) := dAt (x := (1088, .iconst 1, 1)) DL_law_10 36 rfl
theorem dL_law_1089 : decode cL_law 1089 = .ok (.iadd, 1) := dAt (x := (1089, .iadd, 1)) DL_law_10 37 rfl
theorem dL_law_1090 : decode cL_law 1090 = .ok (.iaload, 1) := dAt (x := (1090, .iaload, 1)) DL_law_10 38 rfl
theorem dL_law_1091 : decode cL_law 1091 = .ok (.aload_n 0, 1) := dAt (x := (1091, .aload_n 0, 1)) DL_law_10 39 rfl
theorem dL_law_1092 : decode cL_law 1092 = .ok (.iload 4, 2) := dAt (x := (1092, .iload 4, 2)) DL_law_10 40 rfl
theorem dL_law_1094 : decode cL_law 1094 = .ok (.iconst 2, 1) := dAt (x := (1094, .iconst 2, 1)) DL_law_10 41 rfl
theorem dL_law_1095 : decode cL_law 1095 = .ok (.iadd, 1) := dAt (x := (1095, .iadd, 1)) DL_law_10 42 rfl
theorem dL_law_1096 : decode cL_law 1096 = .ok (.iaload, 1) := dAt (x := (1096, .iaload, 1)) DL_law_10 43 rfl
theorem dL_law_1097 : decode cL_law 1097 = .ok (.aload_n 0, 1) := dAt (x := (1097, .aload_n 0, 1)) DL_law_10 44 rfl
theorem dL_law_1098 : decode cL_law 1098 = .ok (.iload 4, 2) := dAt (x := (1098, .iload 4, 2)) DL_law_10 45 rfl
theorem dL_law_1100 : decode cL_law 1100 = .ok (.iconst 3, 1) := dAt (x := (1100, .iconst 3, 1)) DL_law_10 46 rfl
theorem dL_law_1101 : decode cL_law 1101 = .ok (.iadd, 1) := dAt (x := (1101, .iadd, 1)) DL_law_10 47 rfl
theorem dL_law_1102 : decode cL_law 1102 = .ok (.iaload, 1) := dAt (x := (1102, .iaload, 1)) DL_law_10 48 rfl
theorem dL_law_1103 : decode cL_law 1103 = .ok (.ifCond .eq 7, 3) := dAt (x := (1103, .ifCond .eq 7, 3)) DL_law_10 49 rfl
theorem dL_law_1106 : decode cL_law 1106 = .ok (.iconst 1, 1) := dAt (x := (1106, .iconst 1, 1)) DL_law_10 50 rfl
theorem dL_law_1107 : decode cL_law 1107 = .ok (.goto 4, 3) := dAt (x := (1107, .goto 4, 3)) DL_law_10 51 rfl
theorem dL_law_1110 : decode cL_law 1110 = .ok (.iconst 0, 1) := dAt (x := (1110, .iconst 0, 1)) DL_law_10 52 rfl
theorem dL_law_1111 : decode cL_law 1111 = .ok (.invokevirtual 147, 3) := dAt (x := (1111, .invokevirtual 147, 3)) DL_law_10 53 rfl
theorem dL_law_1114 : decode cL_law 1114 = .ok (.if_icmp .eq 279, 3) := dAt (x := (1114, .if_icmp .eq 279, 3)) DL_law_10 54 rfl
theorem dL_law_1117 : decode cL_law 1117 = .ok (.iconst 0, 1) := dAt (x := (1117, .iconst 0, 1)) DL_law_10 55 rfl
theorem dL_law_1118 : decode cL_law 1118 = .ok (.ireturn, 1) := dAt (x := (1118, .ireturn, 1)) DL_law_10 56 rfl
theorem dL_law_1119 : decode cL_law 1119 = .ok (.aload_n 1, 1) := dAt (x := (1119, .aload_n 1, 1)) DL_law_10 57 rfl
theorem dL_law_1120 : decode cL_law 1120 = .ok (.aload_n 0, 1) := dAt (x := (1120, .aload_n 0, 1)) DL_law_10 58 rfl
theorem dL_law_1121 : decode cL_law 1121 = .ok (.iload 4, 2) := dAt (x := (1121, .iload 4, 2)) DL_law_10 59 rfl
def lDL_law_11 : List (Nat × Instr × Nat) := [(1123, .iconst 1, 1), (1124, .iadd, 1), (1125, .iaload, 1), (1126, .invokevirtual 148, 3), (1129, .aload_n 2, 1), (1130, .aload_n 0, 1), (1131, .iload 4, 2), (1133, .iconst 1, 1), (1134, .iadd, 1), (1135, .iaload, 1), (1136, .invokevirtual 151, 3), (1139, .if_icmp .eq 254, 3), (1142, .iconst 0, 1), (1143, .ireturn, 1), (1144, .aload_n 1, 1), (1145, .aload_n 0, 1), (1146, .iload 4, 2), (1148, .iconst 1, 1), (1149, .iadd, 1), (1150, .iaload, 1), (1151, .invokevirtual 152, 3), (1154, .aload_n 2, 1), (1155, .aload_n 0, 1), (1156, .iload 4, 2), (1158, .iconst 1, 1), (1159, .iadd, 1), (1160, .iaload, 1), (1161, .invokevirtual 156, 3), (1164, .if_icmp .eq 229, 3), (1167, .iconst 0, 1), (1168, .ireturn, 1), (1169, .aload_n 1, 1), (1170, .aload_n 0, 1), (1171, .iload 4, 2), (1173, .iconst 1, 1), (1174, .iadd, 1), (1175, .iaload, 1), (1176, .invokevirtual 157, 3), (1179, .aload_n 2, 1), (1180, .aload_n 0, 1), (1181, .iload 4, 2), (1183, .iconst 1, 1), (1184, .iadd, 1), (1185, .iaload, 1), (1186, .invokevirtual 160, 3), (1189, .if_icmp .eq 204, 3), (1192, .iconst 0, 1), (1193, .ireturn, 1), (1194, .aload_n 1, 1), (1195, .aload_n 0, 1), (1196, .iload 4, 2), (1198, .iconst 1, 1), (1199, .iadd, 1), (1200, .iaload, 1), (1201, .aload_n 0, 1), (1202, .iload 4, 2), (1204, .iconst 2, 1), (1205, .iadd, 1), (1206, .iaload, 1), (1207, .invokevirtual 161, 3)]
theorem DL_law_11 : dAll cL_law lDL_law_11 = true := by decide +kernel
theorem dL_law_1123 : decode cL_law 1123 = .ok (.iconst 1, 1) := dAt (x := (1123, .iconst 1, 1)) DL_law_11 0 rfl
theorem dL_law_1124 : decode cL_law 1124 = .ok (.iadd, 1) := dAt (x := (1124, .iadd, 1)) DL_law_11 1 rfl
theorem dL_law_1125 : decode cL_law 1125 = .ok (.iaload, 1) := dAt (x := (1125, .iaload, 1)) DL_law_11 2 rfl
theorem dL_law_1126 : decode cL_law 1126 = .ok (.invokevirtual 148, 3) := dAt (x := (1126, .invokevirtual 148, 3)) DL_law_11 3 rfl
theorem dL_law_1129 : decode cL_law 1129 = .ok (.aload_n 2, 1) := dAt (x := (1129, .aload_n 2, 1)) DL_law_11 4 rfl
theorem dL_law_1130 : decode cL_law 1130 = .ok (.aload_n 0, 1) := dAt (x := (1130, .aload_n 0, 1)) DL_law_11 5 rfl
theorem dL_law_1131 : decode cL_law 1131 = .ok (.iload 4, 2) := dAt (x := (1131, .iload 4, 2)) DL_law_11 6 rfl
theorem dL_law_1133 : decode cL_law 1133 = .ok (.iconst 1, 1) := dAt (x := (1133, .iconst 1, 1)) DL_law_11 7 rfl
theorem dL_law_1134 : decode cL_law 1134 = .ok (.iadd, 1) := dAt (x := (1134, .iadd, 1)) DL_law_11 8 rfl
theorem dL_law_1135 : decode cL_law 1135 = .ok (.iaload, 1) := dAt (x := (1135, .iaload, 1)) DL_law_11 9 rfl
theorem dL_law_1136 : decode cL_law 1136 = .ok (.invokevirtual 151, 3) := dAt (x := (1136, .invokevirtual 151, 3)) DL_law_11 10 rfl
theorem dL_law_1139 : decode cL_law 1139 = .ok (.if_icmp .eq 254, 3) := dAt (x := (1139, .if_icmp .eq 254, 3)) DL_law_11 11 rfl
theorem dL_law_1142 : decode cL_law 1142 = .ok (.iconst 0, 1) := dAt (x := (1142, .iconst 0, 1)) DL_law_11 12 rfl
theorem dL_law_1143 : decode cL_law 1143 = .ok (.ireturn, 1) := dAt (x := (1143, .ireturn, 1)) DL_law_11 13 rfl
theorem dL_law_1144 : decode cL_law 1144 = .ok (.aload_n 1, 1) := dAt (x := (1144, .aload_n 1, 1)) DL_law_11 14 rfl
theorem dL_law_1145 : decode cL_law 1145 = .ok (.aload_n 0, 1) := dAt (x := (1145, .aload_n 0, 1)) DL_law_11 15 rfl
theorem dL_law_1146 : decode cL_law 1146 = .ok (.iload 4, 2) := dAt (x := (1146, .iload 4, 2)) DL_law_11 16 rfl
theorem dL_law_1148 : decode cL_law 1148 = .ok (.iconst 1, 1) := dAt (x := (1148, .iconst 1, 1)) DL_law_11 17 rfl
theorem dL_law_1149 : decode cL_law 1149 = .ok (.iadd, 1) := dAt (x := (1149, .iadd, 1)) DL_law_11 18 rfl
theorem dL_law_1150 : decode cL_law 1150 = .ok (.iaload, 1) := dAt (x := (1150, .iaload, 1)) DL_law_11 19 rfl
theorem dL_law_1151 : decode cL_law 1151 = .ok (.invokevirtual 152, 3) := dAt (x := (1151, .invokevirtual 152, 3)) DL_law_11 20 rfl
theorem dL_law_1154 : decode cL_law 1154 = .ok (.aload_n 2, 1) := dAt (x := (1154, .aload_n 2, 1)) DL_law_11 21 rfl
theorem dL_law_1155 : decode cL_law 1155 = .ok (.aload_n 0, 1) := dAt (x := (1155, .aload_n 0, 1)) DL_law_11 22 rfl
theorem dL_law_1156 : decode cL_law 1156 = .ok (.iload 4, 2) := dAt (x := (1156, .iload 4, 2)) DL_law_11 23 rfl
theorem dL_law_1158 : decode cL_law 1158 = .ok (.iconst 1, 1) := dAt (x := (1158, .iconst 1, 1)) DL_law_11 24 rfl
theorem dL_law_1159 : decode cL_law 1159 = .ok (.iadd, 1) := dAt (x := (1159, .iadd, 1)) DL_law_11 25 rfl
theorem dL_law_1160 : decode cL_law 1160 = .ok (.iaload, 1) := dAt (x := (1160, .iaload, 1)) DL_law_11 26 rfl
theorem dL_law_1161 : decode cL_law 1161 = .ok (.invokevirtual 156, 3) := dAt (x := (1161, .invokevirtual 156, 3)) DL_law_11 27 rfl
theorem dL_law_1164 : decode cL_law 1164 = .ok (.if_icmp .eq 229, 3) := dAt (x := (1164, .if_icmp .eq 229, 3)) DL_law_11 28 rfl
theorem dL_law_1167 : decode cL_law 1167 = .ok (.iconst 0, 1) := dAt (x := (1167, .iconst 0, 1)) DL_law_11 29 rfl
theorem dL_law_1168 : decode cL_law 1168 = .ok (.ireturn, 1) := dAt (x := (1168, .ireturn, 1)) DL_law_11 30 rfl
theorem dL_law_1169 : decode cL_law 1169 = .ok (.aload_n 1, 1) := dAt (x := (1169, .aload_n 1, 1)) DL_law_11 31 rfl
theorem dL_law_1170 : decode cL_law 1170 = .ok (.aload_n 0, 1) := dAt (x := (1170, .aload_n 0, 1)) DL_law_11 32 rfl
theorem dL_law_1171 : decode cL_law 1171 = .ok (.iload 4, 2) := dAt (x := (1171, .iload 4, 2)) DL_law_11 33 rfl
theorem dL_law_1173 : decode cL_law 1173 = .ok (.iconst 1, 1) := dAt (x := (1173, .iconst 1, 1)) DL_law_11 34 rfl
theorem dL_law_1174 : decode cL_law 1174 = .ok (.iadd, 1) := dAt (x := (1174, .iadd, 1)) DL_law_11 35 rfl
theorem dL_law_1175 : decode cL_law 1175 = .ok (.iaload, 1) := dAt (x := (1175, .iaload, 1)) DL_law_11 36 rfl
theorem dL_law_1176 : decode cL_law 1176 = .ok (.invokevirtual 157, 3) := dAt (x := (1176, .invokevirtual 157, 3)) DL_law_11 37 rfl
theorem dL_law_1179 : decode cL_law 1179 = .ok (.aload_n 2, 1) := dAt (x := (1179, .aload_n 2, 1)) DL_law_11 38 rfl
theorem dL_law_1180 : decode cL_law 1180 = .ok (.aload_n 0, 1) := dAt (x := (1180, .aload_n 0, 1)) DL_law_11 39 rfl
theorem dL_law_1181 : decode cL_law 1181 = .ok (.iload 4, 2) := dAt (x := (1181, .iload 4, 2)) DL_law_11 40 rfl
theorem dL_law_1183 : decode cL_law 1183 = .ok (.iconst 1, 1) := dAt (x := (1183, .iconst 1, 1)) DL_law_11 41 rfl
theorem dL_law_1184 : decode cL_law 1184 = .ok (.iadd, 1) := dAt (x := (1184, .iadd, 1)) DL_law_11 42 rfl
theorem dL_law_1185 : decode cL_law 1185 = .ok (.iaload, 1) := dAt (x := (1185, .iaload, 1)) DL_law_11 43 rfl
theorem dL_law_1186 : decode cL_law 1186 = .ok (.invokevirtual 160, 3) := dAt (x := (1186, .invokevirtual 160, 3)) DL_law_11 44 rfl
theorem dL_law_1189 : decode cL_law 1189 = .ok (.if_icmp .eq 204, 3) := dAt (x := (1189, .if_icmp .eq 204, 3)) DL_law_11 45 rfl
theorem dL_law_1192 : decode cL_law 1192 = .ok (.iconst 0, 1) := dAt (x := (1192, .iconst 0, 1)) DL_law_11 46 rfl
theorem dL_law_1193 : decode cL_law 1193 = .ok (.ireturn, 1) := dAt (x := (1193, .ireturn, 1)) DL_law_11 47 rfl
theorem dL_law_1194 : decode cL_law 1194 = .ok (.aload_n 1, 1) := dAt (x := (1194, .aload_n 1, 1)) DL_law_11 48 rfl
theorem dL_law_1195 : decode cL_law 1195 = .ok (.aload_n 0, 1) := dAt (x := (1195, .aload_n 0, 1)) DL_law_11 49 rfl
theorem dL_law_1196 : decode cL_law 1196 = .ok (.iload 4, 2) := dAt (x := (1196, .iload 4, 2)) DL_law_11 50 rfl
theorem dL_law_1198 : decode cL_law 1198 = .ok (.iconst 1, 1) := dAt (x := (1198, .iconst 1, 1)) DL_law_11 51 rfl
theorem dL_law_1199 : decode cL_law 1199 = .ok (.iadd, 1) := dAt (x := (1199, .iadd, 1)) DL_law_11 52 rfl
theorem dL_law_1200 : decode cL_law 1200 = .ok (.iaload, 1) := dAt (x := (1200, .iaload, 1)) DL_law_11 53 rfl
theorem dL_law_1201 : decode cL_law 1201 = .ok (.aload_n 0, 1) := dAt (x := (1201, .aload_n 0, 1)) DL_law_11 54 rfl
theorem dL_law_1202 : decode cL_law 1202 = .ok (.iload 4, 2) := dAt (x := (1202, .iload 4, 2)) DL_law_11 55 rfl
theorem dL_law_1204 : decode cL_law 1204 = .ok (.iconst 2, 1) := dAt (x := (1204, .iconst 2, 1)) DL_law_11 56 rfl
theorem dL_law_1205 : decode cL_law 1205 = .ok (.iadd, 1) := dAt (x := (1205, .iadd, 1)) DL_law_11 57 rfl
theorem dL_law_1206 : decode cL_law 1206 = .ok (.iaload, 1) := dAt (x := (1206, .iaload, 1)) DL_law_11 58 rfl
theorem dL_law_1207 : decode cL_law 1207 = .ok (.invokevirtual 161, 3) := dAt (x := (1207, .invokevirtual 161, 3)) DL_law_11 59 rfl
def lDL_law_12 : List (Nat × Instr × Nat) := [(1210, .aload_n 2, 1), (1211, .aload_n 0, 1), (1212, .iload 4, 2), (1214, .iconst 1, 1), (1215, .iadd, 1), (1216, .iaload, 1), (1217, .aload_n 0, 1), (1218, .iload 4, 2), (1220, .iconst 2, 1), (1221, .iadd, 1), (1222, .iaload, 1), (1223, .invokevirtual 164, 3), (1226, .if_icmp .eq 167, 3), (1229, .iconst 0, 1), (1230, .ireturn, 1), (1231, .aload_n 1, 1), (1232, .aload_n 0, 1), (1233, .iload 4, 2), (1235, .iconst 1, 1), (1236, .iadd, 1), (1237, .iaload, 1), (1238, .aload_n 0, 1), (1239, .iload 4, 2), (1241, .iconst 2, 1), (1242, .iadd, 1), (1243, .iaload, 1), (1244, .aload_n 0, 1), (1245, .iload 4, 2), (1247, .iconst 3, 1), (1248, .iadd, 1), (1249, .iaload, 1), (1250, .invokevirtual 165, 3), (1253, .aload_n 2, 1), (1254, .aload_n 0, 1), (1255, .iload 4, 2), (1257, .iconst 1, 1), (1258, .iadd, 1), (1259, .iaload, 1), (1260, .aload_n 0, 1), (1261, .iload 4, 2), (1263, .iconst 2, 1), (1264, .iadd, 1), (1265, .iaload, 1), (1266, .aload_n 0, 1), (1267, .iload 4, 2), (1269, .iconst 3, 1), (1270, .iadd, 1), (1271, .iaload, 1), (1272, .invokevirtual 169, 3), (1275, .if_icmp .eq 118, 3), (1278, .iconst 0, 1), (1279, .ireturn, 1), (1280, .aload_n 1, 1), (1281, .aload_n 0, 1), (1282, .iload 4, 2), (1284, .iconst 1, 1), (1285, .iadd, 1), (1286, .iaload, 1), (1287, .aload_n 0, 1), (1288, .iload 4, 2)]
theorem DL_law_12 : dAll cL_law lDL_law_12 = true := by decide +kernel
theorem dL_law_1210 : decode cL_law 1210 = .ok (.aload_n 2, 1) := dAt (x := (1210, .aload_n 2, 1)) DL_law_12 0 rfl
theorem dL_law_1211 : decode cL_law 1211 = .ok (.aload_n 0, 1) := dAt (x := (1211, .aload_n 0, 1)) DL_law_12 1 rfl
theorem dL_law_1212 : decode cL_law 1212 = .ok (.iload 4, 2) := dAt (x := (1212, .iload 4, 2)) DL_law_12 2 rfl
theorem dL_law_1214 : decode cL_law 1214 = .ok (.iconst 1, 1) := dAt (x := (1214, .iconst 1, 1)) DL_law_12 3 rfl
theorem dL_law_1215 : decode cL_law 1215 = .ok (.iadd, 1) := dAt (x := (1215, .iadd, 1)) DL_law_12 4 rfl
theorem dL_law_1216 : decode cL_law 1216 = .ok (.iaload, 1) := dAt (x := (1216, .iaload, 1)) DL_law_12 5 rfl
theorem dL_law_1217 : decode cL_law 1217 = .ok (.aload_n 0, 1) := dAt (x := (1217, .aload_n 0, 1)) DL_law_12 6 rfl
theorem dL_law_1218 : decode cL_law 1218 = .ok (.iload 4, 2) := dAt (x := (1218, .iload 4, 2)) DL_law_12 7 rfl
theorem dL_law_1220 : decode cL_law 1220 = .ok (.iconst 2, 1) := dAt (x := (1220, .iconst 2, 1)) DL_law_12 8 rfl
theorem dL_law_1221 : decode cL_law 1221 = .ok (.iadd, 1) := dAt (x := (1221, .iadd, 1)) DL_law_12 9 rfl
theorem dL_law_1222 : decode cL_law 1222 = .ok (.iaload, 1) := dAt (x := (1222, .iaload, 1)) DL_law_12 10 rfl
theorem dL_law_1223 : decode cL_law 1223 = .ok (.invokevirtual 164, 3) := dAt (x := (1223, .invokevirtual 164, 3)) DL_law_12 11 rfl
theorem dL_law_1226 : decode cL_law 1226 = .ok (.if_icmp .eq 167, 3) := dAt (x := (1226, .if_icmp .eq 167, 3)) DL_law_12 12 rfl
theorem dL_law_1229 : decode cL_law 1229 = .ok (.iconst 0, 1) := dAt (x := (1229, .iconst 0, 1)) DL_law_12 13 rfl
theorem dL_law_1230 : decode cL_law 1230 = .ok (.ireturn, 1) := dAt (x := (1230, .ireturn, 1)) DL_law_12 14 rfl
theorem dL_law_1231 : decode cL_law 1231 = .ok (.aload_n 1, 1) := dAt (x := (1231, .aload_n 1, 1)) DL_law_12 15 rfl
theorem dL_law_1232 : decode cL_law 1232 = .ok (.aload_n 0, 1) := dAt (x := (1232, .aload_n 0, 1)) DL_law_12 16 rfl
theorem dL_law_1233 : decode cL_law 1233 = .ok (.iload 4, 2) := dAt (x := (1233, .iload 4, 2)) DL_law_12 17 rfl
theorem dL_law_1235 : decode cL_law 1235 = .ok (.iconst 1, 1) := dAt (x := (1235, .iconst 1, 1)) DL_law_12 18 rfl
theorem dL_law_1236 : decode cL_law 1236 = .ok (.iadd, 1) := dAt (x := (1236, .iadd, 1)) DL_law_12 19 rfl
theorem dL_law_1237 : decode cL_law 1237 = .ok (.iaload, 1) := dAt (x := (1237, .iaload, 1)) DL_law_12 20 rfl
theorem dL_law_1238 : decode cL_law 1238 = .ok (.aload_n 0, 1) := dAt (x := (1238, .aload_n 0, 1)) DL_law_12 21 rfl
theorem dL_law_1239 : decode cL_law 1239 = .ok (.iload 4, 2) := dAt (x := (1239, .iload 4, 2)) DL_law_12 22 rfl
theorem dL_law_1241 : decode cL_law 1241 = .ok (.iconst 2, 1) := dAt (x := (1241, .iconst 2, 1)) DL_law_12 23 rfl
theorem dL_law_1242 : decode cL_law 1242 = .ok (.iadd, 1) := dAt (x := (1242, .iadd, 1)) DL_law_12 24 rfl
theorem dL_law_1243 : decode cL_law 1243 = .ok (.iaload, 1) := dAt (x := (1243, .iaload, 1)) DL_law_12 25 rfl
theorem dL_law_1244 : decode cL_law 1244 = .ok (.aload_n 0, 1) := dAt (x := (1244, .aload_n 0, 1)) DL_law_12 26 rfl
theorem dL_law_1245 : decode cL_law 1245 = .ok (.iload 4, 2) := dAt (x := (1245, .iload 4, 2)) DL_law_12 27 rfl
theorem dL_law_1247 : decode cL_law 1247 = .ok (.iconst 3, 1) := dAt (x := (1247, .iconst 3, 1)) DL_law_12 28 rfl
theorem dL_law_1248 : decode cL_law 1248 = .ok (.iadd, 1) := dAt (x := (1248, .iadd, 1)) DL_law_12 29 rfl
theorem dL_law_1249 : decode cL_law 1249 = .ok (.iaload, 1) := dAt (x := (1249, .iaload, 1)) DL_law_12 30 rfl
theorem dL_law_1250 : decode cL_law 1250 = .ok (.invokevirtual 165, 3) := dAt (x := (1250, .invokevirtual 165, 3)) DL_law_12 31 rfl
theorem dL_law_1253 : decode cL_law 1253 = .ok (.aload_n 2, 1) := dAt (x := (1253, .aload_n 2, 1)) DL_law_12 32 rfl
theorem dL_law_1254 : decode cL_law 1254 = .ok (.aload_n 0, 1) := dAt (x := (1254, .aload_n 0, 1)) DL_law_12 33 rfl
theorem dL_law_1255 : decode cL_law 1255 = .ok (.iload 4, 2) := dAt (x := (1255, .iload 4, 2)) DL_law_12 34 rfl
theorem dL_law_1257 : decode cL_law 1257 = .ok (.iconst 1, 1) := dAt (x := (1257, .iconst 1, 1)) DL_law_12 35 rfl
theorem dL_law_1258 : decode cL_law 1258 = .ok (.iadd, 1) := dAt (x := (1258, .iadd, 1)) DL_law_12 36 rfl
theorem dL_law_1259 : decode cL_law 1259 = .ok (.iaload, 1) := dAt (x := (1259, .iaload, 1)) DL_law_12 37 rfl
theorem dL_law_1260 : decode cL_law 1260 = .ok (.aload_n 0, 1) := dAt (x := (1260, .aload_n 0, 1)) DL_law_12 38 rfl
theorem dL_law_1261 : decode cL_law 1261 = .ok (.iload 4, 2) := dAt (x := (1261, .iload 4, 2)) DL_law_12 39 rfl
theorem dL_law_1263 : decode cL_law 1263 = .ok (.iconst 2, 1) := dAt (x := (1263, .iconst 2, 1)) DL_law_12 40 rfl
theorem dL_law_1264 : decode cL_law 1264 = .ok (.iadd, 1) := dAt (x := (1264, .iadd, 1)) DL_law_12 41 rfl
theorem dL_law_1265 : decode cL_law 1265 = .ok (.iaload, 1) := dAt (x := (1265, .iaload, 1)) DL_law_12 42 rfl
theorem dL_law_1266 : decode cL_law 1266 = .ok (.aload_n 0, 1) := dAt (x := (1266, .aload_n 0, 1)) DL_law_12 43 rfl
theorem dL_law_1267 : decode cL_law 1267 = .ok (.iload 4, 2) := dAt (x := (1267, .iload 4, 2)) DL_law_12 44 rfl
theorem dL_law_1269 : decode cL_law 1269 = .ok (.iconst 3, 1) := dAt (x := (1269, .iconst 3, 1)) DL_law_12 45 rfl
theorem dL_law_1270 : decode cL_law 1270 = .ok (.iadd, 1) := dAt (x := (1270, .iadd, 1)) DL_law_12 46 rfl
theorem dL_law_1271 : decode cL_law 1271 = .ok (.iaload, 1) := dAt (x := (1271, .iaload, 1)) DL_law_12 47 rfl
theorem dL_law_1272 : decode cL_law 1272 = .ok (.invokevirtual 169, 3) := dAt (x := (1272, .invokevirtual 169, 3)) DL_law_12 48 rfl
theorem dL_law_1275 : decode cL_law 1275 = .ok (.if_icmp .eq 118, 3) := dAt (x := (1275, .if_icmp .eq 118, 3)) DL_law_12 49 rfl
theorem dL_law_1278 : decode cL_law 1278 = .ok (.iconst 0, 1) := dAt (x := (1278, .iconst 0, 1)) DL_law_12 50 rfl
theorem dL_law_1279 : decode cL_law 1279 = .ok (.ireturn, 1) := dAt (x := (1279, .ireturn, 1)) DL_law_12 51 rfl
theorem dL_law_1280 : decode cL_law 1280 = .ok (.aload_n 1, 1) := dAt (x := (1280, .aload_n 1, 1)) DL_law_12 52 rfl
theorem dL_law_1281 : decode cL_law 1281 = .ok (.aload_n 0, 1) := dAt (x := (1281, .aload_n 0, 1)) DL_law_12 53 rfl
theorem dL_law_1282 : decode cL_law 1282 = .ok (.iload 4, 2) := dAt (x := (1282, .iload 4, 2)) DL_law_12 54 rfl
theorem dL_law_1284 : decode cL_law 1284 = .ok (.iconst 1, 1) := dAt (x := (1284, .iconst 1, 1)) DL_law_12 55 rfl
theorem dL_law_1285 : decode cL_law 1285 = .ok (.iadd, 1) := dAt (x := (1285, .iadd, 1)) DL_law_12 56 rfl
theorem dL_law_1286 : decode cL_law 1286 = .ok (.iaload, 1) := dAt (x := (1286, .iaload, 1)) DL_law_12 57 rfl
theorem dL_law_1287 : decode cL_law 1287 = .ok (.aload_n 0, 1) := dAt (x := (1287, .aload_n 0, 1)) DL_law_12 58 rfl
theorem dL_law_1288 : decode cL_law 1288 = .ok (.iload 4, 2) := dAt (x := (1288, .iload 4, 2)) DL_law_12 59 rfl
def lDL_law_13 : List (Nat × Instr × Nat) := [(1290, .iconst 2, 1), (1291, .iadd, 1), (1292, .iaload, 1), (1293, .aload_n 0, 1), (1294, .iload 4, 2), (1296, .iconst 3, 1), (1297, .iadd, 1), (1298, .iaload, 1), (1299, .invokevirtual 170, 3), (1302, .aload_n 2, 1), (1303, .aload_n 0, 1), (1304, .iload 4, 2), (1306, .iconst 1, 1), (1307, .iadd, 1), (1308, .iaload, 1), (1309, .aload_n 0, 1), (1310, .iload 4, 2), (1312, .iconst 2, 1), (1313, .iadd, 1), (1314, .iaload, 1), (1315, .aload_n 0, 1), (1316, .iload 4, 2), (1318, .iconst 3, 1), (1319, .iadd, 1), (1320, .iaload, 1), (1321, .invokevirtual 173, 3), (1324, .if_icmp .eq 69, 3), (1327, .iconst 0, 1), (1328, .ireturn, 1), (1329, .aload_n 1, 1), (1330, .invokevirtual 174, 3), (1333, .aload_n 2, 1), (1334, .invokevirtual 177, 3), (1337, .if_icmp .eq 56, 3), (1340, .iconst 0, 1), (1341, .ireturn, 1), (1342, .aload_n 1, 1), (1343, .invokevirtual 178, 3), (1346, .aload_n 2, 1), (1347, .invokevirtual 181, 3), (1350, .if_icmp .eq 43, 3), (1353, .iconst 0, 1), (1354, .ireturn, 1), (1355, .aload_n 1, 1), (1356, .invokevirtual 182, 3), (1359, .aload_n 2, 1), (1360, .invokevirtual 185, 3), (1363, .if_icmp .eq 30, 3), (1366, .iconst 0, 1), (1367, .ireturn, 1), (1368, .aload_n 1, 1), (1369, .aload_n 0, 1), (1370, .iload 4, 2), (1372, .iconst 1, 1), (1373, .iadd, 1), (1374, .iaload, 1), (1375, .invokevirtual 186, 3), (1378, .aload_n 2, 1), (1379, .aload_n 0, 1), (1380, .iload 4, 2)]
theorem DL_law_13 : dAll cL_law lDL_law_13 = true := by decide +kernel
theorem dL_law_1290 : decode cL_law 1290 = .ok (.iconst 2, 1) := dAt (x := (1290, .iconst 2, 1)) DL_law_13 0 rfl
theorem dL_law_1291 : decode cL_law 1291 = .ok (.iadd, 1) := dAt (x := (1291, .iadd, 1)) DL_law_13 1 rfl
theorem dL_law_1292 : decode cL_law 1292 = .ok (.iaload, 1) := dAt (x := (1292, .iaload, 1)) DL_law_13 2 rfl
theorem dL_law_1293 : decode cL_law 1293 = .ok (.aload_n 0, 1) := dAt (x := (1293, .aload_n 0, 1)) DL_law_13 3 rfl
theorem dL_law_1294 : decode cL_law 1294 = .ok (.iload 4, 2) := dAt (x := (1294, .iload 4, 2)) DL_law_13 4 rfl
theorem dL_law_1296 : decode cL_law 1296 = .ok (.iconst 3, 1) := dAt (x := (1296, .iconst 3, 1)) DL_law_13 5 rfl
theorem dL_law_1297 : decode cL_law 1297 = .ok (.iadd, 1) := dAt (x := (1297, .iadd, 1)) DL_law_13 6 rfl
theorem dL_law_1298 : decode cL_law 1298 = .ok (.iaload, 1) := dAt (x := (1298, .iaload, 1)) DL_law_13 7 rfl
theorem dL_law_1299 : decode cL_law 1299 = .ok (.invokevirtual 170, 3) := dAt (x := (1299, .invokevirtual 170, 3)) DL_law_13 8 rfl
theorem dL_law_1302 : decode cL_law 1302 = .ok (.aload_n 2, 1) := dAt (x := (1302, .aload_n 2, 1)) DL_law_13 9 rfl
theorem dL_law_1303 : decode cL_law 1303 = .ok (.aload_n 0, 1) := dAt (x := (1303, .aload_n 0, 1)) DL_law_13 10 rfl
theorem dL_law_1304 : decode cL_law 1304 = .ok (.iload 4, 2) := dAt (x := (1304, .iload 4, 2)) DL_law_13 11 rfl
theorem dL_law_1306 : decode cL_law 1306 = .ok (.iconst 1, 1) := dAt (x := (1306, .iconst 1, 1)) DL_law_13 12 rfl
theorem dL_law_1307 : decode cL_law 1307 = .ok (.iadd, 1) := dAt (x := (1307, .iadd, 1)) DL_law_13 13 rfl
theorem dL_law_1308 : decode cL_law 1308 = .ok (.iaload, 1) := dAt (x := (1308, .iaload, 1)) DL_law_13 14 rfl
theorem dL_law_1309 : decode cL_law 1309 = .ok (.aload_n 0, 1) := dAt (x := (1309, .aload_n 0, 1)) DL_law_13 15 rfl
theorem dL_law_1310 : decode cL_law 1310 = .ok (.iload 4, 2) := dAt (x := (1310, .iload 4, 2)) DL_law_13 16 rfl
theorem dL_law_1312 : decode cL_law 1312 = .ok (.iconst 2, 1) := dAt (x := (1312, .iconst 2, 1)) DL_law_13 17 rfl
theorem dL_law_1313 : decode cL_law 1313 = .ok (.iadd, 1) := dAt (x := (1313, .iadd, 1)) DL_law_13 18 rfl
theorem dL_law_1314 : decode cL_law 1314 = .ok (.iaload, 1) := dAt (x := (1314, .iaload, 1)) DL_law_13 19 rfl
theorem dL_law_1315 : decode cL_law 1315 = .ok (.aload_n 0, 1) := dAt (x := (1315, .aload_n 0, 1)) DL_law_13 20 rfl
theorem dL_law_1316 : decode cL_law 1316 = .ok (.iload 4, 2) := dAt (x := (1316, .iload 4, 2)) DL_law_13 21 rfl
theorem dL_law_1318 : decode cL_law 1318 = .ok (.iconst 3, 1) := dAt (x := (1318, .iconst 3, 1)) DL_law_13 22 rfl
theorem dL_law_1319 : decode cL_law 1319 = .ok (.iadd, 1) := dAt (x := (1319, .iadd, 1)) DL_law_13 23 rfl
theorem dL_law_1320 : decode cL_law 1320 = .ok (.iaload, 1) := dAt (x := (1320, .iaload, 1)) DL_law_13 24 rfl
theorem dL_law_1321 : decode cL_law 1321 = .ok (.invokevirtual 173, 3) := dAt (x := (1321, .invokevirtual 173, 3)) DL_law_13 25 rfl
theorem dL_law_1324 : decode cL_law 1324 = .ok (.if_icmp .eq 69, 3) := dAt (x := (1324, .if_icmp .eq 69, 3)) DL_law_13 26 rfl
theorem dL_law_1327 : decode cL_law 1327 = .ok (.iconst 0, 1) := dAt (x := (1327, .iconst 0, 1)) DL_law_13 27 rfl
theorem dL_law_1328 : decode cL_law 1328 = .ok (.ireturn, 1) := dAt (x := (1328, .ireturn, 1)) DL_law_13 28 rfl
theorem dL_law_1329 : decode cL_law 1329 = .ok (.aload_n 1, 1) := dAt (x := (1329, .aload_n 1, 1)) DL_law_13 29 rfl
theorem dL_law_1330 : decode cL_law 1330 = .ok (.invokevirtual 174, 3) := dAt (x := (1330, .invokevirtual 174, 3)) DL_law_13 30 rfl
theorem dL_law_1333 : decode cL_law 1333 = .ok (.aload_n 2, 1) := dAt (x := (1333, .aload_n 2, 1)) DL_law_13 31 rfl
theorem dL_law_1334 : decode cL_law 1334 = .ok (.invokevirtual 177, 3) := dAt (x := (1334, .invokevirtual 177, 3)) DL_law_13 32 rfl
theorem dL_law_1337 : decode cL_law 1337 = .ok (.if_icmp .eq 56, 3) := dAt (x := (1337, .if_icmp .eq 56, 3)) DL_law_13 33 rfl
theorem dL_law_1340 : decode cL_law 1340 = .ok (.iconst 0, 1) := dAt (x := (1340, .iconst 0, 1)) DL_law_13 34 rfl
theorem dL_law_1341 : decode cL_law 1341 = .ok (.ireturn, 1) := dAt (x := (1341, .ireturn, 1)) DL_law_13 35 rfl
theorem dL_law_1342 : decode cL_law 1342 = .ok (.aload_n 1, 1) := dAt (x := (1342, .aload_n 1, 1)) DL_law_13 36 rfl
theorem dL_law_1343 : decode cL_law 1343 = .ok (.invokevirtual 178, 3) := dAt (x := (1343, .invokevirtual 178, 3)) DL_law_13 37 rfl
theorem dL_law_1346 : decode cL_law 1346 = .ok (.aload_n 2, 1) := dAt (x := (1346, .aload_n 2, 1)) DL_law_13 38 rfl
theorem dL_law_1347 : decode cL_law 1347 = .ok (.invokevirtual 181, 3) := dAt (x := (1347, .invokevirtual 181, 3)) DL_law_13 39 rfl
theorem dL_law_1350 : decode cL_law 1350 = .ok (.if_icmp .eq 43, 3) := dAt (x := (1350, .if_icmp .eq 43, 3)) DL_law_13 40 rfl
theorem dL_law_1353 : decode cL_law 1353 = .ok (.iconst 0, 1) := dAt (x := (1353, .iconst 0, 1)) DL_law_13 41 rfl
theorem dL_law_1354 : decode cL_law 1354 = .ok (.ireturn, 1) := dAt (x := (1354, .ireturn, 1)) DL_law_13 42 rfl
theorem dL_law_1355 : decode cL_law 1355 = .ok (.aload_n 1, 1) := dAt (x := (1355, .aload_n 1, 1)) DL_law_13 43 rfl
theorem dL_law_1356 : decode cL_law 1356 = .ok (.invokevirtual 182, 3) := dAt (x := (1356, .invokevirtual 182, 3)) DL_law_13 44 rfl
theorem dL_law_1359 : decode cL_law 1359 = .ok (.aload_n 2, 1) := dAt (x := (1359, .aload_n 2, 1)) DL_law_13 45 rfl
theorem dL_law_1360 : decode cL_law 1360 = .ok (.invokevirtual 185, 3) := dAt (x := (1360, .invokevirtual 185, 3)) DL_law_13 46 rfl
theorem dL_law_1363 : decode cL_law 1363 = .ok (.if_icmp .eq 30, 3) := dAt (x := (1363, .if_icmp .eq 30, 3)) DL_law_13 47 rfl
theorem dL_law_1366 : decode cL_law 1366 = .ok (.iconst 0, 1) := dAt (x := (1366, .iconst 0, 1)) DL_law_13 48 rfl
theorem dL_law_1367 : decode cL_law 1367 = .ok (.ireturn, 1) := dAt (x := (1367, .ireturn, 1)) DL_law_13 49 rfl
theorem dL_law_1368 : decode cL_law 1368 = .ok (.aload_n 1, 1) := dAt (x := (1368, .aload_n 1, 1)) DL_law_13 50 rfl
theorem dL_law_1369 : decode cL_law 1369 = .ok (.aload_n 0, 1) := dAt (x := (1369, .aload_n 0, 1)) DL_law_13 51 rfl
theorem dL_law_1370 : decode cL_law 1370 = .ok (.iload 4, 2) := dAt (x := (1370, .iload 4, 2)) DL_law_13 52 rfl
theorem dL_law_1372 : decode cL_law 1372 = .ok (.iconst 1, 1) := dAt (x := (1372, .iconst 1, 1)) DL_law_13 53 rfl
theorem dL_law_1373 : decode cL_law 1373 = .ok (.iadd, 1) := dAt (x := (1373, .iadd, 1)) DL_law_13 54 rfl
theorem dL_law_1374 : decode cL_law 1374 = .ok (.iaload, 1) := dAt (x := (1374, .iaload, 1)) DL_law_13 55 rfl
theorem dL_law_1375 : decode cL_law 1375 = .ok (.invokevirtual 186, 3) := dAt (x := (1375, .invokevirtual 186, 3)) DL_law_13 56 rfl
theorem dL_law_1378 : decode cL_law 1378 = .ok (.aload_n 2, 1) := dAt (x := (1378, .aload_n 2, 1)) DL_law_13 57 rfl
theorem dL_law_1379 : decode cL_law 1379 = .ok (.aload_n 0, 1) := dAt (x := (1379, .aload_n 0, 1)) DL_law_13 58 rfl
theorem dL_law_1380 : decode cL_law 1380 = .ok (.iload 4, 2) := dAt (x := (1380, .iload 4, 2)) DL_law_13 59 rfl
def lDL_law_14 : List (Nat × Instr × Nat) := [(1382, .iconst 1, 1), (1383, .iadd, 1), (1384, .iaload, 1), (1385, .invokevirtual 189, 3), (1388, .if_icmp .eq 5, 3), (1391, .iconst 0, 1), (1392, .ireturn, 1), (1393, .iinc 4 6, 3), (1396, .goto (-1373), 3), (1399, .iconst 1, 1), (1400, .ireturn, 1)]
theorem DL_law_14 : dAll cL_law lDL_law_14 = true := by decide +kernel
theorem dL_law_1382 : decode cL_law 1382 = .ok (.iconst 1, 1) := dAt (x := (1382, .iconst 1, 1)) DL_law_14 0 rfl
theorem dL_law_1383 : decode cL_law 1383 = .ok (.iadd, 1) := dAt (x := (1383, .iadd, 1)) DL_law_14 1 rfl
theorem dL_law_1384 : decode cL_law 1384 = .ok (.iaload, 1) := dAt (x := (1384, .iaload, 1)) DL_law_14 2 rfl
theorem dL_law_1385 : decode cL_law 1385 = .ok (.invokevirtual 189, 3) := dAt (x := (1385, .invokevirtual 189, 3)) DL_law_14 3 rfl
theorem dL_law_1388 : decode cL_law 1388 = .ok (.if_icmp .eq 5, 3) := dAt (x := (1388, .if_icmp .eq 5, 3)) DL_law_14 4 rfl
theorem dL_law_1391 : decode cL_law 1391 = .ok (.iconst 0, 1) := dAt (x := (1391, .iconst 0, 1)) DL_law_14 5 rfl
theorem dL_law_1392 : decode cL_law 1392 = .ok (.ireturn, 1) := dAt (x := (1392, .ireturn, 1)) DL_law_14 6 rfl
theorem dL_law_1393 : decode cL_law 1393 = .ok (.iinc 4 6, 3) := dAt (x := (1393, .iinc 4 6, 3)) DL_law_14 7 rfl
theorem dL_law_1396 : decode cL_law 1396 = .ok (.goto (-1373), 3) := dAt (x := (1396, .goto (-1373), 3)) DL_law_14 8 rfl
theorem dL_law_1399 : decode cL_law 1399 = .ok (.iconst 1, 1) := dAt (x := (1399, .iconst 1, 1)) DL_law_14 9 rfl
theorem dL_law_1400 : decode cL_law 1400 = .ok (.ireturn, 1) := dAt (x := (1400, .ireturn, 1)) DL_law_14 10 rfl
