theorem dX5_leanLeaf_32 : decode cX5_leanLeaf 32 = .ok (.getfield 12, 3) := by decide +kernel
theorem dX5_leanLeaf_35 : decode cX5_leanLeaf 35 = .ok (.getfield 56, 3) := by decide +kernel
theorem dX5_leanLeaf_38 : decode cX5_leanLeaf 38 = .ok (.putfield 29, 3) := by decide +kernel
theorem dX5_leanLeaf_41 : decode cX5_leanLeaf 41 = .ok (.aload_n 0, 1) := by decide +kernel
theorem dX5_leanLeaf_42 : decode cX5_leanLeaf 42 = .ok (.invokevirtual 201, 3) := by decide +kernel
theorem dX5_leanLeaf_45 : decode cX5_leanLeaf 45 = .ok (.ireturn, 1) := by decide +kernel
theorem dX5_asks_0 : decode cX5_asks 0 = .ok (.aload_n 0, 1) := by decide +kernel
theorem dX5_asks_1 : decode cX5_asks 1 = .ok (.getfield 29, 3) := by decide +kernel
theorem dX5_asks_4 : decode cX5_asks 4 = .ok (.istore_n 2, 1) := by decide +kernel
theorem dX5_asks_5 : decode cX5_asks 5 = .ok (.aload_n 0, 1) := by decide +kernel
theorem dX5_asks_6 : decode cX5_asks 6 = .ok (.iconst (-1), 1) := by decide +kernel
theorem dX5_asks_7 : decode cX5_asks 7 = .ok (.putfield 29, 3) := by decide +kernel
theorem dX5_asks_10 : decode cX5_asks 10 = .ok (.iload_n 2, 1) := by decide +kernel
theorem dX5_asks_11 : decode cX5_asks 11 = .ok (.bipush 15, 2) := by decide +kernel
theorem dX5_asks_13 : decode cX5_asks 13 = .ok (.if_icmp .ne 15, 3) := by decide +kernel
theorem dX5_asks_16 : decode cX5_asks 16 = .ok (.aload_n 0, 1) := by decide +kernel
theorem dX5_asks_17 : decode cX5_asks 17 = .ok (.bipush 8, 2) := by decide +kernel
theorem dX5_asks_19 : decode cX5_asks 19 = .ok (.invokevirtual 113, 3) := by decide +kernel
theorem dX5_asks_22 : decode cX5_asks 22 = .ok (.ifCond .ne 15, 3) := by decide +kernel
theorem dX5_asks_25 : decode cX5_asks 25 = .ok (.goto 10, 3) := by decide +kernel
theorem dX5_asks_28 : decode cX5_asks 28 = .ok (.aload_n 0, 1) := by decide +kernel
theorem dX5_asks_29 : decode cX5_asks 29 = .ok (.invokevirtual 120, 3) := by decide +kernel
theorem dX5_asks_32 : decode cX5_asks 32 = .ok (.ifCond .ne 5, 3) := by decide +kernel
theorem dX5_asks_35 : decode cX5_asks 35 = .ok (.iconst 0, 1) := by decide +kernel
theorem dX5_asks_36 : decode cX5_asks 36 = .ok (.ireturn, 1) := by decide +kernel
theorem dX5_asks_37 : decode cX5_asks 37 = .ok (.iload_n 2, 1) := by decide +kernel
theorem dX5_asks_38 : decode cX5_asks 38 = .ok (.bipush 15, 2) := by decide +kernel
theorem dX5_asks_40 : decode cX5_asks 40 = .ok (.if_icmp .ne 24, 3) := by decide +kernel
theorem dX5_asks_43 : decode cX5_asks 43 = .ok (.aload_n 0, 1) := by decide +kernel
theorem dX5_asks_44 : decode cX5_asks 44 = .ok (.getfield 21, 3) := by decide +kernel
theorem dX5_asks_47 : decode cX5_asks 47 = .ok (.getfield 126, 3) := by decide +kernel
theorem dX5_asks_50 : decode cX5_asks 50 = .ok (.bipush 15, 2) := by decide +kernel
theorem dX5_asks_52 : decode cX5_asks 52 = .ok (.aload_n 0, 1) := by decide +kernel
theorem dX5_asks_53 : decode cX5_asks 53 = .ok (.getfield 12, 3) := by decide +kernel
theorem dX5_asks_56 : decode cX5_asks 56 = .ok (.getfield 106, 3) := by decide +kernel
theorem dX5_asks_59 : decode cX5_asks 59 = .ok (.invokevirtual 204, 3) := by decide +kernel
theorem dX5_asks_62 : decode cX5_asks 62 = .ok (.iconst 1, 1) := by decide +kernel
theorem dX5_asks_63 : decode cX5_asks 63 = .ok (.ireturn, 1) := by decide +kernel
theorem dX5_asks_64 : decode cX5_asks 64 = .ok (.aload_n 0, 1) := by decide +kernel
theorem dX5_asks_65 : decode cX5_asks 65 = .ok (.getfield 21, 3) := by decide +kernel
theorem dX5_asks_68 : decode cX5_asks 68 = .ok (.aload_n 0, 1) := by decide +kernel
theorem dX5_asks_69 : decode cX5_asks 69 = .ok (.getfield 12, 3) := by decide +kernel
theorem dX5_asks_72 : decode cX5_asks 72 = .ok (.getfield 106, 3) := by decide +kernel
theorem dX5_asks_75 : decode cX5_asks 75 = .ok (.invokevirtual 109, 3) := by decide +kernel
theorem dX5_asks_78 : decode cX5_asks 78 = .ok (.istore_n 3, 1) := by decide +kernel
theorem dX5_asks_79 : decode cX5_asks 79 = .ok (.iload_n 2, 1) := by decide +kernel
theorem dX5_asks_80 : decode cX5_asks 80 = .ok (.bipush 16, 2) := by decide +kernel
theorem dX5_asks_82 : decode cX5_asks 82 = .ok (.if_icmp .ne 12, 3) := by decide +kernel
theorem dX5_asks_85 : decode cX5_asks 85 = .ok (.aload_n 0, 1) := by decide +kernel
theorem dX5_asks_86 : decode cX5_asks 86 = .ok (.iload_n 1, 1) := by decide +kernel
theorem dX5_asks_87 : decode cX5_asks 87 = .ok (.iload_n 3, 1) := by decide +kernel
theorem dX5_asks_88 : decode cX5_asks 88 = .ok (.invokevirtual 207, 3) := by decide +kernel
theorem dX5_asks_91 : decode cX5_asks 91 = .ok (.goto 10, 3) := by decide +kernel
theorem dX5_asks_94 : decode cX5_asks 94 = .ok (.aload_n 0, 1) := by decide +kernel
theorem dX5_asks_95 : decode cX5_asks 95 = .ok (.iload_n 1, 1) := by decide +kernel
theorem dX5_asks_96 : decode cX5_asks 96 = .ok (.iload_n 3, 1) := by decide +kernel
theorem dX5_asks_97 : decode cX5_asks 97 = .ok (.iload_n 2, 1) := by decide +kernel
theorem dX5_asks_98 : decode cX5_asks 98 = .ok (.invokevirtual 211, 3) := by decide +kernel
theorem dX5_asks_101 : decode cX5_asks 101 = .ok (.ireturn, 1) := by decide +kernel
theorem dX5_onOther_0 : decode cX5_onOther 0 = .ok (.iload_n 2, 1) := by decide +kernel
theorem dX5_onOther_1 : decode cX5_onOther 1 = .ok (.iload_n 1, 1) := by decide +kernel
theorem dX5_onOther_2 : decode cX5_onOther 2 = .ok (.if_icmp .ne 9, 3) := by decide +kernel
theorem dX5_onOther_5 : decode cX5_onOther 5 = .ok (.aload_n 0, 1) := by decide +kernel
theorem dX5_onOther_6 : decode cX5_onOther 6 = .ok (.iconst 5, 1) := by decide +kernel
theorem dX5_onOther_7 : decode cX5_onOther 7 = .ok (.invokevirtual 75, 3) := by decide +kernel
theorem dX5_onOther_10 : decode cX5_onOther 10 = .ok (.ireturn, 1) := by decide +kernel
theorem dX5_onOther_11 : decode cX5_onOther 11 = .ok (.aload_n 0, 1) := by decide +kernel
theorem dX5_onOther_12 : decode cX5_onOther 12 = .ok (.getfield 21, 3) := by decide +kernel
theorem dX5_onOther_15 : decode cX5_onOther 15 = .ok (.iload_n 1, 1) := by decide +kernel
theorem dX5_onOther_16 : decode cX5_onOther 16 = .ok (.iconst 1, 1) := by decide +kernel
theorem dX5_onOther_17 : decode cX5_onOther 17 = .ok (.iload_n 2, 1) := by decide +kernel
theorem dX5_onOther_18 : decode cX5_onOther 18 = .ok (.ishl, 1) := by decide +kernel
theorem dX5_onOther_19 : decode cX5_onOther 19 = .ok (.invokevirtual 215, 3) := by decide +kernel
theorem dX5_onOther_22 : decode cX5_onOther 22 = .ok (.aload_n 0, 1) := by decide +kernel
theorem dX5_onOther_23 : decode cX5_onOther 23 = .ok (.getfield 21, 3) := by decide +kernel
theorem dX5_onOther_26 : decode cX5_onOther 26 = .ok (.getfield 126, 3) := by decide +kernel
theorem dX5_onOther_29 : decode cX5_onOther 29 = .ok (.iload_n 3, 1) := by decide +kernel
theorem dX5_onOther_30 : decode cX5_onOther 30 = .ok (.iload_n 2, 1) := by decide +kernel
theorem dX5_onOther_31 : decode cX5_onOther 31 = .ok (.invokevirtual 204, 3) := by decide +kernel
theorem dX5_onOther_34 : decode cX5_onOther 34 = .ok (.iconst 1, 1) := by decide +kernel
theorem dX5_onOther_35 : decode cX5_onOther 35 = .ok (.ireturn, 1) := by decide +kernel
theorem dX5_asOther_0 : decode cX5_asOther 0 = .ok (.aload_n 0, 1) := by decide +kernel
theorem dX5_asOther_1 : decode cX5_asOther 1 = .ok (.getfield 21, 3) := by decide +kernel
theorem dX5_asOther_4 : decode cX5_asOther 4 = .ok (.iload_n 2, 1) := by decide +kernel
theorem dX5_asOther_5 : decode cX5_asOther 5 = .ok (.invokevirtual 123, 3) := by decide +kernel
theorem dX5_asOther_8 : decode cX5_asOther 8 = .ok (.ifCond .ne 9, 3) := by decide +kernel
theorem dX5_asOther_11 : decode cX5_asOther 11 = .ok (.aload_n 0, 1) := by decide +kernel
theorem dX5_asOther_12 : decode cX5_asOther 12 = .ok (.iconst 4, 1) := by decide +kernel
theorem dX5_asOther_13 : decode cX5_asOther 13 = .ok (.invokevirtual 75, 3) := by decide +kernel
theorem dX5_asOther_16 : decode cX5_asOther 16 = .ok (.ireturn, 1) := by decide +kernel
theorem dX5_asOther_17 : decode cX5_asOther 17 = .ok (.aload_n 0, 1) := by decide +kernel
theorem dX5_asOther_18 : decode cX5_asOther 18 = .ok (.getfield 21, 3) := by decide +kernel
theorem dX5_asOther_21 : decode cX5_asOther 21 = .ok (.iload_n 2, 1) := by decide +kernel
theorem dX5_asOther_22 : decode cX5_asOther 22 = .ok (.invokevirtual 218, 3) := by decide +kernel
theorem dX5_asOther_25 : decode cX5_asOther 25 = .ok (.istore_n 3, 1) := by decide +kernel
theorem dX5_asOther_26 : decode cX5_asOther 26 = .ok (.iload_n 3, 1) := by decide +kernel
theorem dX5_asOther_27 : decode cX5_asOther 27 = .ok (.iload_n 1, 1) := by decide +kernel
theorem dX5_asOther_28 : decode cX5_asOther 28 = .ok (.ishr, 1) := by decide +kernel
theorem dX5_asOther_29 : decode cX5_asOther 29 = .ok (.iconst 1, 1) := by decide +kernel
theorem dX5_asOther_30 : decode cX5_asOther 30 = .ok (.iand, 1) := by decide +kernel
theorem dX5_asOther_31 : decode cX5_asOther 31 = .ok (.ifCond .eq 9, 3) := by decide +kernel
theorem dX5_asOther_34 : decode cX5_asOther 34 = .ok (.aload_n 0, 1) := by decide +kernel
theorem dX5_asOther_35 : decode cX5_asOther 35 = .ok (.iconst 5, 1) := by decide +kernel
theorem dX5_asOther_36 : decode cX5_asOther 36 = .ok (.invokevirtual 75, 3) := by decide +kernel
theorem dX5_asOther_39 : decode cX5_asOther 39 = .ok (.ireturn, 1) := by decide +kernel
theorem dX5_asOther_40 : decode cX5_asOther 40 = .ok (.aload_n 0, 1) := by decide +kernel
theorem dX5_asOther_41 : decode cX5_asOther 41 = .ok (.getfield 21, 3) := by decide +kernel
theorem dX5_asOther_44 : decode cX5_asOther 44 = .ok (.iload_n 1, 1) := by decide +kernel
theorem dX5_asOther_45 : decode cX5_asOther 45 = .ok (.iload_n 3, 1) := by decide +kernel
theorem dX5_asOther_46 : decode cX5_asOther 46 = .ok (.invokevirtual 215, 3) := by decide +kernel
theorem dX5_asOther_49 : decode cX5_asOther 49 = .ok (.aload_n 0, 1) := by decide +kernel
theorem dX5_asOther_50 : decode cX5_asOther 50 = .ok (.getfield 21, 3) := by decide +kernel
theorem dX5_asOther_53 : decode cX5_asOther 53 = .ok (.getfield 126, 3) := by decide +kernel
theorem dX5_asOther_56 : decode cX5_asOther 56 = .ok (.bipush 16, 2) := by decide +kernel
theorem dX5_asOther_58 : decode cX5_asOther 58 = .ok (.iload_n 2, 1) := by decide +kernel
theorem dX5_asOther_59 : decode cX5_asOther 59 = .ok (.invokevirtual 204, 3) := by decide +kernel
theorem dX5_asOther_62 : decode cX5_asOther 62 = .ok (.iconst 1, 1) := by decide +kernel
theorem dX5_asOther_63 : decode cX5_asOther 63 = .ok (.ireturn, 1) := by decide +kernel
theorem dX6_init_0 : decode cX6_init 0 = .ok (.aload_n 0, 1) := by decide +kernel
theorem dX6_init_1 : decode cX6_init 1 = .ok (.invokespecial 3, 3) := by decide +kernel
theorem dX6_init_4 : decode cX6_init 4 = .ok (.return_, 1) := by decide +kernel
theorem dX6_look_0 : decode cX6_look 0 = .ok (.aload_n 0, 1) := by decide +kernel
theorem dX6_look_1 : decode cX6_look 1 = .ok (.aload_n 1, 1) := by decide +kernel
theorem dX6_look_2 : decode cX6_look 2 = .ok (.getfield 9, 3) := by decide +kernel
theorem dX6_look_5 : decode cX6_look 5 = .ok (.putfield 15, 3) := by decide +kernel
theorem dX6_look_8 : decode cX6_look 8 = .ok (.aload_n 0, 1) := by decide +kernel
theorem dX6_look_9 : decode cX6_look 9 = .ok (.iload_n 2, 1) := by decide +kernel
theorem dX6_look_10 : decode cX6_look 10 = .ok (.putfield 18, 3) := by decide +kernel
theorem dX6_look_13 : decode cX6_look 13 = .ok (.aload_n 0, 1) := by decide +kernel
theorem dX6_look_14 : decode cX6_look 14 = .ok (.iload_n 2, 1) := by decide +kernel
theorem dX6_look_15 : decode cX6_look 15 = .ok (.ifCond .lt 18, 3) := by decide +kernel
theorem dX6_look_18 : decode cX6_look 18 = .ok (.iload_n 2, 1) := by decide +kernel
theorem dX6_look_19 : decode cX6_look 19 = .ok (.bipush 8, 2) := by decide +kernel
theorem dX6_look_21 : decode cX6_look 21 = .ok (.if_icmp .ge 12, 3) := by decide +kernel
theorem dX6_look_24 : decode cX6_look 24 = .ok (.aload_n 1, 1) := by decide +kernel
theorem dX6_look_25 : decode cX6_look 25 = .ok (.getfield 21, 3) := by decide +kernel
theorem dX6_look_28 : decode cX6_look 28 = .ok (.iload_n 2, 1) := by decide +kernel
theorem dX6_look_29 : decode cX6_look 29 = .ok (.iaload, 1) := by decide +kernel
theorem dX6_look_30 : decode cX6_look 30 = .ok (.goto 4, 3) := by decide +kernel
theorem dX6_look_33 : decode cX6_look 33 = .ok (.iconst 0, 1) := by decide +kernel
theorem dX6_look_34 : decode cX6_look 34 = .ok (.putfield 25, 3) := by decide +kernel
theorem dX6_look_37 : decode cX6_look 37 = .ok (.aload_n 0, 1) := by decide +kernel
theorem dX6_look_38 : decode cX6_look 38 = .ok (.aload_n 1, 1) := by decide +kernel
theorem dX6_look_39 : decode cX6_look 39 = .ok (.getfield 27, 3) := by decide +kernel
theorem dX6_look_42 : decode cX6_look 42 = .ok (.invokestatic 30, 3) := by decide +kernel
theorem dX6_look_45 : decode cX6_look 45 = .ok (.putfield 36, 3) := by decide +kernel
theorem dX6_look_48 : decode cX6_look 48 = .ok (.aload_n 0, 1) := by decide +kernel
theorem dX6_look_49 : decode cX6_look 49 = .ok (.aload_n 1, 1) := by decide +kernel
theorem dX6_look_50 : decode cX6_look 50 = .ok (.getfield 39, 3) := by decide +kernel
theorem dX6_look_53 : decode cX6_look 53 = .ok (.putfield 42, 3) := by decide +kernel
theorem dX6_look_56 : decode cX6_look 56 = .ok (.aload_n 0, 1) := by decide +kernel
theorem dX6_look_57 : decode cX6_look 57 = .ok (.aload_n 1, 1) := by decide +kernel
theorem dX6_look_58 : decode cX6_look 58 = .ok (.getfield 45, 3) := by decide +kernel
theorem dX6_look_61 : decode cX6_look 61 = .ok (.putfield 48, 3) := by decide +kernel
theorem dX6_look_64 : decode cX6_look 64 = .ok (.return_, 1) := by decide +kernel
theorem dX6_leaf_0 : decode cX6_leaf 0 = .ok (.iload_n 1, 1) := by decide +kernel
theorem dX6_leaf_1 : decode cX6_leaf 1 = .ok (.tableswitch 147 13 23 #[59, 68, 79, 93, 102, 107, 112, 120, 125, 137, 142], 59) := by decide +kernel
theorem dX6_leaf_60 : decode cX6_leaf 60 = .ok (.aload_n 0, 1) := by decide +kernel
theorem dX6_leaf_61 : decode cX6_leaf 61 = .ok (.getfield 15, 3) := by decide +kernel
theorem dX6_leaf_64 : decode cX6_leaf 64 = .ok (.iload_n 2, 1) := by decide +kernel
theorem dX6_leaf_65 : decode cX6_leaf 65 = .ok (.ishr, 1) := by decide +kernel
theorem dX6_leaf_66 : decode cX6_leaf 66 = .ok (.iconst 1, 1) := by decide +kernel
theorem dX6_leaf_67 : decode cX6_leaf 67 = .ok (.iand, 1) := by decide +kernel
theorem dX6_leaf_68 : decode cX6_leaf 68 = .ok (.ireturn, 1) := by decide +kernel
theorem dX6_leaf_69 : decode cX6_leaf 69 = .ok (.aload_n 0, 1) := by decide +kernel
theorem dX6_leaf_70 : decode cX6_leaf 70 = .ok (.getfield 15, 3) := by decide +kernel
theorem dX6_leaf_73 : decode cX6_leaf 73 = .ok (.iconst (-1), 1) := by decide +kernel
theorem dX6_leaf_74 : decode cX6_leaf 74 = .ok (.ixor, 1) := by decide +kernel
theorem dX6_leaf_75 : decode cX6_leaf 75 = .ok (.iload_n 2, 1) := by decide +kernel
theorem dX6_leaf_76 : decode cX6_leaf 76 = .ok (.ishr, 1) := by decide +kernel
theorem dX6_leaf_77 : decode cX6_leaf 77 = .ok (.iconst 1, 1) := by decide +kernel
theorem dX6_leaf_78 : decode cX6_leaf 78 = .ok (.iand, 1) := by decide +kernel
theorem dX6_leaf_79 : decode cX6_leaf 79 = .ok (.ireturn, 1) := by decide +kernel
theorem dX6_leaf_80 : decode cX6_leaf 80 = .ok (.aload_n 0, 1) := by decide +kernel
theorem dX6_leaf_81 : decode cX6_leaf 81 = .ok (.getfield 49, 3) := by decide +kernel
theorem dX6_leaf_84 : decode cX6_leaf 84 = .ok (.iload_n 2, 1) := by decide +kernel
theorem dX6_leaf_85 : decode cX6_leaf 85 = .ok (.if_icmp .lt 7, 3) := by decide +kernel
theorem dX6_leaf_88 : decode cX6_leaf 88 = .ok (.iconst 1, 1) := by decide +kernel
theorem dX6_leaf_89 : decode cX6_leaf 89 = .ok (.goto 4, 3) := by decide +kernel
theorem dX6_leaf_92 : decode cX6_leaf 92 = .ok (.iconst 0, 1) := by decide +kernel
theorem dX6_leaf_93 : decode cX6_leaf 93 = .ok (.ireturn, 1) := by decide +kernel
theorem dX6_leaf_94 : decode cX6_leaf 94 = .ok (.aload_n 0, 1) := by decide +kernel
theorem dX6_leaf_95 : decode cX6_leaf 95 = .ok (.getfield 52, 3) := by decide +kernel
theorem dX6_leaf_98 : decode cX6_leaf 98 = .ok (.iload_n 2, 1) := by decide +kernel
theorem dX6_leaf_99 : decode cX6_leaf 99 = .ok (.ishr, 1) := by decide +kernel
theorem dX6_leaf_100 : decode cX6_leaf 100 = .ok (.iconst 1, 1) := by decide +kernel
theorem dX6_leaf_101 : decode cX6_leaf 101 = .ok (.iand, 1) := by decide +kernel
theorem dX6_leaf_102 : decode cX6_leaf 102 = .ok (.ireturn, 1) := by decide +kernel
theorem dX6_leaf_103 : decode cX6_leaf 103 = .ok (.aload_n 0, 1) := by decide +kernel
theorem dX6_leaf_104 : decode cX6_leaf 104 = .ok (.getfield 25, 3) := by decide +kernel
theorem dX6_leaf_107 : decode cX6_leaf 107 = .ok (.ireturn, 1) := by decide +kernel
theorem dX6_leaf_108 : decode cX6_leaf 108 = .ok (.aload_n 0, 1) := by decide +kernel
theorem dX6_leaf_109 : decode cX6_leaf 109 = .ok (.getfield 18, 3) := by decide +kernel
theorem dX6_leaf_112 : decode cX6_leaf 112 = .ok (.ireturn, 1) := by decide +kernel
theorem dX6_leaf_113 : decode cX6_leaf 113 = .ok (.aload_n 0, 1) := by decide +kernel
theorem dX6_leaf_114 : decode cX6_leaf 114 = .ok (.getfield 15, 3) := by decide +kernel
theorem dX6_leaf_117 : decode cX6_leaf 117 = .ok (.invokestatic 30, 3) := by decide +kernel
theorem dX6_leaf_120 : decode cX6_leaf 120 = .ok (.ireturn, 1) := by decide +kernel
theorem dX6_leaf_121 : decode cX6_leaf 121 = .ok (.aload_n 0, 1) := by decide +kernel
theorem dX6_leaf_122 : decode cX6_leaf 122 = .ok (.getfield 36, 3) := by decide +kernel
theorem dX6_leaf_125 : decode cX6_leaf 125 = .ok (.ireturn, 1) := by decide +kernel
theorem dX6_leaf_126 : decode cX6_leaf 126 = .ok (.aload_n 0, 1) := by decide +kernel
theorem dX6_leaf_127 : decode cX6_leaf 127 = .ok (.getfield 15, 3) := by decide +kernel
theorem dX6_leaf_130 : decode cX6_leaf 130 = .ok (.aload_n 0, 1) := by decide +kernel
theorem dX6_leaf_131 : decode cX6_leaf 131 = .ok (.getfield 18, 3) := by decide +kernel
theorem dX6_leaf_134 : decode cX6_leaf 134 = .ok (.ishr, 1) := by decide +kernel
theorem dX6_leaf_135 : decode cX6_leaf 135 = .ok (.iconst 1, 1) := by decide +kernel
theorem dX6_leaf_136 : decode cX6_leaf 136 = .ok (.iand, 1) := by decide +kernel
theorem dX6_leaf_137 : decode cX6_leaf 137 = .ok (.ireturn, 1) := by decide +kernel
theorem dX6_leaf_138 : decode cX6_leaf 138 = .ok (.aload_n 0, 1) := by decide +kernel
theorem dX6_leaf_139 : decode cX6_leaf 139 = .ok (.getfield 42, 3) := by decide +kernel
theorem dX6_leaf_142 : decode cX6_leaf 142 = .ok (.ireturn, 1) := by decide +kernel
theorem dX6_leaf_143 : decode cX6_leaf 143 = .ok (.aload_n 0, 1) := by decide +kernel
theorem dX6_leaf_144 : decode cX6_leaf 144 = .ok (.getfield 48, 3) := by decide +kernel
theorem dX6_leaf_147 : decode cX6_leaf 147 = .ok (.ireturn, 1) := by decide +kernel
theorem dX6_leaf_148 : decode cX6_leaf 148 = .ok (.iload_n 2, 1) := by decide +kernel
theorem dX6_leaf_149 : decode cX6_leaf 149 = .ok (.ireturn, 1) := by decide +kernel
theorem dX7_init_0 : decode cX7_init 0 = .ok (.aload_n 0, 1) := by decide +kernel
theorem dX7_init_1 : decode cX7_init 1 = .ok (.invokespecial 3, 3) := by decide +kernel
theorem dX7_init_4 : decode cX7_init 4 = .ok (.aload_n 0, 1) := by decide +kernel
theorem dX7_init_5 : decode cX7_init 5 = .ok (.bipush 8, 2) := by decide +kernel
theorem dX7_init_7 : decode cX7_init 7 = .ok (.newarray .int, 2) := by decide +kernel
theorem dX7_init_9 : decode cX7_init 9 = .ok (.putfield 9, 3) := by decide +kernel
theorem dX7_init_12 : decode cX7_init 12 = .ok (.return_, 1) := by decide +kernel
theorem dX7_begin_0 : decode cX7_begin 0 = .ok (.aload_n 0, 1) := by decide +kernel
theorem dX7_begin_1 : decode cX7_begin 1 = .ok (.iconst 0, 1) := by decide +kernel
theorem dX7_begin_2 : decode cX7_begin 2 = .ok (.putfield 15, 3) := by decide +kernel
theorem dX7_begin_5 : decode cX7_begin 5 = .ok (.aload_n 0, 1) := by decide +kernel
theorem dX7_begin_6 : decode cX7_begin 6 = .ok (.aload_n 1, 1) := by decide +kernel
theorem dX7_begin_7 : decode cX7_begin 7 = .ok (.getfield 19, 3) := by decide +kernel
theorem dX7_begin_10 : decode cX7_begin 10 = .ok (.putfield 24, 3) := by decide +kernel
theorem dX7_begin_13 : decode cX7_begin 13 = .ok (.aload_n 0, 1) := by decide +kernel
theorem dX7_begin_14 : decode cX7_begin 14 = .ok (.iconst 0, 1) := by decide +kernel
theorem dX7_begin_15 : decode cX7_begin 15 = .ok (.putfield 27, 3) := by decide +kernel
theorem dX7_begin_18 : decode cX7_begin 18 = .ok (.aload_n 0, 1) := by decide +kernel
theorem dX7_begin_19 : decode cX7_begin 19 = .ok (.iconst 0, 1) := by decide +kernel
theorem dX7_begin_20 : decode cX7_begin 20 = .ok (.putfield 30, 3) := by decide +kernel
theorem dX7_begin_23 : decode cX7_begin 23 = .ok (.aload_n 0, 1) := by decide +kernel
theorem dX7_begin_24 : decode cX7_begin 24 = .ok (.iconst 0, 1) := by decide +kernel
theorem dX7_begin_25 : decode cX7_begin 25 = .ok (.putfield 33, 3) := by decide +kernel
theorem dX7_begin_28 : decode cX7_begin 28 = .ok (.aload_n 0, 1) := by decide +kernel
theorem dX7_begin_29 : decode cX7_begin 29 = .ok (.aload_n 1, 1) := by decide +kernel
theorem dX7_begin_30 : decode cX7_begin 30 = .ok (.getfield 36, 3) := by decide +kernel
theorem dX7_begin_33 : decode cX7_begin 33 = .ok (.i2l, 1) := by decide +kernel
theorem dX7_begin_34 : decode cX7_begin 34 = .ok (.putfield 39, 3) := by decide +kernel
theorem dX7_begin_37 : decode cX7_begin 37 = .ok (.aload_n 0, 1) := by decide +kernel
theorem dX7_begin_38 : decode cX7_begin 38 = .ok (.getfield 9, 3) := by decide +kernel
theorem dX7_begin_41 : decode cX7_begin 41 = .ok (.iconst 0, 1) := by decide +kernel
theorem dX7_begin_42 : decode cX7_begin 42 = .ok (.invokestatic 43, 3) := by decide +kernel
theorem dX7_begin_45 : decode cX7_begin 45 = .ok (.return_, 1) := by decide +kernel
theorem dX7_take_0 : decode cX7_take 0 = .ok (.aload_n 0, 1) := by decide +kernel
theorem dX7_take_1 : decode cX7_take 1 = .ok (.aload_n 1, 1) := by decide +kernel
theorem dX7_take_2 : decode cX7_take 2 = .ok (.getfield 15, 3) := by decide +kernel
theorem dX7_take_5 : decode cX7_take 5 = .ok (.putfield 15, 3) := by decide +kernel
theorem dX7_take_8 : decode cX7_take 8 = .ok (.aload_n 0, 1) := by decide +kernel
theorem dX7_take_9 : decode cX7_take 9 = .ok (.aload_n 1, 1) := by decide +kernel
theorem dX7_take_10 : decode cX7_take 10 = .ok (.getfield 24, 3) := by decide +kernel
theorem dX7_take_13 : decode cX7_take 13 = .ok (.putfield 24, 3) := by decide +kernel
theorem dX7_take_16 : decode cX7_take 16 = .ok (.aload_n 0, 1) := by decide +kernel
theorem dX7_take_17 : decode cX7_take 17 = .ok (.aload_n 1, 1) := by decide +kernel
theorem dX7_take_18 : decode cX7_take 18 = .ok (.getfield 27, 3) := by decide +kernel
theorem dX7_take_21 : decode cX7_take 21 = .ok (.putfield 27, 3) := by decide +kernel
theorem dX7_take_24 : decode cX7_take 24 = .ok (.aload_n 0, 1) := by decide +kernel
theorem dX7_take_25 : decode cX7_take 25 = .ok (.aload_n 1, 1) := by decide +kernel
theorem dX7_take_26 : decode cX7_take 26 = .ok (.getfield 30, 3) := by decide +kernel
theorem dX7_take_29 : decode cX7_take 29 = .ok (.putfield 30, 3) := by decide +kernel
theorem dX7_take_32 : decode cX7_take 32 = .ok (.aload_n 0, 1) := by decide +kernel
theorem dX7_take_33 : decode cX7_take 33 = .ok (.aload_n 1, 1) := by decide +kernel
theorem dX7_take_34 : decode cX7_take 34 = .ok (.getfield 33, 3) := by decide +kernel
theorem dX7_take_37 : decode cX7_take 37 = .ok (.putfield 33, 3) := by decide +kernel
theorem dX7_take_40 : decode cX7_take 40 = .ok (.aload_n 0, 1) := by decide +kernel
theorem dX7_take_41 : decode cX7_take 41 = .ok (.aload_n 1, 1) := by decide +kernel
theorem dX7_take_42 : decode cX7_take 42 = .ok (.getfield 39, 3) := by decide +kernel
theorem dX7_take_45 : decode cX7_take 45 = .ok (.putfield 39, 3) := by decide +kernel
theorem dX7_take_48 : decode cX7_take 48 = .ok (.aload_n 1, 1) := by decide +kernel
theorem dX7_take_49 : decode cX7_take 49 = .ok (.getfield 9, 3) := by decide +kernel
theorem dX7_take_52 : decode cX7_take 52 = .ok (.iconst 0, 1) := by decide +kernel
theorem dX7_take_53 : decode cX7_take 53 = .ok (.aload_n 0, 1) := by decide +kernel
theorem dX7_take_54 : decode cX7_take 54 = .ok (.getfield 9, 3) := by decide +kernel
theorem dX7_take_57 : decode cX7_take 57 = .ok (.iconst 0, 1) := by decide +kernel
theorem dX7_take_58 : decode cX7_take 58 = .ok (.bipush 8, 2) := by decide +kernel
theorem dX7_take_60 : decode cX7_take 60 = .ok (.invokestatic 49, 3) := by decide +kernel
theorem dX7_take_63 : decode cX7_take 63 = .ok (.return_, 1) := by decide +kernel
theorem dX7_wornInAll_0 : decode cX7_wornInAll 0 = .ok (.iconst 0, 1) := by decide +kernel
theorem dX7_wornInAll_1 : decode cX7_wornInAll 1 = .ok (.istore_n 1, 1) := by decide +kernel
theorem dX7_wornInAll_2 : decode cX7_wornInAll 2 = .ok (.aload_n 0, 1) := by decide +kernel
theorem dX7_wornInAll_3 : decode cX7_wornInAll 3 = .ok (.getfield 9, 3) := by decide +kernel
theorem dX7_wornInAll_6 : decode cX7_wornInAll 6 = .ok (.astore_n 2, 1) := by decide +kernel
theorem dX7_wornInAll_7 : decode cX7_wornInAll 7 = .ok (.aload_n 2, 1) := by decide +kernel
theorem dX7_wornInAll_8 : decode cX7_wornInAll 8 = .ok (.arraylength, 1) := by decide +kernel
theorem dX7_wornInAll_9 : decode cX7_wornInAll 9 = .ok (.istore_n 3, 1) := by decide +kernel
theorem dX7_wornInAll_10 : decode cX7_wornInAll 10 = .ok (.iconst 0, 1) := by decide +kernel
theorem dX7_wornInAll_11 : decode cX7_wornInAll 11 = .ok (.istore 4, 2) := by decide +kernel
theorem dX7_wornInAll_13 : decode cX7_wornInAll 13 = .ok (.iload 4, 2) := by decide +kernel
theorem dX7_wornInAll_15 : decode cX7_wornInAll 15 = .ok (.iload_n 3, 1) := by decide +kernel
theorem dX7_wornInAll_16 : decode cX7_wornInAll 16 = .ok (.if_icmp .ge 20, 3) := by decide +kernel
theorem dX7_wornInAll_19 : decode cX7_wornInAll 19 = .ok (.aload_n 2, 1) := by decide +kernel
theorem dX7_wornInAll_20 : decode cX7_wornInAll 20 = .ok (.iload 4, 2) := by decide +kernel
theorem dX7_wornInAll_22 : decode cX7_wornInAll 22 = .ok (.iaload, 1) := by decide +kernel
theorem dX7_wornInAll_23 : decode cX7_wornInAll 23 = .ok (.istore 5, 2) := by decide +kernel
theorem dX7_wornInAll_25 : decode cX7_wornInAll 25 = .ok (.iload_n 1, 1) := by decide +kernel
theorem dX7_wornInAll_26 : decode cX7_wornInAll 26 = .ok (.iload 5, 2) := by decide +kernel
theorem dX7_wornInAll_28 : decode cX7_wornInAll 28 = .ok (.iadd, 1) := by decide +kernel
theorem dX7_wornInAll_29 : decode cX7_wornInAll 29 = .ok (.istore_n 1, 1) := by decide +kernel
theorem dX7_wornInAll_30 : decode cX7_wornInAll 30 = .ok (.iinc 4 1, 3) := by decide +kernel
theorem dX7_wornInAll_33 : decode cX7_wornInAll 33 = .ok (.goto (-20), 3) := by decide +kernel
theorem dX7_wornInAll_36 : decode cX7_wornInAll 36 = .ok (.iload_n 1, 1) := by decide +kernel
theorem dX7_wornInAll_37 : decode cX7_wornInAll 37 = .ok (.ireturn, 1) := by decide +kernel
theorem dX8_init_0 : decode cX8_init 0 = .ok (.aload_n 0, 1) := by decide +kernel
theorem dX8_init_1 : decode cX8_init 1 = .ok (.invokespecial 3, 3) := by decide +kernel
theorem dX8_init_4 : decode cX8_init 4 = .ok (.aload_n 0, 1) := by decide +kernel
theorem dX8_init_5 : decode cX8_init 5 = .ok (.sipush 700, 3) := by decide +kernel
theorem dX8_init_8 : decode cX8_init 8 = .ok (.newarray .int, 2) := by decide +kernel
theorem dX8_init_10 : decode cX8_init 10 = .ok (.putfield 9, 3) := by decide +kernel
theorem dX8_init_13 : decode cX8_init 13 = .ok (.aload_n 0, 1) := by decide +kernel
theorem dX8_init_14 : decode cX8_init 14 = .ok (.bipush 24, 2) := by decide +kernel
theorem dX8_init_16 : decode cX8_init 16 = .ok (.newarray .int, 2) := by decide +kernel
theorem dX8_init_18 : decode cX8_init 18 = .ok (.putfield 15, 3) := by decide +kernel
theorem dX8_init_21 : decode cX8_init 21 = .ok (.iconst 0, 1) := by decide +kernel
theorem dX8_init_22 : decode cX8_init 22 = .ok (.istore_n 1, 1) := by decide +kernel
theorem dX8_init_23 : decode cX8_init 23 = .ok (.iconst 0, 1) := by decide +kernel
theorem dX8_init_24 : decode cX8_init 24 = .ok (.istore_n 2, 1) := by decide +kernel
theorem dX8_init_25 : decode cX8_init 25 = .ok (.iconst 0, 1) := by decide +kernel
theorem dX8_init_26 : decode cX8_init 26 = .ok (.istore_n 3, 1) := by decide +kernel
theorem dX8_init_27 : decode cX8_init 27 = .ok (.iload_n 3, 1) := by decide +kernel
theorem dX8_init_28 : decode cX8_init 28 = .ok (.ldc 18, 2) := by decide +kernel
theorem dX8_init_30 : decode cX8_init 30 = .ok (.invokevirtual 20, 3) := by decide +kernel
theorem dX8_init_33 : decode cX8_init 33 = .ok (.if_icmp .ge 56, 3) := by decide +kernel
theorem dX8_init_36 : decode cX8_init 36 = .ok (.ldc 18, 2) := by decide +kernel
theorem dX8_init_38 : decode cX8_init 38 = .ok (.iload_n 3, 1) := by decide +kernel
theorem dX8_init_39 : decode cX8_init 39 = .ok (.invokevirtual 26, 3) := by decide +kernel
theorem dX8_init_42 : decode cX8_init 42 = .ok (.bipush 32, 2) := by decide +kernel
theorem dX8_init_44 : decode cX8_init 44 = .ok (.if_icmp .ne 11, 3) := by decide +kernel
theorem dX8_init_47 : decode cX8_init 47 = .ok (.iinc 1 1, 3) := by decide +kernel
theorem dX8_init_50 : decode cX8_init 50 = .ok (.iconst 0, 1) := by decide +kernel
theorem dX8_init_51 : decode cX8_init 51 = .ok (.istore_n 2, 1) := by decide +kernel
theorem dX8_init_52 : decode cX8_init 52 = .ok (.goto 31, 3) := by decide +kernel
theorem dX8_init_55 : decode cX8_init 55 = .ok (.iload_n 1, 1) := by decide +kernel
theorem dX8_init_56 : decode cX8_init 56 = .ok (.bipush 24, 2) := by decide +kernel
theorem dX8_init_58 : decode cX8_init 58 = .ok (.if_icmp .ge 25, 3) := by decide +kernel
theorem dX8_init_61 : decode cX8_init 61 = .ok (.aload_n 0, 1) := by decide +kernel
theorem dX8_init_62 : decode cX8_init 62 = .ok (.getfield 15, 3) := by decide +kernel
theorem dX8_init_65 : decode cX8_init 65 = .ok (.iload_n 1, 1) := by decide +kernel
theorem dX8_init_66 : decode cX8_init 66 = .ok (.dup2, 1) := by decide +kernel
theorem dX8_init_67 : decode cX8_init 67 = .ok (.iaload, 1) := by decide +kernel
theorem dX8_init_68 : decode cX8_init 68 = .ok (.ldc 18, 2) := by decide +kernel
theorem dX8_init_70 : decode cX8_init 70 = .ok (.iload_n 3, 1) := by decide +kernel
theorem dX8_init_71 : decode cX8_init 71 = .ok (.invokevirtual 26, 3) := by decide +kernel
theorem dX8_init_74 : decode cX8_init 74 = .ok (.iload_n 2, 1) := by decide +kernel
theorem dX8_init_75 : decode cX8_init 75 = .ok (.invokestatic 30, 3) := by decide +kernel
theorem dX8_init_78 : decode cX8_init 78 = .ok (.ior, 1) := by decide +kernel
theorem dX8_init_79 : decode cX8_init 79 = .ok (.iastore, 1) := by decide +kernel
theorem dX8_init_80 : decode cX8_init 80 = .ok (.iinc 2 1, 3) := by decide +kernel
theorem dX8_init_83 : decode cX8_init 83 = .ok (.iinc 3 1, 3) := by decide +kernel
theorem dX8_init_86 : decode cX8_init 86 = .ok (.goto (-59), 3) := by decide +kernel
theorem dX8_init_89 : decode cX8_init 89 = .ok (.return_, 1) := by decide +kernel
theorem dX8_letterBits_0 : decode cX8_letterBits 0 = .ok (.iload_n 1, 1) := by decide +kernel
theorem dX8_letterBits_1 : decode cX8_letterBits 1 = .ok (.bipush 6, 2) := by decide +kernel
theorem dX8_letterBits_3 : decode cX8_letterBits 3 = .ok (.if_icmp .ge 18, 3) := by decide +kernel
theorem dX8_letterBits_6 : decode cX8_letterBits 6 = .ok (.iload_n 0, 1) := by decide +kernel
theorem dX8_letterBits_7 : decode cX8_letterBits 7 = .ok (.bipush 97, 2) := by decide +kernel
theorem dX8_letterBits_9 : decode cX8_letterBits 9 = .ok (.isub, 1) := by decide +kernel
theorem dX8_letterBits_10 : decode cX8_letterBits 10 = .ok (.iconst 1, 1) := by decide +kernel
theorem dX8_letterBits_11 : decode cX8_letterBits 11 = .ok (.iadd, 1) := by decide +kernel
theorem dX8_letterBits_12 : decode cX8_letterBits 12 = .ok (.iconst 5, 1) := by decide +kernel
theorem dX8_letterBits_13 : decode cX8_letterBits 13 = .ok (.iconst 5, 1) := by decide +kernel
theorem dX8_letterBits_14 : decode cX8_letterBits 14 = .ok (.iload_n 1, 1) := by decide +kernel
theorem dX8_letterBits_15 : decode cX8_letterBits 15 = .ok (.isub, 1) := by decide +kernel
theorem dX8_letterBits_16 : decode cX8_letterBits 16 = .ok (.imul, 1) := by decide +kernel
theorem dX8_letterBits_17 : decode cX8_letterBits 17 = .ok (.ishl, 1) := by decide +kernel
theorem dX8_letterBits_18 : decode cX8_letterBits 18 = .ok (.goto 4, 3) := by decide +kernel
theorem dX8_letterBits_21 : decode cX8_letterBits 21 = .ok (.iconst 0, 1) := by decide +kernel
theorem dX8_letterBits_22 : decode cX8_letterBits 22 = .ok (.ireturn, 1) := by decide +kernel
theorem dX8_add_0 : decode cX8_add 0 = .ok (.bipush 24, 2) := by decide +kernel
theorem dX8_add_2 : decode cX8_add 2 = .ok (.istore_n 2, 1) := by decide +kernel
theorem dX8_add_3 : decode cX8_add 3 = .ok (.iload_n 2, 1) := by decide +kernel
theorem dX8_add_4 : decode cX8_add 4 = .ok (.ifCond .lt 45, 3) := by decide +kernel
theorem dX8_add_7 : decode cX8_add 7 = .ok (.aload_n 0, 1) := by decide +kernel
theorem dX8_add_8 : decode cX8_add 8 = .ok (.getfield 34, 3) := by decide +kernel
theorem dX8_add_11 : decode cX8_add 11 = .ok (.sipush 700, 3) := by decide +kernel
theorem dX8_add_14 : decode cX8_add 14 = .ok (.if_icmp .ge 29, 3) := by decide +kernel
theorem dX8_add_17 : decode cX8_add 17 = .ok (.aload_n 0, 1) := by decide +kernel
theorem dX8_add_18 : decode cX8_add 18 = .ok (.getfield 9, 3) := by decide +kernel
theorem dX8_add_21 : decode cX8_add 21 = .ok (.aload_n 0, 1) := by decide +kernel
theorem dX8_add_22 : decode cX8_add 22 = .ok (.getfield 34, 3) := by decide +kernel
theorem dX8_add_25 : decode cX8_add 25 = .ok (.iload_n 1, 1) := by decide +kernel
theorem dX8_add_26 : decode cX8_add 26 = .ok (.iload_n 2, 1) := by decide +kernel
theorem dX8_add_27 : decode cX8_add 27 = .ok (.ishr, 1) := by decide +kernel
theorem dX8_add_28 : decode cX8_add 28 = .ok (.sipush 255, 3) := by decide +kernel
theorem dX8_add_31 : decode cX8_add 31 = .ok (.iand, 1) := by decide +kernel
theorem dX8_add_32 : decode cX8_add 32 = .ok (.iastore, 1) := by decide +kernel
theorem dX8_add_33 : decode cX8_add 33 = .ok (.aload_n 0, 1) := by decide +kernel
theorem dX8_add_34 : decode cX8_add 34 = .ok (.dup, 1) := by decide +kernel
theorem dX8_add_35 : decode cX8_add 35 = .ok (.getfield 34, 3) := by decide +kernel
theorem dX8_add_38 : decode cX8_add 38 = .ok (.iconst 1, 1) := by decide +kernel
theorem dX8_add_39 : decode cX8_add 39 = .ok (.iadd, 1) := by decide +kernel
theorem dX8_add_40 : decode cX8_add 40 = .ok (.putfield 34, 3) := by decide +kernel
theorem dX8_add_43 : decode cX8_add 43 = .ok (.iinc 2 (-8), 3) := by decide +kernel
theorem dX8_add_46 : decode cX8_add 46 = .ok (.goto (-43), 3) := by decide +kernel
theorem dX8_add_49 : decode cX8_add 49 = .ok (.return_, 1) := by decide +kernel
theorem dX8_begin_0 : decode cX8_begin 0 = .ok (.aload_n 0, 1) := by decide +kernel
theorem dX8_begin_1 : decode cX8_begin 1 = .ok (.iload_n 1, 1) := by decide +kernel
theorem dX8_begin_2 : decode cX8_begin 2 = .ok (.aload_n 0, 1) := by decide +kernel
theorem dX8_begin_3 : decode cX8_begin 3 = .ok (.getfield 34, 3) := by decide +kernel
theorem dX8_begin_6 : decode cX8_begin 6 = .ok (.invokestatic 38, 3) := by decide +kernel
theorem dX8_begin_9 : decode cX8_begin 9 = .ok (.putfield 43, 3) := by decide +kernel
theorem dX8_begin_12 : decode cX8_begin 12 = .ok (.aload_n 0, 1) := by decide +kernel
theorem dX8_begin_13 : decode cX8_begin 13 = .ok (.iconst 0, 1) := by decide +kernel
theorem dX8_begin_14 : decode cX8_begin 14 = .ok (.putfield 46, 3) := by decide +kernel
theorem dX8_begin_17 : decode cX8_begin 17 = .ok (.aload_n 0, 1) := by decide +kernel
theorem dX8_begin_18 : decode cX8_begin 18 = .ok (.invokevirtual 49, 3) := by decide +kernel
theorem dX8_begin_21 : decode cX8_begin 21 = .ok (.return_, 1) := by decide +kernel
theorem dX8_between_0 : decode cX8_between 0 = .ok (.aload_n 0, 1) := by decide +kernel
theorem dX8_between_1 : decode cX8_between 1 = .ok (.getfield 46, 3) := by decide +kernel
theorem dX8_between_4 : decode cX8_between 4 = .ok (.aload_n 0, 1) := by decide +kernel
theorem dX8_between_5 : decode cX8_between 5 = .ok (.getfield 43, 3) := by decide +kernel
theorem dX8_between_8 : decode cX8_between 8 = .ok (.if_icmp .ge 43, 3) := by decide +kernel
theorem dX8_between_11 : decode cX8_between 11 = .ok (.aload_n 0, 1) := by decide +kernel
theorem dX8_between_12 : decode cX8_between 12 = .ok (.getfield 46, 3) := by decide +kernel
theorem dX8_between_15 : decode cX8_between 15 = .ok (.sipush 700, 3) := by decide +kernel
theorem dX8_between_18 : decode cX8_between 18 = .ok (.if_icmp .ge 33, 3) := by decide +kernel
theorem dX8_between_21 : decode cX8_between 21 = .ok (.aload_n 0, 1) := by decide +kernel
theorem dX8_between_22 : decode cX8_between 22 = .ok (.getfield 9, 3) := by decide +kernel
theorem dX8_between_25 : decode cX8_between 25 = .ok (.aload_n 0, 1) := by decide +kernel
theorem dX8_between_26 : decode cX8_between 26 = .ok (.getfield 46, 3) := by decide +kernel
theorem dX8_between_29 : decode cX8_between 29 = .ok (.iaload, 1) := by decide +kernel
theorem dX8_between_30 : decode cX8_between 30 = .ok (.iload_n 1, 1) := by decide +kernel
theorem dX8_between_31 : decode cX8_between 31 = .ok (.if_icmp .lt 20, 3) := by decide +kernel
theorem dX8_between_34 : decode cX8_between 34 = .ok (.aload_n 0, 1) := by decide +kernel
theorem dX8_between_35 : decode cX8_between 35 = .ok (.getfield 9, 3) := by decide +kernel
theorem dX8_between_38 : decode cX8_between 38 = .ok (.aload_n 0, 1) := by decide +kernel
theorem dX8_between_39 : decode cX8_between 39 = .ok (.getfield 46, 3) := by decide +kernel
theorem dX8_between_42 : decode cX8_between 42 = .ok (.iaload, 1) := by decide +kernel
theorem dX8_between_43 : decode cX8_between 43 = .ok (.iload_n 2, 1) := by decide +kernel
theorem dX8_between_44 : decode cX8_between 44 = .ok (.if_icmp .gt 7, 3) := by decide +kernel
theorem dX8_between_47 : decode cX8_between 47 = .ok (.iconst 1, 1) := by decide +kernel
theorem dX8_between_48 : decode cX8_between 48 = .ok (.goto 4, 3) := by decide +kernel
theorem dX8_between_51 : decode cX8_between 51 = .ok (.iconst 0, 1) := by decide +kernel
theorem dX8_between_52 : decode cX8_between 52 = .ok (.ireturn, 1) := by decide +kernel
theorem dX8_advance_0 : decode cX8_advance 0 = .ok (.aload_n 0, 1) := by decide +kernel
theorem dX8_advance_1 : decode cX8_advance 1 = .ok (.getfield 46, 3) := by decide +kernel
theorem dX8_advance_4 : decode cX8_advance 4 = .ok (.aload_n 0, 1) := by decide +kernel
theorem dX8_advance_5 : decode cX8_advance 5 = .ok (.getfield 43, 3) := by decide +kernel
theorem dX8_advance_8 : decode cX8_advance 8 = .ok (.if_icmp .ge 38, 3) := by decide +kernel
theorem dX8_advance_11 : decode cX8_advance 11 = .ok (.aload_n 0, 1) := by decide +kernel
theorem dX8_advance_12 : decode cX8_advance 12 = .ok (.bipush 32, 2) := by decide +kernel
theorem dX8_advance_14 : decode cX8_advance 14 = .ok (.bipush 32, 2) := by decide +kernel
theorem dX8_advance_16 : decode cX8_advance 16 = .ok (.invokevirtual 52, 3) := by decide +kernel
theorem dX8_advance_19 : decode cX8_advance 19 = .ok (.ifCond .ne 14, 3) := by decide +kernel
theorem dX8_advance_22 : decode cX8_advance 22 = .ok (.aload_n 0, 1) := by decide +kernel
theorem dX8_advance_23 : decode cX8_advance 23 = .ok (.bipush 10, 2) := by decide +kernel
theorem dX8_advance_25 : decode cX8_advance 25 = .ok (.bipush 10, 2) := by decide +kernel
theorem dX8_advance_27 : decode cX8_advance 27 = .ok (.invokevirtual 52, 3) := by decide +kernel
theorem dX8_advance_30 : decode cX8_advance 30 = .ok (.ifCond .eq 16, 3) := by decide +kernel
theorem dX8_advance_33 : decode cX8_advance 33 = .ok (.aload_n 0, 1) := by decide +kernel
theorem dX8_advance_34 : decode cX8_advance 34 = .ok (.dup, 1) := by decide +kernel
theorem dX8_advance_35 : decode cX8_advance 35 = .ok (.getfield 46, 3) := by decide +kernel
theorem dX8_advance_38 : decode cX8_advance 38 = .ok (.iconst 1, 1) := by decide +kernel
theorem dX8_advance_39 : decode cX8_advance 39 = .ok (.iadd, 1) := by decide +kernel
theorem dX8_advance_40 : decode cX8_advance 40 = .ok (.putfield 46, 3) := by decide +kernel
theorem dX8_advance_43 : decode cX8_advance 43 = .ok (.goto (-43), 3) := by decide +kernel
theorem dX8_advance_46 : decode cX8_advance 46 = .ok (.aload_n 0, 1) := by decide +kernel
theorem dX8_advance_47 : decode cX8_advance 47 = .ok (.aload_n 0, 1) := by decide +kernel
theorem dX8_advance_48 : decode cX8_advance 48 = .ok (.getfield 46, 3) := by decide +kernel
theorem dX8_advance_51 : decode cX8_advance 51 = .ok (.putfield 56, 3) := by decide +kernel
theorem dX8_advance_54 : decode cX8_advance 54 = .ok (.aload_n 0, 1) := by decide +kernel
theorem dX8_advance_55 : decode cX8_advance 55 = .ok (.iconst 0, 1) := by decide +kernel
theorem dX8_advance_56 : decode cX8_advance 56 = .ok (.putfield 59, 3) := by decide +kernel
theorem dX8_advance_59 : decode cX8_advance 59 = .ok (.aload_n 0, 1) := by decide +kernel
theorem dX8_advance_60 : decode cX8_advance 60 = .ok (.getfield 46, 3) := by decide +kernel
theorem dX8_advance_63 : decode cX8_advance 63 = .ok (.aload_n 0, 1) := by decide +kernel
theorem dX8_advance_64 : decode cX8_advance 64 = .ok (.getfield 43, 3) := by decide +kernel
theorem dX8_advance_67 : decode cX8_advance 67 = .ok (.if_icmp .lt 12, 3) := by decide +kernel
theorem dX8_advance_70 : decode cX8_advance 70 = .ok (.aload_n 0, 1) := by decide +kernel
theorem dX8_advance_71 : decode cX8_advance 71 = .ok (.bipush 39, 2) := by decide +kernel
theorem dX8_advance_73 : decode cX8_advance 73 = .ok (.putfield 62, 3) := by decide +kernel
theorem dX8_advance_76 : decode cX8_advance 76 = .ok (.goto 43, 3) := by decide +kernel
theorem dX8_advance_79 : decode cX8_advance 79 = .ok (.aload_n 0, 1) := by decide +kernel
theorem dX8_advance_80 : decode cX8_advance 80 = .ok (.bipush 97, 2) := by decide +kernel
theorem dX8_advance_82 : decode cX8_advance 82 = .ok (.bipush 122, 2) := by decide +kernel
theorem dX8_advance_84 : decode cX8_advance 84 = .ok (.invokevirtual 52, 3) := by decide +kernel
theorem dX8_advance_87 : decode cX8_advance 87 = .ok (.ifCond .eq 10, 3) := by decide +kernel
theorem dX8_advance_90 : decode cX8_advance 90 = .ok (.aload_n 0, 1) := by decide +kernel
theorem dX8_advance_91 : decode cX8_advance 91 = .ok (.invokevirtual 65, 3) := by decide +kernel
theorem dX8_advance_94 : decode cX8_advance 94 = .ok (.goto 25, 3) := by decide +kernel
theorem dX8_advance_97 : decode cX8_advance 97 = .ok (.aload_n 0, 1) := by decide +kernel
theorem dX8_advance_98 : decode cX8_advance 98 = .ok (.bipush 48, 2) := by decide +kernel
theorem dX8_advance_100 : decode cX8_advance 100 = .ok (.bipush 57, 2) := by decide +kernel
theorem dX8_advance_102 : decode cX8_advance 102 = .ok (.invokevirtual 52, 3) := by decide +kernel
theorem dX8_advance_105 : decode cX8_advance 105 = .ok (.ifCond .eq 10, 3) := by decide +kernel
theorem dX8_advance_108 : decode cX8_advance 108 = .ok (.aload_n 0, 1) := by decide +kernel
theorem dX8_advance_109 : decode cX8_advance 109 = .ok (.invokevirtual 68, 3) := by decide +kernel
theorem dX8_advance_112 : decode cX8_advance 112 = .ok (.goto 7, 3) := by decide +kernel
theorem dX8_advance_115 : decode cX8_advance 115 = .ok (.aload_n 0, 1) := by decide +kernel
theorem dX8_advance_116 : decode cX8_advance 116 = .ok (.invokevirtual 71, 3) := by decide +kernel
theorem dX8_advance_119 : decode cX8_advance 119 = .ok (.return_, 1) := by decide +kernel
theorem dX8_readWord_0 : decode cX8_readWord 0 = .ok (.aload_n 0, 1) := by decide +kernel
theorem dX8_readWord_1 : decode cX8_readWord 1 = .ok (.getfield 46, 3) := by decide +kernel
theorem dX8_readWord_4 : decode cX8_readWord 4 = .ok (.aload_n 0, 1) := by decide +kernel
theorem dX8_readWord_5 : decode cX8_readWord 5 = .ok (.getfield 43, 3) := by decide +kernel
theorem dX8_readWord_8 : decode cX8_readWord 8 = .ok (.if_icmp .ge 57, 3) := by decide +kernel
theorem dX8_readWord_11 : decode cX8_readWord 11 = .ok (.aload_n 0, 1) := by decide +kernel
theorem dX8_readWord_12 : decode cX8_readWord 12 = .ok (.bipush 97, 2) := by decide +kernel
theorem dX8_readWord_14 : decode cX8_readWord 14 = .ok (.bipush 122, 2) := by decide +kernel
theorem dX8_readWord_16 : decode cX8_readWord 16 = .ok (.invokevirtual 52, 3) := by decide +kernel
theorem dX8_readWord_19 : decode cX8_readWord 19 = .ok (.ifCond .eq 46, 3) := by decide +kernel
theorem dX8_readWord_22 : decode cX8_readWord 22 = .ok (.aload_n 0, 1) := by decide +kernel
theorem dX8_readWord_23 : decode cX8_readWord 23 = .ok (.dup, 1) := by decide +kernel
theorem dX8_readWord_24 : decode cX8_readWord 24 = .ok (.getfield 59, 3) := by decide +kernel
theorem dX8_readWord_27 : decode cX8_readWord 27 = .ok (.aload_n 0, 1) := by decide +kernel
theorem dX8_readWord_28 : decode cX8_readWord 28 = .ok (.getfield 9, 3) := by decide +kernel
theorem dX8_readWord_31 : decode cX8_readWord 31 = .ok (.aload_n 0, 1) := by decide +kernel
theorem dX8_readWord_32 : decode cX8_readWord 32 = .ok (.getfield 46, 3) := by decide +kernel
theorem dX8_readWord_35 : decode cX8_readWord 35 = .ok (.iaload, 1) := by decide +kernel
theorem dX8_readWord_36 : decode cX8_readWord 36 = .ok (.aload_n 0, 1) := by decide +kernel
theorem dX8_readWord_37 : decode cX8_readWord 37 = .ok (.getfield 46, 3) := by decide +kernel
theorem dX8_readWord_40 : decode cX8_readWord 40 = .ok (.aload_n 0, 1) := by decide +kernel
theorem dX8_readWord_41 : decode cX8_readWord 41 = .ok (.getfield 56, 3) := by decide +kernel
theorem dX8_readWord_44 : decode cX8_readWord 44 = .ok (.isub, 1) := by decide +kernel
theorem dX8_readWord_45 : decode cX8_readWord 45 = .ok (.invokestatic 30, 3) := by decide +kernel
theorem dX8_readWord_48 : decode cX8_readWord 48 = .ok (.ior, 1) := by decide +kernel
theorem dX8_readWord_49 : decode cX8_readWord 49 = .ok (.putfield 59, 3) := by decide +kernel
theorem dX8_readWord_52 : decode cX8_readWord 52 = .ok (.aload_n 0, 1) := by decide +kernel
theorem dX8_readWord_53 : decode cX8_readWord 53 = .ok (.dup, 1) := by decide +kernel
theorem dX8_readWord_54 : decode cX8_readWord 54 = .ok (.getfield 46, 3) := by decide +kernel
theorem dX8_readWord_57 : decode cX8_readWord 57 = .ok (.iconst 1, 1) := by decide +kernel
theorem dX8_readWord_58 : decode cX8_readWord 58 = .ok (.iadd, 1) := by decide +kernel
theorem dX8_readWord_59 : decode cX8_readWord 59 = .ok (.putfield 46, 3) := by decide +kernel
theorem dX8_readWord_62 : decode cX8_readWord 62 = .ok (.goto (-62), 3) := by decide +kernel
theorem dX8_readWord_65 : decode cX8_readWord 65 = .ok (.aload_n 0, 1) := by decide +kernel
theorem dX8_readWord_66 : decode cX8_readWord 66 = .ok (.getfield 46, 3) := by decide +kernel
theorem dX8_readWord_69 : decode cX8_readWord 69 = .ok (.aload_n 0, 1) := by decide +kernel
theorem dX8_readWord_70 : decode cX8_readWord 70 = .ok (.getfield 56, 3) := by decide +kernel
theorem dX8_readWord_73 : decode cX8_readWord 73 = .ok (.isub, 1) := by decide +kernel
theorem dX8_readWord_74 : decode cX8_readWord 74 = .ok (.bipush 6, 2) := by decide +kernel
theorem dX8_readWord_76 : decode cX8_readWord 76 = .ok (.if_icmp .le 10, 3) := by decide +kernel
theorem dX8_readWord_79 : decode cX8_readWord 79 = .ok (.aload_n 0, 1) := by decide +kernel
theorem dX8_readWord_80 : decode cX8_readWord 80 = .ok (.bipush 40, 2) := by decide +kernel
theorem dX8_readWord_82 : decode cX8_readWord 82 = .ok (.putfield 62, 3) := by decide +kernel
theorem dX8_readWord_85 : decode cX8_readWord 85 = .ok (.return_, 1) := by decide +kernel
theorem dX8_readWord_86 : decode cX8_readWord 86 = .ok (.aload_n 0, 1) := by decide +kernel
theorem dX8_readWord_87 : decode cX8_readWord 87 = .ok (.bipush 38, 2) := by decide +kernel
theorem dX8_readWord_89 : decode cX8_readWord 89 = .ok (.putfield 62, 3) := by decide +kernel
theorem dX8_readWord_92 : decode cX8_readWord 92 = .ok (.iconst 0, 1) := by decide +kernel
theorem dX8_readWord_93 : decode cX8_readWord 93 = .ok (.istore_n 1, 1) := by decide +kernel
theorem dX8_readWord_94 : decode cX8_readWord 94 = .ok (.iload_n 1, 1) := by decide +kernel
theorem dX8_readWord_95 : decode cX8_readWord 95 = .ok (.bipush 24, 2) := by decide +kernel
theorem dX8_readWord_97 : decode cX8_readWord 97 = .ok (.if_icmp .ge 27, 3) := by decide +kernel
theorem dX8_readWord_100 : decode cX8_readWord 100 = .ok (.aload_n 0, 1) := by decide +kernel
theorem dX8_readWord_101 : decode cX8_readWord 101 = .ok (.getfield 15, 3) := by decide +kernel
theorem dX8_readWord_104 : decode cX8_readWord 104 = .ok (.iload_n 1, 1) := by decide +kernel
theorem dX8_readWord_105 : decode cX8_readWord 105 = .ok (.iaload, 1) := by decide +kernel
theorem dX8_readWord_106 : decode cX8_readWord 106 = .ok (.aload_n 0, 1) := by decide +kernel
theorem dX8_readWord_107 : decode cX8_readWord 107 = .ok (.getfield 59, 3) := by decide +kernel
theorem dX8_readWord_110 : decode cX8_readWord 110 = .ok (.if_icmp .ne 8, 3) := by decide +kernel
theorem dX8_readWord_113 : decode cX8_readWord 113 = .ok (.aload_n 0, 1) := by decide +kernel
theorem dX8_readWord_114 : decode cX8_readWord 114 = .ok (.iload_n 1, 1) := by decide +kernel
theorem dX8_readWord_115 : decode cX8_readWord 115 = .ok (.putfield 62, 3) := by decide +kernel
theorem dX8_readWord_118 : decode cX8_readWord 118 = .ok (.iinc 1 1, 3) := by decide +kernel
theorem dX8_readWord_121 : decode cX8_readWord 121 = .ok (.goto (-27), 3) := by decide +kernel
theorem dX8_readWord_124 : decode cX8_readWord 124 = .ok (.return_, 1) := by decide +kernel
theorem dX8_readNumber_0 : decode cX8_readNumber 0 = .ok (.aload_n 0, 1) := by decide +kernel
theorem dX8_readNumber_1 : decode cX8_readNumber 1 = .ok (.bipush 37, 2) := by decide +kernel
theorem dX8_readNumber_3 : decode cX8_readNumber 3 = .ok (.putfield 62, 3) := by decide +kernel
theorem dX8_readNumber_6 : decode cX8_readNumber 6 = .ok (.aload_n 0, 1) := by decide +kernel
theorem dX8_readNumber_7 : decode cX8_readNumber 7 = .ok (.getfield 46, 3) := by decide +kernel
theorem dX8_readNumber_10 : decode cX8_readNumber 10 = .ok (.aload_n 0, 1) := by decide +kernel
theorem dX8_readNumber_11 : decode cX8_readNumber 11 = .ok (.getfield 43, 3) := by decide +kernel
theorem dX8_readNumber_14 : decode cX8_readNumber 14 = .ok (.if_icmp .ge 56, 3) := by decide +kernel
theorem dX8_readNumber_17 : decode cX8_readNumber 17 = .ok (.aload_n 0, 1) := by decide +kernel
theorem dX8_readNumber_18 : decode cX8_readNumber 18 = .ok (.bipush 48, 2) := by decide +kernel
theorem dX8_readNumber_20 : decode cX8_readNumber 20 = .ok (.bipush 57, 2) := by decide +kernel
theorem dX8_readNumber_22 : decode cX8_readNumber 22 = .ok (.invokevirtual 52, 3) := by decide +kernel
theorem dX8_readNumber_25 : decode cX8_readNumber 25 = .ok (.ifCond .eq 45, 3) := by decide +kernel
theorem dX8_readNumber_28 : decode cX8_readNumber 28 = .ok (.aload_n 0, 1) := by decide +kernel
theorem dX8_readNumber_29 : decode cX8_readNumber 29 = .ok (.ldc 74, 2) := by decide +kernel
theorem dX8_readNumber_31 : decode cX8_readNumber 31 = .ok (.aload_n 0, 1) := by decide +kernel
theorem dX8_readNumber_32 : decode cX8_readNumber 32 = .ok (.getfield 59, 3) := by decide +kernel
theorem dX8_readNumber_35 : decode cX8_readNumber 35 = .ok (.bipush 10, 2) := by decide +kernel
theorem dX8_readNumber_37 : decode cX8_readNumber 37 = .ok (.imul, 1) := by decide +kernel
theorem dX8_readNumber_38 : decode cX8_readNumber 38 = .ok (.aload_n 0, 1) := by decide +kernel
theorem dX8_readNumber_39 : decode cX8_readNumber 39 = .ok (.getfield 9, 3) := by decide +kernel
theorem dX8_readNumber_42 : decode cX8_readNumber 42 = .ok (.aload_n 0, 1) := by decide +kernel
theorem dX8_readNumber_43 : decode cX8_readNumber 43 = .ok (.getfield 46, 3) := by decide +kernel
theorem dX8_readNumber_46 : decode cX8_readNumber 46 = .ok (.iaload, 1) := by decide +kernel
theorem dX8_readNumber_47 : decode cX8_readNumber 47 = .ok (.iadd, 1) := by decide +kernel
theorem dX8_readNumber_48 : decode cX8_readNumber 48 = .ok (.bipush 48, 2) := by decide +kernel
theorem dX8_readNumber_50 : decode cX8_readNumber 50 = .ok (.isub, 1) := by decide +kernel
theorem dX8_readNumber_51 : decode cX8_readNumber 51 = .ok (.invokestatic 38, 3) := by decide +kernel
theorem dX8_readNumber_54 : decode cX8_readNumber 54 = .ok (.putfield 59, 3) := by decide +kernel
theorem dX8_readNumber_57 : decode cX8_readNumber 57 = .ok (.aload_n 0, 1) := by decide +kernel
theorem dX8_readNumber_58 : decode cX8_readNumber 58 = .ok (.dup, 1) := by decide +kernel
theorem dX8_readNumber_59 : decode cX8_readNumber 59 = .ok (.getfield 46, 3) := by decide +kernel
theorem dX8_readNumber_62 : decode cX8_readNumber 62 = .ok (.iconst 1, 1) := by decide +kernel
theorem dX8_readNumber_63 : decode cX8_readNumber 63 = .ok (.iadd, 1) := by decide +kernel
theorem dX8_readNumber_64 : decode cX8_readNumber 64 = .ok (.putfield 46, 3) := by decide +kernel
theorem dX8_readNumber_67 : decode cX8_readNumber 67 = .ok (.goto (-61), 3) := by decide +kernel
theorem dX8_readNumber_70 : decode cX8_readNumber 70 = .ok (.return_, 1) := by decide +kernel
theorem dX8_readSign_0 : decode cX8_readSign 0 = .ok (.iconst (-1), 1) := by decide +kernel
theorem dX8_readSign_1 : decode cX8_readSign 1 = .ok (.istore_n 1, 1) := by decide +kernel
theorem dX8_readSign_2 : decode cX8_readSign 2 = .ok (.aload_n 0, 1) := by decide +kernel
theorem dX8_readSign_3 : decode cX8_readSign 3 = .ok (.getfield 46, 3) := by decide +kernel
theorem dX8_readSign_6 : decode cX8_readSign 6 = .ok (.sipush 700, 3) := by decide +kernel
theorem dX8_readSign_9 : decode cX8_readSign 9 = .ok (.if_icmp .ge 19, 3) := by decide +kernel
theorem dX8_readSign_12 : decode cX8_readSign 12 = .ok (.ldc 75, 2) := by decide +kernel
theorem dX8_readSign_14 : decode cX8_readSign 14 = .ok (.aload_n 0, 1) := by decide +kernel
theorem dX8_readSign_15 : decode cX8_readSign 15 = .ok (.getfield 9, 3) := by decide +kernel
theorem dX8_readSign_18 : decode cX8_readSign 18 = .ok (.aload_n 0, 1) := by decide +kernel
theorem dX8_readSign_19 : decode cX8_readSign 19 = .ok (.getfield 46, 3) := by decide +kernel
theorem dX8_readSign_22 : decode cX8_readSign 22 = .ok (.iaload, 1) := by decide +kernel
theorem dX8_readSign_23 : decode cX8_readSign 23 = .ok (.i2c, 1) := by decide +kernel
theorem dX8_readSign_24 : decode cX8_readSign 24 = .ok (.invokevirtual 77, 3) := by decide +kernel
theorem dX8_readSign_27 : decode cX8_readSign 27 = .ok (.istore_n 1, 1) := by decide +kernel
theorem dX8_readSign_28 : decode cX8_readSign 28 = .ok (.aload_n 0, 1) := by decide +kernel
theorem dX8_readSign_29 : decode cX8_readSign 29 = .ok (.dup, 1) := by decide +kernel
theorem dX8_readSign_30 : decode cX8_readSign 30 = .ok (.getfield 46, 3) := by decide +kernel
theorem dX8_readSign_33 : decode cX8_readSign 33 = .ok (.iconst 1, 1) := by decide +kernel
theorem dX8_readSign_34 : decode cX8_readSign 34 = .ok (.iadd, 1) := by decide +kernel
theorem dX8_readSign_35 : decode cX8_readSign 35 = .ok (.putfield 46, 3) := by decide +kernel
theorem dX8_readSign_38 : decode cX8_readSign 38 = .ok (.aload_n 0, 1) := by decide +kernel
theorem dX8_readSign_39 : decode cX8_readSign 39 = .ok (.iload_n 1, 1) := by decide +kernel
theorem dX8_readSign_40 : decode cX8_readSign 40 = .ok (.ifCond .ge 8, 3) := by decide +kernel
theorem dX8_readSign_43 : decode cX8_readSign 43 = .ok (.bipush 40, 2) := by decide +kernel
theorem dX8_readSign_45 : decode cX8_readSign 45 = .ok (.goto 7, 3) := by decide +kernel
theorem dX8_readSign_48 : decode cX8_readSign 48 = .ok (.bipush 24, 2) := by decide +kernel
theorem dX8_readSign_50 : decode cX8_readSign 50 = .ok (.iload_n 1, 1) := by decide +kernel
theorem dX8_readSign_51 : decode cX8_readSign 51 = .ok (.iadd, 1) := by decide +kernel
theorem dX8_readSign_52 : decode cX8_readSign 52 = .ok (.putfield 62, 3) := by decide +kernel
theorem dX8_readSign_55 : decode cX8_readSign 55 = .ok (.aload_n 0, 1) := by decide +kernel
theorem dX8_readSign_56 : decode cX8_readSign 56 = .ok (.getfield 62, 3) := by decide +kernel
theorem dX8_readSign_59 : decode cX8_readSign 59 = .ok (.bipush 27, 2) := by decide +kernel
theorem dX8_readSign_61 : decode cX8_readSign 61 = .ok (.if_icmp .ne 33, 3) := by decide +kernel
theorem dX8_readSign_64 : decode cX8_readSign 64 = .ok (.aload_n 0, 1) := by decide +kernel
theorem dX8_readSign_65 : decode cX8_readSign 65 = .ok (.bipush 61, 2) := by decide +kernel
theorem dX8_readSign_67 : decode cX8_readSign 67 = .ok (.bipush 61, 2) := by decide +kernel
theorem dX8_readSign_69 : decode cX8_readSign 69 = .ok (.invokevirtual 52, 3) := by decide +kernel
theorem dX8_readSign_72 : decode cX8_readSign 72 = .ok (.ifCond .eq 22, 3) := by decide +kernel
theorem dX8_readSign_75 : decode cX8_readSign 75 = .ok (.aload_n 0, 1) := by decide +kernel
theorem dX8_readSign_76 : decode cX8_readSign 76 = .ok (.bipush 34, 2) := by decide +kernel
theorem dX8_readSign_78 : decode cX8_readSign 78 = .ok (.putfield 62, 3) := by decide +kernel
theorem dX8_readSign_81 : decode cX8_readSign 81 = .ok (.aload_n 0, 1) := by decide +kernel
theorem dX8_readSign_82 : decode cX8_readSign 82 = .ok (.dup, 1) := by decide +kernel
theorem dX8_readSign_83 : decode cX8_readSign 83 = .ok (.getfield 46, 3) := by decide +kernel
theorem dX8_readSign_86 : decode cX8_readSign 86 = .ok (.iconst 1, 1) := by decide +kernel
theorem dX8_readSign_87 : decode cX8_readSign 87 = .ok (.iadd, 1) := by decide +kernel
theorem dX8_readSign_88 : decode cX8_readSign 88 = .ok (.putfield 46, 3) := by decide +kernel
theorem dX8_readSign_91 : decode cX8_readSign 91 = .ok (.goto 78, 3) := by decide +kernel
theorem dX8_readSign_94 : decode cX8_readSign 94 = .ok (.aload_n 0, 1) := by decide +kernel
theorem dX8_readSign_95 : decode cX8_readSign 95 = .ok (.getfield 62, 3) := by decide +kernel
theorem dX8_readSign_98 : decode cX8_readSign 98 = .ok (.bipush 27, 2) := by decide +kernel
theorem dX8_readSign_100 : decode cX8_readSign 100 = .ok (.if_icmp .ne 33, 3) := by decide +kernel
theorem dX8_readSign_103 : decode cX8_readSign 103 = .ok (.aload_n 0, 1) := by decide +kernel
theorem dX8_readSign_104 : decode cX8_readSign 104 = .ok (.bipush 62, 2) := by decide +kernel
theorem dX8_readSign_106 : decode cX8_readSign 106 = .ok (.bipush 62, 2) := by decide +kernel
theorem dX8_readSign_108 : decode cX8_readSign 108 = .ok (.invokevirtual 52, 3) := by decide +kernel
theorem dX8_readSign_111 : decode cX8_readSign 111 = .ok (.ifCond .eq 22, 3) := by decide +kernel
theorem dX8_readSign_114 : decode cX8_readSign 114 = .ok (.aload_n 0, 1) := by decide +kernel
theorem dX8_readSign_115 : decode cX8_readSign 115 = .ok (.bipush 35, 2) := by decide +kernel
theorem dX8_readSign_117 : decode cX8_readSign 117 = .ok (.putfield 62, 3) := by decide +kernel
theorem dX8_readSign_120 : decode cX8_readSign 120 = .ok (.aload_n 0, 1) := by decide +kernel
theorem dX8_readSign_121 : decode cX8_readSign 121 = .ok (.dup, 1) := by decide +kernel
theorem dX8_readSign_122 : decode cX8_readSign 122 = .ok (.getfield 46, 3) := by decide +kernel
theorem dX8_readSign_125 : decode cX8_readSign 125 = .ok (.iconst 1, 1) := by decide +kernel
theorem dX8_readSign_126 : decode cX8_readSign 126 = .ok (.iadd, 1) := by decide +kernel
theorem dX8_readSign_127 : decode cX8_readSign 127 = .ok (.putfield 46, 3) := by decide +kernel
theorem dX8_readSign_130 : decode cX8_readSign 130 = .ok (.goto 39, 3) := by decide +kernel
theorem dX8_readSign_133 : decode cX8_readSign 133 = .ok (.aload_n 0, 1) := by decide +kernel
theorem dX8_readSign_134 : decode cX8_readSign 134 = .ok (.getfield 62, 3) := by decide +kernel
theorem dX8_readSign_137 : decode cX8_readSign 137 = .ok (.bipush 29, 2) := by decide +kernel
theorem dX8_readSign_139 : decode cX8_readSign 139 = .ok (.if_icmp .ne 30, 3) := by decide +kernel
theorem dX8_readSign_142 : decode cX8_readSign 142 = .ok (.aload_n 0, 1) := by decide +kernel
theorem dX8_readSign_143 : decode cX8_readSign 143 = .ok (.bipush 61, 2) := by decide +kernel
theorem dX8_readSign_145 : decode cX8_readSign 145 = .ok (.bipush 61, 2) := by decide +kernel
theorem dX8_readSign_147 : decode cX8_readSign 147 = .ok (.invokevirtual 52, 3) := by decide +kernel
theorem dX8_readSign_150 : decode cX8_readSign 150 = .ok (.ifCond .eq 19, 3) := by decide +kernel
theorem dX8_readSign_153 : decode cX8_readSign 153 = .ok (.aload_n 0, 1) := by decide +kernel
theorem dX8_readSign_154 : decode cX8_readSign 154 = .ok (.bipush 36, 2) := by decide +kernel
theorem dX8_readSign_156 : decode cX8_readSign 156 = .ok (.putfield 62, 3) := by decide +kernel
theorem dX8_readSign_159 : decode cX8_readSign 159 = .ok (.aload_n 0, 1) := by decide +kernel
theorem dX8_readSign_160 : decode cX8_readSign 160 = .ok (.dup, 1) := by decide +kernel
theorem dX8_readSign_161 : decode cX8_readSign 161 = .ok (.getfield 46, 3) := by decide +kernel
theorem dX8_readSign_164 : decode cX8_readSign 164 = .ok (.iconst 1, 1) := by decide +kernel
theorem dX8_readSign_165 : decode cX8_readSign 165 = .ok (.iadd, 1) := by decide +kernel
theorem dX8_readSign_166 : decode cX8_readSign 166 = .ok (.putfield 46, 3) := by decide +kernel
theorem dX8_readSign_169 : decode cX8_readSign 169 = .ok (.return_, 1) := by decide +kernel
theorem dX9_init_0 : decode cX9_init 0 = .ok (.aload_n 0, 1) := by decide +kernel
theorem dX9_init_1 : decode cX9_init 1 = .ok (.invokespecial 3, 3) := by decide +kernel
theorem dX9_init_4 : decode cX9_init 4 = .ok (.aload_n 0, 1) := by decide +kernel
theorem dX9_init_5 : decode cX9_init 5 = .ok (.bipush 20, 2) := by decide +kernel
theorem dX9_init_7 : decode cX9_init 7 = .ok (.anewarray 9, 3) := by decide +kernel
theorem dX9_init_10 : decode cX9_init 10 = .ok (.putfield 11, 3) := by decide +kernel
theorem dX9_init_13 : decode cX9_init 13 = .ok (.iconst 0, 1) := by decide +kernel
theorem dX9_init_14 : decode cX9_init 14 = .ok (.istore_n 1, 1) := by decide +kernel
theorem dX9_init_15 : decode cX9_init 15 = .ok (.iload_n 1, 1) := by decide +kernel
theorem dX9_init_16 : decode cX9_init 16 = .ok (.bipush 20, 2) := by decide +kernel
theorem dX9_init_18 : decode cX9_init 18 = .ok (.if_icmp .ge 22, 3) := by decide +kernel
theorem dX9_init_21 : decode cX9_init 21 = .ok (.aload_n 0, 1) := by decide +kernel
theorem dX9_init_22 : decode cX9_init 22 = .ok (.getfield 11, 3) := by decide +kernel
theorem dX9_init_25 : decode cX9_init 25 = .ok (.iload_n 1, 1) := by decide +kernel
theorem dX9_init_26 : decode cX9_init 26 = .ok (.new 9, 3) := by decide +kernel
theorem dX9_init_29 : decode cX9_init 29 = .ok (.dup, 1) := by decide +kernel
theorem dX9_init_30 : decode cX9_init 30 = .ok (.invokespecial 17, 3) := by decide +kernel
theorem dX9_init_33 : decode cX9_init 33 = .ok (.aastore, 1) := by decide +kernel
theorem dX9_init_34 : decode cX9_init 34 = .ok (.iinc 1 1, 3) := by decide +kernel
theorem dX9_init_37 : decode cX9_init 37 = .ok (.goto (-22), 3) := by decide +kernel
theorem dX9_init_40 : decode cX9_init 40 = .ok (.return_, 1) := by decide +kernel
theorem dX9_clear_0 : decode cX9_clear 0 = .ok (.aload_n 0, 1) := by decide +kernel
theorem dX9_clear_1 : decode cX9_clear 1 = .ok (.iconst 0, 1) := by decide +kernel
theorem dX9_clear_2 : decode cX9_clear 2 = .ok (.putfield 18, 3) := by decide +kernel
theorem dX9_clear_5 : decode cX9_clear 5 = .ok (.aload_n 0, 1) := by decide +kernel
theorem dX9_clear_6 : decode cX9_clear 6 = .ok (.iconst 0, 1) := by decide +kernel
theorem dX9_clear_7 : decode cX9_clear 7 = .ok (.putfield 22, 3) := by decide +kernel
theorem dX9_clear_10 : decode cX9_clear 10 = .ok (.return_, 1) := by decide +kernel
theorem dX9_remember_0 : decode cX9_remember 0 = .ok (.aload_n 0, 1) := by decide +kernel
theorem dX9_remember_1 : decode cX9_remember 1 = .ok (.getfield 22, 3) := by decide +kernel
theorem dX9_remember_4 : decode cX9_remember 4 = .ok (.bipush 20, 2) := by decide +kernel
theorem dX9_remember_6 : decode cX9_remember 6 = .ok (.if_icmp .ne 26, 3) := by decide +kernel
theorem dX9_remember_9 : decode cX9_remember 9 = .ok (.aload_n 0, 1) := by decide +kernel
theorem dX9_remember_10 : decode cX9_remember 10 = .ok (.aload_n 0, 1) := by decide +kernel
theorem dX9_remember_11 : decode cX9_remember 11 = .ok (.getfield 18, 3) := by decide +kernel
theorem dX9_remember_14 : decode cX9_remember 14 = .ok (.iconst 1, 1) := by decide +kernel
theorem dX9_remember_15 : decode cX9_remember 15 = .ok (.iadd, 1) := by decide +kernel
theorem dX9_remember_16 : decode cX9_remember 16 = .ok (.bipush 20, 2) := by decide +kernel
theorem dX9_remember_18 : decode cX9_remember 18 = .ok (.irem, 1) := by decide +kernel
theorem dX9_remember_19 : decode cX9_remember 19 = .ok (.putfield 18, 3) := by decide +kernel
theorem dX9_remember_22 : decode cX9_remember 22 = .ok (.aload_n 0, 1) := by decide +kernel
theorem dX9_remember_23 : decode cX9_remember 23 = .ok (.dup, 1) := by decide +kernel
theorem dX9_remember_24 : decode cX9_remember 24 = .ok (.getfield 22, 3) := by decide +kernel
theorem dX9_remember_27 : decode cX9_remember 27 = .ok (.iconst 1, 1) := by decide +kernel
theorem dX9_remember_28 : decode cX9_remember 28 = .ok (.isub, 1) := by decide +kernel
theorem dX9_remember_29 : decode cX9_remember 29 = .ok (.putfield 22, 3) := by decide +kernel
theorem dX9_remember_32 : decode cX9_remember 32 = .ok (.aload_n 0, 1) := by decide +kernel
theorem dX9_remember_33 : decode cX9_remember 33 = .ok (.getfield 11, 3) := by decide +kernel
theorem dX9_remember_36 : decode cX9_remember 36 = .ok (.aload_n 0, 1) := by decide +kernel
theorem dX9_remember_37 : decode cX9_remember 37 = .ok (.getfield 18, 3) := by decide +kernel
theorem dX9_remember_40 : decode cX9_remember 40 = .ok (.aload_n 0, 1) := by decide +kernel
theorem dX9_remember_41 : decode cX9_remember 41 = .ok (.getfield 22, 3) := by decide +kernel
theorem dX9_remember_44 : decode cX9_remember 44 = .ok (.iadd, 1) := by decide +kernel
theorem dX9_remember_45 : decode cX9_remember 45 = .ok (.bipush 20, 2) := by decide +kernel
theorem dX9_remember_47 : decode cX9_remember 47 = .ok (.irem, 1) := by decide +kernel
theorem dX9_remember_48 : decode cX9_remember 48 = .ok (.aaload, 1) := by decide +kernel
theorem dX9_remember_49 : decode cX9_remember 49 = .ok (.aload_n 1, 1) := by decide +kernel
theorem dX9_remember_50 : decode cX9_remember 50 = .ok (.invokevirtual 25, 3) := by decide +kernel
theorem dX9_remember_53 : decode cX9_remember 53 = .ok (.aload_n 0, 1) := by decide +kernel
theorem dX9_remember_54 : decode cX9_remember 54 = .ok (.dup, 1) := by decide +kernel
theorem dX9_remember_55 : decode cX9_remember 55 = .ok (.getfield 22, 3) := by decide +kernel
theorem dX9_remember_58 : decode cX9_remember 58 = .ok (.iconst 1, 1) := by decide +kernel
theorem dX9_remember_59 : decode cX9_remember 59 = .ok (.iadd, 1) := by decide +kernel
theorem dX9_remember_60 : decode cX9_remember 60 = .ok (.putfield 22, 3) := by decide +kernel
theorem dX9_remember_63 : decode cX9_remember 63 = .ok (.return_, 1) := by decide +kernel
theorem dX9_takeBack_0 : decode cX9_takeBack 0 = .ok (.aload_n 0, 1) := by decide +kernel
theorem dX9_takeBack_1 : decode cX9_takeBack 1 = .ok (.getfield 22, 3) := by decide +kernel
theorem dX9_takeBack_4 : decode cX9_takeBack 4 = .ok (.ifCond .ne 5, 3) := by decide +kernel
theorem dX9_takeBack_7 : decode cX9_takeBack 7 = .ok (.iconst (-1), 1) := by decide +kernel
theorem dX9_takeBack_8 : decode cX9_takeBack 8 = .ok (.ireturn, 1) := by decide +kernel
theorem dX9_takeBack_9 : decode cX9_takeBack 9 = .ok (.aload_n 0, 1) := by decide +kernel
theorem dX9_takeBack_10 : decode cX9_takeBack 10 = .ok (.dup, 1) := by decide +kernel
theorem dX9_takeBack_11 : decode cX9_takeBack 11 = .ok (.getfield 22, 3) := by decide +kernel
theorem dX9_takeBack_14 : decode cX9_takeBack 14 = .ok (.iconst 1, 1) := by decide +kernel
theorem dX9_takeBack_15 : decode cX9_takeBack 15 = .ok (.isub, 1) := by decide +kernel
theorem dX9_takeBack_16 : decode cX9_takeBack 16 = .ok (.putfield 22, 3) := by decide +kernel
theorem dX9_takeBack_19 : decode cX9_takeBack 19 = .ok (.aload_n 1, 1) := by decide +kernel
theorem dX9_takeBack_20 : decode cX9_takeBack 20 = .ok (.aload_n 0, 1) := by decide +kernel
theorem dX9_takeBack_21 : decode cX9_takeBack 21 = .ok (.getfield 11, 3) := by decide +kernel
theorem dX9_takeBack_24 : decode cX9_takeBack 24 = .ok (.aload_n 0, 1) := by decide +kernel
theorem dX9_takeBack_25 : decode cX9_takeBack 25 = .ok (.getfield 18, 3) := by decide +kernel
theorem dX9_takeBack_28 : decode cX9_takeBack 28 = .ok (.aload_n 0, 1) := by decide +kernel
theorem dX9_takeBack_29 : decode cX9_takeBack 29 = .ok (.getfield 22, 3) := by decide +kernel
theorem dX9_takeBack_32 : decode cX9_takeBack 32 = .ok (.iadd, 1) := by decide +kernel
theorem dX9_takeBack_33 : decode cX9_takeBack 33 = .ok (.bipush 20, 2) := by decide +kernel
theorem dX9_takeBack_35 : decode cX9_takeBack 35 = .ok (.irem, 1) := by decide +kernel
theorem dX9_takeBack_36 : decode cX9_takeBack 36 = .ok (.aaload, 1) := by decide +kernel
theorem dX9_takeBack_37 : decode cX9_takeBack 37 = .ok (.invokevirtual 25, 3) := by decide +kernel
theorem dX9_takeBack_40 : decode cX9_takeBack 40 = .ok (.aload_n 0, 1) := by decide +kernel
theorem dX9_takeBack_41 : decode cX9_takeBack 41 = .ok (.getfield 22, 3) := by decide +kernel
theorem dX9_takeBack_44 : decode cX9_takeBack 44 = .ok (.ireturn, 1) := by decide +kernel
theorem dX10_init_0 : decode cX10_init 0 = .ok (.aload_n 0, 1) := by decide +kernel
theorem dX10_init_1 : decode cX10_init 1 = .ok (.invokespecial 3, 3) := by decide +kernel
theorem dX10_init_4 : decode cX10_init 4 = .ok (.aload_n 0, 1) := by decide +kernel
theorem dX10_init_5 : decode cX10_init 5 = .ok (.new 9, 3) := by decide +kernel
theorem dX10_init_8 : decode cX10_init 8 = .ok (.dup, 1) := by decide +kernel
theorem dX10_init_9 : decode cX10_init 9 = .ok (.invokespecial 11, 3) := by decide +kernel
theorem dX10_init_12 : decode cX10_init 12 = .ok (.putfield 12, 3) := by decide +kernel
theorem dX10_init_15 : decode cX10_init 15 = .ok (.aload_n 0, 1) := by decide +kernel
theorem dX10_init_16 : decode cX10_init 16 = .ok (.new 18, 3) := by decide +kernel
theorem dX10_init_19 : decode cX10_init 19 = .ok (.dup, 1) := by decide +kernel
theorem dX10_init_20 : decode cX10_init 20 = .ok (.invokespecial 20, 3) := by decide +kernel
theorem dX10_init_23 : decode cX10_init 23 = .ok (.putfield 21, 3) := by decide +kernel
theorem dX10_init_26 : decode cX10_init 26 = .ok (.aload_n 0, 1) := by decide +kernel
theorem dX10_init_27 : decode cX10_init 27 = .ok (.new 25, 3) := by decide +kernel
theorem dX10_init_30 : decode cX10_init 30 = .ok (.dup, 1) := by decide +kernel
theorem dX10_init_31 : decode cX10_init 31 = .ok (.invokespecial 27, 3) := by decide +kernel
theorem dX10_init_34 : decode cX10_init 34 = .ok (.putfield 28, 3) := by decide +kernel
theorem dX10_init_37 : decode cX10_init 37 = .ok (.aload_n 0, 1) := by decide +kernel
theorem dX10_init_38 : decode cX10_init 38 = .ok (.new 25, 3) := by decide +kernel
theorem dX10_init_41 : decode cX10_init 41 = .ok (.dup, 1) := by decide +kernel
theorem dX10_init_42 : decode cX10_init 42 = .ok (.invokespecial 27, 3) := by decide +kernel
theorem dX10_init_45 : decode cX10_init 45 = .ok (.putfield 32, 3) := by decide +kernel
theorem dX10_init_48 : decode cX10_init 48 = .ok (.aload_n 0, 1) := by decide +kernel
theorem dX10_init_49 : decode cX10_init 49 = .ok (.new 25, 3) := by decide +kernel
theorem dX10_init_52 : decode cX10_init 52 = .ok (.dup, 1) := by decide +kernel
theorem dX10_init_53 : decode cX10_init 53 = .ok (.invokespecial 27, 3) := by decide +kernel
theorem dX10_init_56 : decode cX10_init 56 = .ok (.putfield 35, 3) := by decide +kernel
theorem dX10_init_59 : decode cX10_init 59 = .ok (.aload_n 0, 1) := by decide +kernel
theorem dX10_init_60 : decode cX10_init 60 = .ok (.new 38, 3) := by decide +kernel
theorem dX10_init_63 : decode cX10_init 63 = .ok (.dup, 1) := by decide +kernel
theorem dX10_init_64 : decode cX10_init 64 = .ok (.invokespecial 40, 3) := by decide +kernel
theorem dX10_init_67 : decode cX10_init 67 = .ok (.putfield 41, 3) := by decide +kernel
theorem dX10_init_70 : decode cX10_init 70 = .ok (.aload_n 0, 1) := by decide +kernel
theorem dX10_init_71 : decode cX10_init 71 = .ok (.new 45, 3) := by decide +kernel
theorem dX10_init_74 : decode cX10_init 74 = .ok (.dup, 1) := by decide +kernel
theorem dX10_init_75 : decode cX10_init 75 = .ok (.invokespecial 47, 3) := by decide +kernel
theorem dX10_init_78 : decode cX10_init 78 = .ok (.putfield 48, 3) := by decide +kernel
theorem dX10_init_81 : decode cX10_init 81 = .ok (.aload_n 0, 1) := by decide +kernel
theorem dX10_init_82 : decode cX10_init 82 = .ok (.new 52, 3) := by decide +kernel
theorem dX10_init_85 : decode cX10_init 85 = .ok (.dup, 1) := by decide +kernel
theorem dX10_init_86 : decode cX10_init 86 = .ok (.invokespecial 54, 3) := by decide +kernel
theorem dX10_init_89 : decode cX10_init 89 = .ok (.putfield 55, 3) := by decide +kernel
theorem dX10_init_92 : decode cX10_init 92 = .ok (.aload_n 0, 1) := by decide +kernel
theorem dX10_init_93 : decode cX10_init 93 = .ok (.new 59, 3) := by decide +kernel
theorem dX10_init_96 : decode cX10_init 96 = .ok (.dup, 1) := by decide +kernel
theorem dX10_init_97 : decode cX10_init 97 = .ok (.invokespecial 61, 3) := by decide +kernel
theorem dX10_init_100 : decode cX10_init 100 = .ok (.putfield 62, 3) := by decide +kernel
theorem dX10_init_103 : decode cX10_init 103 = .ok (.return_, 1) := by decide +kernel
theorem dX10_feed_0 : decode cX10_feed 0 = .ok (.aload_n 0, 1) := by decide +kernel
theorem dX10_feed_1 : decode cX10_feed 1 = .ok (.getfield 12, 3) := by decide +kernel
theorem dX10_feed_4 : decode cX10_feed 4 = .ok (.getfield 66, 3) := by decide +kernel
theorem dX10_feed_7 : decode cX10_feed 7 = .ok (.astore 6, 2) := by decide +kernel
theorem dX10_feed_9 : decode cX10_feed 9 = .ok (.aload 6, 2) := by decide +kernel
theorem dX10_feed_11 : decode cX10_feed 11 = .ok (.getfield 70, 3) := by decide +kernel
theorem dX10_feed_14 : decode cX10_feed 14 = .ok (.bipush 20, 2) := by decide +kernel
theorem dX10_feed_16 : decode cX10_feed 16 = .ok (.iadd, 1) := by decide +kernel
theorem dX10_feed_17 : decode cX10_feed 17 = .ok (.sipush 700, 3) := by decide +kernel
theorem dX10_feed_20 : decode cX10_feed 20 = .ok (.if_icmp .le 5, 3) := by decide +kernel
theorem dX10_feed_23 : decode cX10_feed 23 = .ok (.iconst (-1), 1) := by decide +kernel
theorem dX10_feed_24 : decode cX10_feed 24 = .ok (.ireturn, 1) := by decide +kernel
theorem dX10_feed_25 : decode cX10_feed 25 = .ok (.aload 6, 2) := by decide +kernel
theorem dX10_feed_27 : decode cX10_feed 27 = .ok (.iload_n 1, 1) := by decide +kernel
theorem dX10_feed_28 : decode cX10_feed 28 = .ok (.invokevirtual 76, 3) := by decide +kernel
theorem dX10_feed_31 : decode cX10_feed 31 = .ok (.aload 6, 2) := by decide +kernel
theorem dX10_feed_33 : decode cX10_feed 33 = .ok (.iload_n 2, 1) := by decide +kernel
theorem dX10_feed_34 : decode cX10_feed 34 = .ok (.invokevirtual 76, 3) := by decide +kernel
theorem dX10_feed_37 : decode cX10_feed 37 = .ok (.aload 6, 2) := by decide +kernel
theorem dX10_feed_39 : decode cX10_feed 39 = .ok (.iload_n 3, 1) := by decide +kernel
theorem dX10_feed_40 : decode cX10_feed 40 = .ok (.invokevirtual 76, 3) := by decide +kernel
theorem dX10_feed_43 : decode cX10_feed 43 = .ok (.aload 6, 2) := by decide +kernel
theorem dX10_feed_45 : decode cX10_feed 45 = .ok (.iload 4, 2) := by decide +kernel
theorem dX10_feed_47 : decode cX10_feed 47 = .ok (.invokevirtual 76, 3) := by decide +kernel
theorem dX10_feed_50 : decode cX10_feed 50 = .ok (.aload 6, 2) := by decide +kernel
theorem dX10_feed_52 : decode cX10_feed 52 = .ok (.iload 5, 2) := by decide +kernel
theorem dX10_feed_54 : decode cX10_feed 54 = .ok (.invokevirtual 76, 3) := by decide +kernel
theorem dX10_feed_57 : decode cX10_feed 57 = .ok (.aload 6, 2) := by decide +kernel
theorem dX10_feed_59 : decode cX10_feed 59 = .ok (.getfield 70, 3) := by decide +kernel
theorem dX10_feed_62 : decode cX10_feed 62 = .ok (.ireturn, 1) := by decide +kernel
theorem dX10_text_0 : decode cX10_text 0 = .ok (.iload_n 1, 1) := by decide +kernel
theorem dX10_text_1 : decode cX10_text 1 = .ok (.ifCond .lt 17, 3) := by decide +kernel
theorem dX10_text_4 : decode cX10_text 4 = .ok (.iload_n 1, 1) := by decide +kernel
theorem dX10_text_5 : decode cX10_text 5 = .ok (.aload_n 0, 1) := by decide +kernel
theorem dX10_text_6 : decode cX10_text 6 = .ok (.getfield 12, 3) := by decide +kernel
theorem dX10_text_9 : decode cX10_text 9 = .ok (.getfield 66, 3) := by decide +kernel
theorem dX10_text_12 : decode cX10_text 12 = .ok (.getfield 70, 3) := by decide +kernel
theorem dX10_text_15 : decode cX10_text 15 = .ok (.if_icmp .le 6, 3) := by decide +kernel
theorem dX10_text_18 : decode cX10_text 18 = .ok (.bipush (-2), 2) := by decide +kernel
theorem dX10_text_20 : decode cX10_text 20 = .ok (.ireturn, 1) := by decide +kernel
theorem dX10_text_21 : decode cX10_text 21 = .ok (.aload_n 0, 1) := by decide +kernel
theorem dX10_text_22 : decode cX10_text 22 = .ok (.getfield 12, 3) := by decide +kernel
theorem dX10_text_25 : decode cX10_text 25 = .ok (.iload_n 1, 1) := by decide +kernel
theorem dX10_text_26 : decode cX10_text 26 = .ok (.invokevirtual 80, 3) := by decide +kernel
theorem dX10_text_29 : decode cX10_text 29 = .ok (.istore_n 2, 1) := by decide +kernel
theorem dX10_text_30 : decode cX10_text 30 = .ok (.aload_n 0, 1) := by decide +kernel
theorem dX10_text_31 : decode cX10_text 31 = .ok (.getfield 12, 3) := by decide +kernel
theorem dX10_text_34 : decode cX10_text 34 = .ok (.getfield 66, 3) := by decide +kernel
theorem dX10_text_37 : decode cX10_text 37 = .ok (.iconst 0, 1) := by decide +kernel
theorem dX10_text_38 : decode cX10_text 38 = .ok (.putfield 70, 3) := by decide +kernel
theorem dX10_text_41 : decode cX10_text 41 = .ok (.iload_n 2, 1) := by decide +kernel
theorem dX10_text_42 : decode cX10_text 42 = .ok (.ifCond .ne 5, 3) := by decide +kernel
theorem dX10_text_45 : decode cX10_text 45 = .ok (.iconst (-1), 1) := by decide +kernel
theorem dX10_text_46 : decode cX10_text 46 = .ok (.ireturn, 1) := by decide +kernel
theorem dX10_text_47 : decode cX10_text 47 = .ok (.aload_n 0, 1) := by decide +kernel
theorem dX10_text_48 : decode cX10_text 48 = .ok (.getfield 21, 3) := by decide +kernel
theorem dX10_text_51 : decode cX10_text 51 = .ok (.astore_n 3, 1) := by decide +kernel
theorem dX10_text_52 : decode cX10_text 52 = .ok (.aload_n 0, 1) := by decide +kernel
theorem dX10_text_53 : decode cX10_text 53 = .ok (.aload_n 0, 1) := by decide +kernel
theorem dX10_text_54 : decode cX10_text 54 = .ok (.getfield 12, 3) := by decide +kernel
theorem dX10_text_57 : decode cX10_text 57 = .ok (.getfield 84, 3) := by decide +kernel
theorem dX10_text_60 : decode cX10_text 60 = .ok (.putfield 21, 3) := by decide +kernel
theorem dX10_text_63 : decode cX10_text 63 = .ok (.aload_n 0, 1) := by decide +kernel
theorem dX10_text_64 : decode cX10_text 64 = .ok (.getfield 12, 3) := by decide +kernel
theorem dX10_text_67 : decode cX10_text 67 = .ok (.aload_n 3, 1) := by decide +kernel
theorem dX10_text_68 : decode cX10_text 68 = .ok (.putfield 84, 3) := by decide +kernel
theorem dX10_text_71 : decode cX10_text 71 = .ok (.aload_n 0, 1) := by decide +kernel
theorem dX10_text_72 : decode cX10_text 72 = .ok (.getfield 28, 3) := by decide +kernel
theorem dX10_text_75 : decode cX10_text 75 = .ok (.aload_n 0, 1) := by decide +kernel
theorem dX10_text_76 : decode cX10_text 76 = .ok (.getfield 21, 3) := by decide +kernel
theorem dX10_text_79 : decode cX10_text 79 = .ok (.invokevirtual 85, 3) := by decide +kernel
theorem dX10_text_82 : decode cX10_text 82 = .ok (.aload_n 0, 1) := by decide +kernel
theorem dX10_text_83 : decode cX10_text 83 = .ok (.getfield 62, 3) := by decide +kernel
theorem dX10_text_86 : decode cX10_text 86 = .ok (.invokevirtual 89, 3) := by decide +kernel
theorem dX10_text_89 : decode cX10_text 89 = .ok (.aload_n 0, 1) := by decide +kernel
theorem dX10_text_90 : decode cX10_text 90 = .ok (.getfield 48, 3) := by decide +kernel
theorem dX10_text_93 : decode cX10_text 93 = .ok (.invokevirtual 92, 3) := by decide +kernel
theorem dX10_text_96 : decode cX10_text 96 = .ok (.aload_n 0, 1) := by decide +kernel
theorem dX10_text_97 : decode cX10_text 97 = .ok (.iconst 0, 1) := by decide +kernel
theorem dX10_text_98 : decode cX10_text 98 = .ok (.putfield 93, 3) := by decide +kernel
theorem dX10_text_101 : decode cX10_text 101 = .ok (.aload_n 0, 1) := by decide +kernel
theorem dX10_text_102 : decode cX10_text 102 = .ok (.getfield 21, 3) := by decide +kernel
theorem dX10_text_105 : decode cX10_text 105 = .ok (.getfield 97, 3) := by decide +kernel
theorem dX10_text_108 : decode cX10_text 108 = .ok (.ireturn, 1) := by decide +kernel
theorem dX10_fault_0 : decode cX10_fault 0 = .ok (.iload_n 1, 1) := by decide +kernel
theorem dX10_fault_1 : decode cX10_fault 1 = .ok (.ifCond .ne 11, 3) := by decide +kernel
theorem dX10_fault_4 : decode cX10_fault 4 = .ok (.aload_n 0, 1) := by decide +kernel
theorem dX10_fault_5 : decode cX10_fault 5 = .ok (.getfield 12, 3) := by decide +kernel
theorem dX10_fault_8 : decode cX10_fault 8 = .ok (.getfield 100, 3) := by decide +kernel
theorem dX10_fault_11 : decode cX10_fault 11 = .ok (.ireturn, 1) := by decide +kernel
theorem dX10_fault_12 : decode cX10_fault 12 = .ok (.iload_n 1, 1) := by decide +kernel
theorem dX10_fault_13 : decode cX10_fault 13 = .ok (.iconst 1, 1) := by decide +kernel
theorem dX10_fault_14 : decode cX10_fault 14 = .ok (.if_icmp .ne 13, 3) := by decide +kernel
theorem dX10_fault_17 : decode cX10_fault 17 = .ok (.aload_n 0, 1) := by decide +kernel
theorem dX10_fault_18 : decode cX10_fault 18 = .ok (.getfield 12, 3) := by decide +kernel
theorem dX10_fault_21 : decode cX10_fault 21 = .ok (.getfield 103, 3) := by decide +kernel
theorem dX10_fault_24 : decode cX10_fault 24 = .ok (.goto 4, 3) := by decide +kernel
theorem dX10_fault_27 : decode cX10_fault 27 = .ok (.iconst (-1), 1) := by decide +kernel
theorem dX10_fault_28 : decode cX10_fault 28 = .ok (.ireturn, 1) := by decide +kernel
theorem dX10_named_0 : decode cX10_named 0 = .ok (.aload_n 0, 1) := by decide +kernel
theorem dX10_named_1 : decode cX10_named 1 = .ok (.getfield 21, 3) := by decide +kernel
theorem dX10_named_4 : decode cX10_named 4 = .ok (.iload_n 1, 1) := by decide +kernel
theorem dX10_named_5 : decode cX10_named 5 = .ok (.invokevirtual 106, 3) := by decide +kernel
theorem dX10_named_8 : decode cX10_named 8 = .ok (.ireturn, 1) := by decide +kernel
theorem dX10_latch_0 : decode cX10_latch 0 = .ok (.aload_n 0, 1) := by decide +kernel
theorem dX10_latch_1 : decode cX10_latch 1 = .ok (.getfield 21, 3) := by decide +kernel
theorem dX10_latch_4 : decode cX10_latch 4 = .ok (.iload_n 1, 1) := by decide +kernel
theorem dX10_latch_5 : decode cX10_latch 5 = .ok (.invokevirtual 110, 3) := by decide +kernel
theorem dX10_latch_8 : decode cX10_latch 8 = .ok (.ifCond .ne 13, 3) := by decide +kernel
theorem dX10_latch_11 : decode cX10_latch 11 = .ok (.new 113, 3) := by decide +kernel
theorem dX10_latch_14 : decode cX10_latch 14 = .ok (.dup, 1) := by decide +kernel
theorem dX10_latch_15 : decode cX10_latch 15 = .ok (.ldc 115, 2) := by decide +kernel
theorem dX10_latch_17 : decode cX10_latch 17 = .ok (.invokespecial 117, 3) := by decide +kernel
theorem dX10_latch_20 : decode cX10_latch 20 = .ok (.athrow, 1) := by decide +kernel
theorem dX10_latch_21 : decode cX10_latch 21 = .ok (.iload_n 2, 1) := by decide +kernel
theorem dX10_latch_22 : decode cX10_latch 22 = .ok (.tableswitch 90 0 3 #[30, 42, 54, 80], 30) := by decide +kernel
theorem dX10_latch_52 : decode cX10_latch 52 = .ok (.aload_n 0, 1) := by decide +kernel
theorem dX10_latch_53 : decode cX10_latch 53 = .ok (.getfield 28, 3) := by decide +kernel
theorem dX10_latch_56 : decode cX10_latch 56 = .ok (.getfield 120, 3) := by decide +kernel
theorem dX10_latch_59 : decode cX10_latch 59 = .ok (.iload_n 1, 1) := by decide +kernel
theorem dX10_latch_60 : decode cX10_latch 60 = .ok (.ishr, 1) := by decide +kernel
theorem dX10_latch_61 : decode cX10_latch 61 = .ok (.iconst 1, 1) := by decide +kernel
theorem dX10_latch_62 : decode cX10_latch 62 = .ok (.iand, 1) := by decide +kernel
theorem dX10_latch_63 : decode cX10_latch 63 = .ok (.ireturn, 1) := by decide +kernel
theorem dX10_latch_64 : decode cX10_latch 64 = .ok (.aload_n 0, 1) := by decide +kernel
theorem dX10_latch_65 : decode cX10_latch 65 = .ok (.getfield 28, 3) := by decide +kernel
theorem dX10_latch_68 : decode cX10_latch 68 = .ok (.getfield 123, 3) := by decide +kernel
theorem dX10_latch_71 : decode cX10_latch 71 = .ok (.iload_n 1, 1) := by decide +kernel
theorem dX10_latch_72 : decode cX10_latch 72 = .ok (.ishr, 1) := by decide +kernel
theorem dX10_latch_73 : decode cX10_latch 73 = .ok (.iconst 1, 1) := by decide +kernel
theorem dX10_latch_74 : decode cX10_latch 74 = .ok (.iand, 1) := by decide +kernel
theorem dX10_latch_75 : decode cX10_latch 75 = .ok (.ireturn, 1) := by decide +kernel
theorem dX10_latch_76 : decode cX10_latch 76 = .ok (.aload_n 0, 1) := by decide +kernel
theorem dX10_latch_77 : decode cX10_latch 77 = .ok (.getfield 21, 3) := by decide +kernel
theorem dX10_latch_80 : decode cX10_latch 80 = .ok (.aload_n 0, 1) := by decide +kernel
theorem dX10_latch_81 : decode cX10_latch 81 = .ok (.getfield 28, 3) := by decide +kernel
theorem dX10_latch_84 : decode cX10_latch 84 = .ok (.getfield 120, 3) := by decide +kernel
theorem dX10_latch_87 : decode cX10_latch 87 = .ok (.aload_n 0, 1) := by decide +kernel
theorem dX10_latch_88 : decode cX10_latch 88 = .ok (.getfield 28, 3) := by decide +kernel
theorem dX10_latch_91 : decode cX10_latch 91 = .ok (.getfield 123, 3) := by decide +kernel
theorem dX10_latch_94 : decode cX10_latch 94 = .ok (.invokevirtual 126, 3) := by decide +kernel
theorem dX10_latch_97 : decode cX10_latch 97 = .ok (.iload_n 1, 1) := by decide +kernel
theorem dX10_latch_98 : decode cX10_latch 98 = .ok (.ishr, 1) := by decide +kernel
theorem dX10_latch_99 : decode cX10_latch 99 = .ok (.iconst 1, 1) := by decide +kernel
theorem dX10_latch_100 : decode cX10_latch 100 = .ok (.iand, 1) := by decide +kernel
theorem dX10_latch_101 : decode cX10_latch 101 = .ok (.ireturn, 1) := by decide +kernel
theorem dX10_latch_102 : decode cX10_latch 102 = .ok (.aload_n 0, 1) := by decide +kernel
theorem dX10_latch_103 : decode cX10_latch 103 = .ok (.getfield 28, 3) := by decide +kernel
theorem dX10_latch_106 : decode cX10_latch 106 = .ok (.getfield 130, 3) := by decide +kernel
theorem dX10_latch_109 : decode cX10_latch 109 = .ok (.iload_n 1, 1) := by decide +kernel
theorem dX10_latch_110 : decode cX10_latch 110 = .ok (.iaload, 1) := by decide +kernel
theorem dX10_latch_111 : decode cX10_latch 111 = .ok (.ireturn, 1) := by decide +kernel
theorem dX10_latch_112 : decode cX10_latch 112 = .ok (.new 134, 3) := by decide +kernel
theorem dX10_latch_115 : decode cX10_latch 115 = .ok (.dup, 1) := by decide +kernel
theorem dX10_latch_116 : decode cX10_latch 116 = .ok (.ldc 136, 2) := by decide +kernel
theorem dX10_latch_118 : decode cX10_latch 118 = .ok (.invokespecial 138, 3) := by decide +kernel
theorem dX10_latch_121 : decode cX10_latch 121 = .ok (.athrow, 1) := by decide +kernel
theorem dX10_row_0 : decode cX10_row 0 = .ok (.iload_n 1, 1) := by decide +kernel
theorem dX10_row_1 : decode cX10_row 1 = .ok (.tableswitch 65 0 2 #[27, 35, 43], 27) := by decide +kernel
theorem dX10_row_28 : decode cX10_row 28 = .ok (.aload_n 0, 1) := by decide +kernel
theorem dX10_row_29 : decode cX10_row 29 = .ok (.getfield 28, 3) := by decide +kernel
theorem dX10_row_32 : decode cX10_row 32 = .ok (.getfield 120, 3) := by decide +kernel
theorem dX10_row_35 : decode cX10_row 35 = .ok (.ireturn, 1) := by decide +kernel
theorem dX10_row_36 : decode cX10_row 36 = .ok (.aload_n 0, 1) := by decide +kernel
theorem dX10_row_37 : decode cX10_row 37 = .ok (.getfield 28, 3) := by decide +kernel
theorem dX10_row_40 : decode cX10_row 40 = .ok (.getfield 123, 3) := by decide +kernel
theorem dX10_row_43 : decode cX10_row 43 = .ok (.ireturn, 1) := by decide +kernel
theorem dX10_row_44 : decode cX10_row 44 = .ok (.aload_n 0, 1) := by decide +kernel
theorem dX10_row_45 : decode cX10_row 45 = .ok (.getfield 21, 3) := by decide +kernel
theorem dX10_row_48 : decode cX10_row 48 = .ok (.aload_n 0, 1) := by decide +kernel
theorem dX10_row_49 : decode cX10_row 49 = .ok (.getfield 28, 3) := by decide +kernel
theorem dX10_row_52 : decode cX10_row 52 = .ok (.getfield 120, 3) := by decide +kernel
theorem dX10_row_55 : decode cX10_row 55 = .ok (.aload_n 0, 1) := by decide +kernel
theorem dX10_row_56 : decode cX10_row 56 = .ok (.getfield 28, 3) := by decide +kernel
theorem dX10_row_59 : decode cX10_row 59 = .ok (.getfield 123, 3) := by decide +kernel
theorem dX10_row_62 : decode cX10_row 62 = .ok (.invokevirtual 126, 3) := by decide +kernel
theorem dX10_row_65 : decode cX10_row 65 = .ok (.ireturn, 1) := by decide +kernel
theorem dX10_row_66 : decode cX10_row 66 = .ok (.iconst (-1), 1) := by decide +kernel
theorem dX10_row_67 : decode cX10_row 67 = .ok (.ireturn, 1) := by decide +kernel
theorem dX10_could_0 : decode cX10_could 0 = .ok (.aload_n 0, 1) := by decide +kernel
theorem dX10_could_1 : decode cX10_could 1 = .ok (.getfield 21, 3) := by decide +kernel
theorem dX10_could_4 : decode cX10_could 4 = .ok (.iload_n 1, 1) := by decide +kernel
theorem dX10_could_5 : decode cX10_could 5 = .ok (.invokevirtual 139, 3) := by decide +kernel
theorem dX10_could_8 : decode cX10_could 8 = .ok (.ifCond .eq 14, 3) := by decide +kernel
theorem dX10_could_11 : decode cX10_could 11 = .ok (.aload_n 0, 1) := by decide +kernel
theorem dX10_could_12 : decode cX10_could 12 = .ok (.getfield 21, 3) := by decide +kernel
theorem dX10_could_15 : decode cX10_could 15 = .ok (.iload_n 2, 1) := by decide +kernel
theorem dX10_could_16 : decode cX10_could 16 = .ok (.invokevirtual 110, 3) := by decide +kernel
theorem dX10_could_19 : decode cX10_could 19 = .ok (.ifCond .ne 5, 3) := by decide +kernel
theorem dX10_could_22 : decode cX10_could 22 = .ok (.iconst (-1), 1) := by decide +kernel
theorem dX10_could_23 : decode cX10_could 23 = .ok (.ireturn, 1) := by decide +kernel
theorem dX10_could_24 : decode cX10_could 24 = .ok (.aload_n 0, 1) := by decide +kernel
theorem dX10_could_25 : decode cX10_could 25 = .ok (.getfield 21, 3) := by decide +kernel
theorem dX10_could_28 : decode cX10_could 28 = .ok (.iload_n 1, 1) := by decide +kernel
theorem dX10_could_29 : decode cX10_could 29 = .ok (.iconst 0, 1) := by decide +kernel
theorem dX10_could_30 : decode cX10_could 30 = .ok (.invokevirtual 126, 3) := by decide +kernel
theorem dX10_could_33 : decode cX10_could 33 = .ok (.iload_n 2, 1) := by decide +kernel
theorem dX10_could_34 : decode cX10_could 34 = .ok (.ishr, 1) := by decide +kernel
theorem dX10_could_35 : decode cX10_could 35 = .ok (.iconst 1, 1) := by decide +kernel
theorem dX10_could_36 : decode cX10_could 36 = .ok (.iand, 1) := by decide +kernel
theorem dX10_could_37 : decode cX10_could 37 = .ok (.ireturn, 1) := by decide +kernel
theorem dX10_law_0 : decode cX10_law 0 = .ok (.iload_n 1, 1) := by decide +kernel
theorem dX10_law_1 : decode cX10_law 1 = .ok (.ifCond .lt 19, 3) := by decide +kernel
theorem dX10_law_4 : decode cX10_law 4 = .ok (.iload_n 1, 1) := by decide +kernel
theorem dX10_law_5 : decode cX10_law 5 = .ok (.iconst 3, 1) := by decide +kernel
theorem dX10_law_6 : decode cX10_law 6 = .ok (.if_icmp .ge 14, 3) := by decide +kernel
theorem dX10_law_9 : decode cX10_law 9 = .ok (.aload_n 0, 1) := by decide +kernel
theorem dX10_law_10 : decode cX10_law 10 = .ok (.getfield 21, 3) := by decide +kernel
theorem dX10_law_13 : decode cX10_law 13 = .ok (.iload_n 2, 1) := by decide +kernel
theorem dX10_law_14 : decode cX10_law 14 = .ok (.invokevirtual 110, 3) := by decide +kernel
theorem dX10_law_17 : decode cX10_law 17 = .ok (.ifCond .ne 7, 3) := by decide +kernel
theorem dX10_law_20 : decode cX10_law 20 = .ok (.ldc2_w 142, 3) := by decide +kernel
theorem dX10_law_23 : decode cX10_law 23 = .ok (.lreturn, 1) := by decide +kernel
theorem dX10_law_24 : decode cX10_law 24 = .ok (.aload_n 0, 1) := by decide +kernel
theorem dX10_law_25 : decode cX10_law 25 = .ok (.getfield 41, 3) := by decide +kernel
theorem dX10_law_28 : decode cX10_law 28 = .ok (.aload_n 0, 1) := by decide +kernel
theorem dX10_law_29 : decode cX10_law 29 = .ok (.getfield 21, 3) := by decide +kernel
theorem dX10_law_32 : decode cX10_law 32 = .ok (.aload_n 0, 1) := by decide +kernel
theorem dX10_law_33 : decode cX10_law 33 = .ok (.getfield 28, 3) := by decide +kernel
theorem dX10_law_36 : decode cX10_law 36 = .ok (.iload_n 1, 1) := by decide +kernel
theorem dX10_law_37 : decode cX10_law 37 = .ok (.iload_n 2, 1) := by decide +kernel
theorem dX10_law_38 : decode cX10_law 38 = .ok (.invokevirtual 144, 3) := by decide +kernel
theorem dX10_law_41 : decode cX10_law 41 = .ok (.lreturn, 1) := by decide +kernel
theorem dX10_push_0 : decode cX10_push 0 = .ok (.aload_n 0, 1) := by decide +kernel
theorem dX10_push_1 : decode cX10_push 1 = .ok (.getfield 21, 3) := by decide +kernel
theorem dX10_push_4 : decode cX10_push 4 = .ok (.iload_n 1, 1) := by decide +kernel
theorem dX10_push_5 : decode cX10_push 5 = .ok (.invokevirtual 110, 3) := by decide +kernel
theorem dX10_push_8 : decode cX10_push 8 = .ok (.ifCond .ne 5, 3) := by decide +kernel
theorem dX10_push_11 : decode cX10_push 11 = .ok (.iconst (-1), 1) := by decide +kernel
theorem dX10_push_12 : decode cX10_push 12 = .ok (.ireturn, 1) := by decide +kernel
theorem dX10_push_13 : decode cX10_push 13 = .ok (.aload_n 0, 1) := by decide +kernel
theorem dX10_push_14 : decode cX10_push 14 = .ok (.getfield 21, 3) := by decide +kernel
theorem dX10_push_17 : decode cX10_push 17 = .ok (.aload_n 0, 1) := by decide +kernel
theorem dX10_push_18 : decode cX10_push 18 = .ok (.getfield 28, 3) := by decide +kernel
theorem dX10_push_21 : decode cX10_push 21 = .ok (.getfield 120, 3) := by decide +kernel
theorem dX10_push_24 : decode cX10_push 24 = .ok (.aload_n 0, 1) := by decide +kernel
theorem dX10_push_25 : decode cX10_push 25 = .ok (.getfield 28, 3) := by decide +kernel
theorem dX10_push_28 : decode cX10_push 28 = .ok (.getfield 123, 3) := by decide +kernel
theorem dX10_push_31 : decode cX10_push 31 = .ok (.invokevirtual 126, 3) := by decide +kernel
theorem dX10_push_34 : decode cX10_push 34 = .ok (.iload_n 1, 1) := by decide +kernel
theorem dX10_push_35 : decode cX10_push 35 = .ok (.ishr, 1) := by decide +kernel
theorem dX10_push_36 : decode cX10_push 36 = .ok (.iconst 1, 1) := by decide +kernel
theorem dX10_push_37 : decode cX10_push 37 = .ok (.iand, 1) := by decide +kernel
theorem dX10_push_38 : decode cX10_push 38 = .ok (.ifCond .ne 6, 3) := by decide +kernel
theorem dX10_push_41 : decode cX10_push 41 = .ok (.bipush (-2), 2) := by decide +kernel
theorem dX10_push_43 : decode cX10_push 43 = .ok (.ireturn, 1) := by decide +kernel
theorem dX10_push_44 : decode cX10_push 44 = .ok (.aload_n 0, 1) := by decide +kernel
theorem dX10_push_45 : decode cX10_push 45 = .ok (.getfield 48, 3) := by decide +kernel
theorem dX10_push_48 : decode cX10_push 48 = .ok (.aload_n 0, 1) := by decide +kernel
theorem dX10_push_49 : decode cX10_push 49 = .ok (.getfield 28, 3) := by decide +kernel
theorem dX10_push_52 : decode cX10_push 52 = .ok (.invokevirtual 148, 3) := by decide +kernel
theorem dX10_push_55 : decode cX10_push 55 = .ok (.aload_n 0, 1) := by decide +kernel
theorem dX10_push_56 : decode cX10_push 56 = .ok (.getfield 41, 3) := by decide +kernel
theorem dX10_push_59 : decode cX10_push 59 = .ok (.invokevirtual 152, 3) := by decide +kernel
theorem dX10_push_62 : decode cX10_push 62 = .ok (.aload_n 0, 1) := by decide +kernel
theorem dX10_push_63 : decode cX10_push 63 = .ok (.getfield 41, 3) := by decide +kernel
theorem dX10_push_66 : decode cX10_push 66 = .ok (.aload_n 0, 1) := by decide +kernel
theorem dX10_push_67 : decode cX10_push 67 = .ok (.getfield 21, 3) := by decide +kernel
theorem dX10_push_70 : decode cX10_push 70 = .ok (.aload_n 0, 1) := by decide +kernel
theorem dX10_push_71 : decode cX10_push 71 = .ok (.getfield 28, 3) := by decide +kernel
theorem dX10_push_74 : decode cX10_push 74 = .ok (.iload_n 1, 1) := by decide +kernel
theorem dX10_push_75 : decode cX10_push 75 = .ok (.invokevirtual 155, 3) := by decide +kernel
theorem dX10_push_78 : decode cX10_push 78 = .ok (.pop, 1) := by decide +kernel
theorem dX10_push_79 : decode cX10_push 79 = .ok (.aload_n 0, 1) := by decide +kernel
theorem dX10_push_80 : decode cX10_push 80 = .ok (.getfield 28, 3) := by decide +kernel
theorem dX10_push_83 : decode cX10_push 83 = .ok (.getfield 120, 3) := by decide +kernel
theorem dX10_push_86 : decode cX10_push 86 = .ok (.invokestatic 159, 3) := by decide +kernel
theorem dX10_push_89 : decode cX10_push 89 = .ok (.ireturn, 1) := by decide +kernel
theorem dX10_force_0 : decode cX10_force 0 = .ok (.aload_n 0, 1) := by decide +kernel
theorem dX10_force_1 : decode cX10_force 1 = .ok (.getfield 21, 3) := by decide +kernel
theorem dX10_force_4 : decode cX10_force 4 = .ok (.iload_n 1, 1) := by decide +kernel
theorem dX10_force_5 : decode cX10_force 5 = .ok (.invokevirtual 110, 3) := by decide +kernel
theorem dX10_force_8 : decode cX10_force 8 = .ok (.ifCond .ne 5, 3) := by decide +kernel
theorem dX10_force_11 : decode cX10_force 11 = .ok (.iconst (-1), 1) := by decide +kernel
theorem dX10_force_12 : decode cX10_force 12 = .ok (.ireturn, 1) := by decide +kernel
theorem dX10_force_13 : decode cX10_force 13 = .ok (.aload_n 0, 1) := by decide +kernel
theorem dX10_force_14 : decode cX10_force 14 = .ok (.getfield 48, 3) := by decide +kernel
theorem dX10_force_17 : decode cX10_force 17 = .ok (.aload_n 0, 1) := by decide +kernel
theorem dX10_force_18 : decode cX10_force 18 = .ok (.getfield 28, 3) := by decide +kernel
theorem dX10_force_21 : decode cX10_force 21 = .ok (.invokevirtual 148, 3) := by decide +kernel
theorem dX10_force_24 : decode cX10_force 24 = .ok (.aload_n 0, 1) := by decide +kernel
theorem dX10_force_25 : decode cX10_force 25 = .ok (.getfield 28, 3) := by decide +kernel
theorem dX10_force_28 : decode cX10_force 28 = .ok (.dup, 1) := by decide +kernel
theorem dX10_force_29 : decode cX10_force 29 = .ok (.getfield 120, 3) := by decide +kernel
theorem dX10_force_32 : decode cX10_force 32 = .ok (.iconst 1, 1) := by decide +kernel
theorem dX10_force_33 : decode cX10_force 33 = .ok (.iload_n 1, 1) := by decide +kernel
theorem dX10_force_34 : decode cX10_force 34 = .ok (.ishl, 1) := by decide +kernel
theorem dX10_force_35 : decode cX10_force 35 = .ok (.ixor, 1) := by decide +kernel
theorem dX10_force_36 : decode cX10_force 36 = .ok (.putfield 120, 3) := by decide +kernel
theorem dX10_force_39 : decode cX10_force 39 = .ok (.aload_n 0, 1) := by decide +kernel
theorem dX10_force_40 : decode cX10_force 40 = .ok (.getfield 28, 3) := by decide +kernel
theorem dX10_force_43 : decode cX10_force 43 = .ok (.getfield 120, 3) := by decide +kernel
theorem dX10_force_46 : decode cX10_force 46 = .ok (.iload_n 1, 1) := by decide +kernel
theorem dX10_force_47 : decode cX10_force 47 = .ok (.ishr, 1) := by decide +kernel
theorem dX10_force_48 : decode cX10_force 48 = .ok (.iconst 1, 1) := by decide +kernel
theorem dX10_force_49 : decode cX10_force 49 = .ok (.iand, 1) := by decide +kernel
theorem dX10_force_50 : decode cX10_force 50 = .ok (.ireturn, 1) := by decide +kernel
theorem dX10_seal_0 : decode cX10_seal 0 = .ok (.aload_n 0, 1) := by decide +kernel
theorem dX10_seal_1 : decode cX10_seal 1 = .ok (.getfield 21, 3) := by decide +kernel
theorem dX10_seal_4 : decode cX10_seal 4 = .ok (.iload_n 1, 1) := by decide +kernel
theorem dX10_seal_5 : decode cX10_seal 5 = .ok (.invokevirtual 110, 3) := by decide +kernel
theorem dX10_seal_8 : decode cX10_seal 8 = .ok (.ifCond .ne 5, 3) := by decide +kernel
theorem dX10_seal_11 : decode cX10_seal 11 = .ok (.iconst (-1), 1) := by decide +kernel
theorem dX10_seal_12 : decode cX10_seal 12 = .ok (.ireturn, 1) := by decide +kernel
theorem dX10_seal_13 : decode cX10_seal 13 = .ok (.aload_n 0, 1) := by decide +kernel
theorem dX10_seal_14 : decode cX10_seal 14 = .ok (.getfield 48, 3) := by decide +kernel
theorem dX10_seal_17 : decode cX10_seal 17 = .ok (.aload_n 0, 1) := by decide +kernel
theorem dX10_seal_18 : decode cX10_seal 18 = .ok (.getfield 28, 3) := by decide +kernel
theorem dX10_seal_21 : decode cX10_seal 21 = .ok (.invokevirtual 148, 3) := by decide +kernel
theorem dX10_seal_24 : decode cX10_seal 24 = .ok (.aload_n 0, 1) := by decide +kernel
theorem dX10_seal_25 : decode cX10_seal 25 = .ok (.getfield 28, 3) := by decide +kernel
theorem dX10_seal_28 : decode cX10_seal 28 = .ok (.dup, 1) := by decide +kernel
theorem dX10_seal_29 : decode cX10_seal 29 = .ok (.getfield 123, 3) := by decide +kernel
theorem dX10_seal_32 : decode cX10_seal 32 = .ok (.iconst 1, 1) := by decide +kernel
theorem dX10_seal_33 : decode cX10_seal 33 = .ok (.iload_n 1, 1) := by decide +kernel
theorem dX10_seal_34 : decode cX10_seal 34 = .ok (.ishl, 1) := by decide +kernel
theorem dX10_seal_35 : decode cX10_seal 35 = .ok (.ixor, 1) := by decide +kernel
theorem dX10_seal_36 : decode cX10_seal 36 = .ok (.putfield 123, 3) := by decide +kernel
theorem dX10_seal_39 : decode cX10_seal 39 = .ok (.aload_n 0, 1) := by decide +kernel
theorem dX10_seal_40 : decode cX10_seal 40 = .ok (.getfield 28, 3) := by decide +kernel
theorem dX10_seal_43 : decode cX10_seal 43 = .ok (.getfield 123, 3) := by decide +kernel
theorem dX10_seal_46 : decode cX10_seal 46 = .ok (.iload_n 1, 1) := by decide +kernel
theorem dX10_seal_47 : decode cX10_seal 47 = .ok (.ishr, 1) := by decide +kernel
theorem dX10_seal_48 : decode cX10_seal 48 = .ok (.iconst 1, 1) := by decide +kernel
theorem dX10_seal_49 : decode cX10_seal 49 = .ok (.iand, 1) := by decide +kernel
theorem dX10_seal_50 : decode cX10_seal 50 = .ok (.ireturn, 1) := by decide +kernel
theorem dX10_go_0 : decode cX10_go 0 = .ok (.iload_n 1, 1) := by decide +kernel
theorem dX10_go_1 : decode cX10_go 1 = .ok (.ifCond .lt 25, 3) := by decide +kernel
theorem dX10_go_4 : decode cX10_go 4 = .ok (.iload_n 1, 1) := by decide +kernel
theorem dX10_go_5 : decode cX10_go 5 = .ok (.sipush 200, 3) := by decide +kernel
theorem dX10_go_8 : decode cX10_go 8 = .ok (.if_icmp .gt 18, 3) := by decide +kernel
theorem dX10_go_11 : decode cX10_go 11 = .ok (.aload_n 0, 1) := by decide +kernel
theorem dX10_go_12 : decode cX10_go 12 = .ok (.getfield 28, 3) := by decide +kernel
theorem dX10_go_15 : decode cX10_go 15 = .ok (.getfield 164, 3) := by decide +kernel
theorem dX10_go_18 : decode cX10_go 18 = .ok (.iload_n 1, 1) := by decide +kernel
theorem dX10_go_19 : decode cX10_go 19 = .ok (.iadd, 1) := by decide +kernel
theorem dX10_go_20 : decode cX10_go 20 = .ok (.sipush 9000, 3) := by decide +kernel
theorem dX10_go_23 : decode cX10_go 23 = .ok (.if_icmp .le 5, 3) := by decide +kernel
theorem dX10_go_26 : decode cX10_go 26 = .ok (.iconst (-1), 1) := by decide +kernel
theorem dX10_go_27 : decode cX10_go 27 = .ok (.ireturn, 1) := by decide +kernel
theorem dX10_go_28 : decode cX10_go 28 = .ok (.iload_n 1, 1) := by decide +kernel
theorem dX10_go_29 : decode cX10_go 29 = .ok (.ifCond .le 10, 3) := by decide +kernel
theorem dX10_go_32 : decode cX10_go 32 = .ok (.aload_n 0, 1) := by decide +kernel
theorem dX10_go_33 : decode cX10_go 33 = .ok (.getfield 48, 3) := by decide +kernel
theorem dX10_go_36 : decode cX10_go 36 = .ok (.invokevirtual 92, 3) := by decide +kernel
theorem dX10_go_39 : decode cX10_go 39 = .ok (.aload_n 0, 1) := by decide +kernel
theorem dX10_go_40 : decode cX10_go 40 = .ok (.getfield 41, 3) := by decide +kernel
theorem dX10_go_43 : decode cX10_go 43 = .ok (.invokevirtual 167, 3) := by decide +kernel
theorem dX10_go_46 : decode cX10_go 46 = .ok (.aload_n 0, 1) := by decide +kernel
theorem dX10_go_47 : decode cX10_go 47 = .ok (.getfield 41, 3) := by decide +kernel
theorem dX10_go_50 : decode cX10_go 50 = .ok (.aload_n 0, 1) := by decide +kernel
theorem dX10_go_51 : decode cX10_go 51 = .ok (.getfield 21, 3) := by decide +kernel
theorem dX10_go_54 : decode cX10_go 54 = .ok (.aload_n 0, 1) := by decide +kernel
theorem dX10_go_55 : decode cX10_go 55 = .ok (.getfield 28, 3) := by decide +kernel
theorem dX10_go_58 : decode cX10_go 58 = .ok (.iload_n 1, 1) := by decide +kernel
theorem dX10_go_59 : decode cX10_go 59 = .ok (.invokevirtual 170, 3) := by decide +kernel
theorem dX10_go_62 : decode cX10_go 62 = .ok (.aload_n 0, 1) := by decide +kernel
theorem dX10_go_63 : decode cX10_go 63 = .ok (.getfield 28, 3) := by decide +kernel
theorem dX10_go_66 : decode cX10_go 66 = .ok (.getfield 164, 3) := by decide +kernel
theorem dX10_go_69 : decode cX10_go 69 = .ok (.ireturn, 1) := by decide +kernel
theorem dX10_ahead_0 : decode cX10_ahead 0 = .ok (.iload_n 1, 1) := by decide +kernel
theorem dX10_ahead_1 : decode cX10_ahead 1 = .ok (.ifCond .lt 10, 3) := by decide +kernel
theorem dX10_ahead_4 : decode cX10_ahead 4 = .ok (.iload_n 1, 1) := by decide +kernel
theorem dX10_ahead_5 : decode cX10_ahead 5 = .ok (.sipush 200, 3) := by decide +kernel
theorem dX10_ahead_8 : decode cX10_ahead 8 = .ok (.if_icmp .le 5, 3) := by decide +kernel
theorem dX10_ahead_11 : decode cX10_ahead 11 = .ok (.iconst (-1), 1) := by decide +kernel
theorem dX10_ahead_12 : decode cX10_ahead 12 = .ok (.ireturn, 1) := by decide +kernel
theorem dX10_ahead_13 : decode cX10_ahead 13 = .ok (.aload_n 0, 1) := by decide +kernel
theorem dX10_ahead_14 : decode cX10_ahead 14 = .ok (.getfield 32, 3) := by decide +kernel
theorem dX10_ahead_17 : decode cX10_ahead 17 = .ok (.aload_n 0, 1) := by decide +kernel
theorem dX10_ahead_18 : decode cX10_ahead 18 = .ok (.getfield 28, 3) := by decide +kernel
theorem dX10_ahead_21 : decode cX10_ahead 21 = .ok (.invokevirtual 174, 3) := by decide +kernel
theorem dX10_ahead_24 : decode cX10_ahead 24 = .ok (.aload_n 0, 1) := by decide +kernel
theorem dX10_ahead_25 : decode cX10_ahead 25 = .ok (.getfield 41, 3) := by decide +kernel
theorem dX10_ahead_28 : decode cX10_ahead 28 = .ok (.invokevirtual 152, 3) := by decide +kernel
theorem dX10_ahead_31 : decode cX10_ahead 31 = .ok (.aload_n 0, 1) := by decide +kernel
theorem dX10_ahead_32 : decode cX10_ahead 32 = .ok (.getfield 41, 3) := by decide +kernel
theorem dX10_ahead_35 : decode cX10_ahead 35 = .ok (.aload_n 0, 1) := by decide +kernel
theorem dX10_ahead_36 : decode cX10_ahead 36 = .ok (.getfield 21, 3) := by decide +kernel
theorem dX10_ahead_39 : decode cX10_ahead 39 = .ok (.aload_n 0, 1) := by decide +kernel
theorem dX10_ahead_40 : decode cX10_ahead 40 = .ok (.getfield 32, 3) := by decide +kernel
theorem dX10_ahead_43 : decode cX10_ahead 43 = .ok (.iload_n 1, 1) := by decide +kernel
theorem dX10_ahead_44 : decode cX10_ahead 44 = .ok (.invokevirtual 170, 3) := by decide +kernel
theorem dX10_ahead_47 : decode cX10_ahead 47 = .ok (.iload_n 2, 1) := by decide +kernel
theorem dX10_ahead_48 : decode cX10_ahead 48 = .ok (.tableswitch 98 0 4 #[36, 47, 63, 79, 90], 36) := by decide +kernel
theorem dX10_ahead_84 : decode cX10_ahead 84 = .ok (.aload_n 0, 1) := by decide +kernel
theorem dX10_ahead_85 : decode cX10_ahead 85 = .ok (.getfield 32, 3) := by decide +kernel
theorem dX10_ahead_88 : decode cX10_ahead 88 = .ok (.getfield 120, 3) := by decide +kernel
theorem dX10_ahead_91 : decode cX10_ahead 91 = .ok (.invokestatic 159, 3) := by decide +kernel
theorem dX10_ahead_94 : decode cX10_ahead 94 = .ok (.ireturn, 1) := by decide +kernel
theorem dX10_ahead_95 : decode cX10_ahead 95 = .ok (.aload_n 0, 1) := by decide +kernel
theorem dX10_ahead_96 : decode cX10_ahead 96 = .ok (.getfield 32, 3) := by decide +kernel
theorem dX10_ahead_99 : decode cX10_ahead 99 = .ok (.getfield 177, 3) := by decide +kernel
theorem dX10_ahead_102 : decode cX10_ahead 102 = .ok (.aload_n 0, 1) := by decide +kernel
theorem dX10_ahead_103 : decode cX10_ahead 103 = .ok (.getfield 28, 3) := by decide +kernel
theorem dX10_ahead_106 : decode cX10_ahead 106 = .ok (.getfield 177, 3) := by decide +kernel
theorem dX10_ahead_109 : decode cX10_ahead 109 = .ok (.isub, 1) := by decide +kernel
theorem dX10_ahead_110 : decode cX10_ahead 110 = .ok (.ireturn, 1) := by decide +kernel
theorem dX10_ahead_111 : decode cX10_ahead 111 = .ok (.aload_n 0, 1) := by decide +kernel
theorem dX10_ahead_112 : decode cX10_ahead 112 = .ok (.getfield 32, 3) := by decide +kernel
theorem dX10_ahead_115 : decode cX10_ahead 115 = .ok (.getfield 180, 3) := by decide +kernel
theorem dX10_ahead_118 : decode cX10_ahead 118 = .ok (.aload_n 0, 1) := by decide +kernel
theorem dX10_ahead_119 : decode cX10_ahead 119 = .ok (.getfield 28, 3) := by decide +kernel
theorem dX10_ahead_122 : decode cX10_ahead 122 = .ok (.getfield 180, 3) := by decide +kernel
theorem dX10_ahead_125 : decode cX10_ahead 125 = .ok (.isub, 1) := by decide +kernel
theorem dX10_ahead_126 : decode cX10_ahead 126 = .ok (.ireturn, 1) := by decide +kernel
theorem dX10_ahead_127 : decode cX10_ahead 127 = .ok (.aload_n 0, 1) := by decide +kernel
theorem dX10_ahead_128 : decode cX10_ahead 128 = .ok (.getfield 32, 3) := by decide +kernel
theorem dX10_ahead_131 : decode cX10_ahead 131 = .ok (.getfield 123, 3) := by decide +kernel
theorem dX10_ahead_134 : decode cX10_ahead 134 = .ok (.invokestatic 159, 3) := by decide +kernel
theorem dX10_ahead_137 : decode cX10_ahead 137 = .ok (.ireturn, 1) := by decide +kernel
theorem dX10_ahead_138 : decode cX10_ahead 138 = .ok (.aload_n 0, 1) := by decide +kernel
theorem dX10_ahead_139 : decode cX10_ahead 139 = .ok (.getfield 32, 3) := by decide +kernel
theorem dX10_ahead_142 : decode cX10_ahead 142 = .ok (.getfield 120, 3) := by decide +kernel
theorem dX10_ahead_145 : decode cX10_ahead 145 = .ok (.ireturn, 1) := by decide +kernel
theorem dX10_ahead_146 : decode cX10_ahead 146 = .ok (.iconst (-1), 1) := by decide +kernel
theorem dX10_ahead_147 : decode cX10_ahead 147 = .ok (.ireturn, 1) := by decide +kernel
theorem dX10_when_0 : decode cX10_when 0 = .ok (.aload_n 0, 1) := by decide +kernel
theorem dX10_when_1 : decode cX10_when 1 = .ok (.getfield 21, 3) := by decide +kernel
theorem dX10_when_4 : decode cX10_when 4 = .ok (.iload_n 1, 1) := by decide +kernel
theorem dX10_when_5 : decode cX10_when 5 = .ok (.invokevirtual 110, 3) := by decide +kernel
theorem dX10_when_8 : decode cX10_when 8 = .ok (.ifCond .ne 5, 3) := by decide +kernel
theorem dX10_when_11 : decode cX10_when 11 = .ok (.iconst (-1), 1) := by decide +kernel
theorem dX10_when_12 : decode cX10_when 12 = .ok (.ireturn, 1) := by decide +kernel
theorem dX10_when_13 : decode cX10_when 13 = .ok (.aload_n 0, 1) := by decide +kernel
theorem dX10_when_14 : decode cX10_when 14 = .ok (.getfield 32, 3) := by decide +kernel
theorem dX10_when_17 : decode cX10_when 17 = .ok (.aload_n 0, 1) := by decide +kernel
theorem dX10_when_18 : decode cX10_when 18 = .ok (.getfield 28, 3) := by decide +kernel
theorem dX10_when_21 : decode cX10_when 21 = .ok (.invokevirtual 174, 3) := by decide +kernel
theorem dX10_when_24 : decode cX10_when 24 = .ok (.aload_n 0, 1) := by decide +kernel
theorem dX10_when_25 : decode cX10_when 25 = .ok (.getfield 41, 3) := by decide +kernel
theorem dX10_when_28 : decode cX10_when 28 = .ok (.invokevirtual 152, 3) := by decide +kernel
theorem dX10_when_31 : decode cX10_when 31 = .ok (.iconst 1, 1) := by decide +kernel
theorem dX10_when_32 : decode cX10_when 32 = .ok (.istore_n 2, 1) := by decide +kernel
theorem dX10_when_33 : decode cX10_when 33 = .ok (.iload_n 2, 1) := by decide +kernel
theorem dX10_when_34 : decode cX10_when 34 = .ok (.sipush 199, 3) := by decide +kernel
theorem dX10_when_37 : decode cX10_when 37 = .ok (.if_icmp .gt 49, 3) := by decide +kernel
theorem dX10_when_40 : decode cX10_when 40 = .ok (.aload_n 0, 1) := by decide +kernel
theorem dX10_when_41 : decode cX10_when 41 = .ok (.getfield 41, 3) := by decide +kernel
theorem dX10_when_44 : decode cX10_when 44 = .ok (.aload_n 0, 1) := by decide +kernel
theorem dX10_when_45 : decode cX10_when 45 = .ok (.getfield 21, 3) := by decide +kernel
theorem dX10_when_48 : decode cX10_when 48 = .ok (.aload_n 0, 1) := by decide +kernel
theorem dX10_when_49 : decode cX10_when 49 = .ok (.getfield 32, 3) := by decide +kernel
theorem dX10_when_52 : decode cX10_when 52 = .ok (.iconst 1, 1) := by decide +kernel
theorem dX10_when_53 : decode cX10_when 53 = .ok (.invokevirtual 170, 3) := by decide +kernel
theorem dX10_when_56 : decode cX10_when 56 = .ok (.aload_n 0, 1) := by decide +kernel
theorem dX10_when_57 : decode cX10_when 57 = .ok (.getfield 32, 3) := by decide +kernel
theorem dX10_when_60 : decode cX10_when 60 = .ok (.getfield 120, 3) := by decide +kernel
theorem dX10_when_63 : decode cX10_when 63 = .ok (.aload_n 0, 1) := by decide +kernel
theorem dX10_when_64 : decode cX10_when 64 = .ok (.getfield 28, 3) := by decide +kernel
theorem dX10_when_67 : decode cX10_when 67 = .ok (.getfield 120, 3) := by decide +kernel
theorem dX10_when_70 : decode cX10_when 70 = .ok (.ixor, 1) := by decide +kernel
theorem dX10_when_71 : decode cX10_when 71 = .ok (.iload_n 1, 1) := by decide +kernel
theorem dX10_when_72 : decode cX10_when 72 = .ok (.ishr, 1) := by decide +kernel
theorem dX10_when_73 : decode cX10_when 73 = .ok (.iconst 1, 1) := by decide +kernel
theorem dX10_when_74 : decode cX10_when 74 = .ok (.iand, 1) := by decide +kernel
theorem dX10_when_75 : decode cX10_when 75 = .ok (.ifCond .eq 5, 3) := by decide +kernel
theorem dX10_when_78 : decode cX10_when 78 = .ok (.iload_n 2, 1) := by decide +kernel
theorem dX10_when_79 : decode cX10_when 79 = .ok (.ireturn, 1) := by decide +kernel
theorem dX10_when_80 : decode cX10_when 80 = .ok (.iinc 2 1, 3) := by decide +kernel
theorem dX10_when_83 : decode cX10_when 83 = .ok (.goto (-50), 3) := by decide +kernel
theorem dX10_when_86 : decode cX10_when 86 = .ok (.bipush (-2), 2) := by decide +kernel
theorem dX10_when_88 : decode cX10_when 88 = .ok (.ireturn, 1) := by decide +kernel
theorem dX10_fewest_0 : decode cX10_fewest 0 = .ok (.aload_n 0, 1) := by decide +kernel
theorem dX10_fewest_1 : decode cX10_fewest 1 = .ok (.getfield 21, 3) := by decide +kernel
theorem dX10_fewest_4 : decode cX10_fewest 4 = .ok (.iload_n 1, 1) := by decide +kernel
theorem dX10_fewest_5 : decode cX10_fewest 5 = .ok (.invokevirtual 139, 3) := by decide +kernel
theorem dX10_fewest_8 : decode cX10_fewest 8 = .ok (.ifCond .ne 5, 3) := by decide +kernel
theorem dX10_fewest_11 : decode cX10_fewest 11 = .ok (.iconst (-1), 1) := by decide +kernel
theorem dX10_fewest_12 : decode cX10_fewest 12 = .ok (.ireturn, 1) := by decide +kernel
theorem dX10_fewest_13 : decode cX10_fewest 13 = .ok (.aload_n 0, 1) := by decide +kernel
theorem dX10_fewest_14 : decode cX10_fewest 14 = .ok (.invokevirtual 183, 3) := by decide +kernel
theorem dX10_fewest_17 : decode cX10_fewest 17 = .ok (.aload_n 0, 1) := by decide +kernel
theorem dX10_fewest_18 : decode cX10_fewest 18 = .ok (.getfield 55, 3) := by decide +kernel
theorem dX10_fewest_21 : decode cX10_fewest 21 = .ok (.getfield 186, 3) := by decide +kernel
theorem dX10_fewest_24 : decode cX10_fewest 24 = .ok (.iload_n 1, 1) := by decide +kernel
theorem dX10_fewest_25 : decode cX10_fewest 25 = .ok (.iaload, 1) := by decide +kernel
theorem dX10_fewest_26 : decode cX10_fewest 26 = .ok (.istore_n 2, 1) := by decide +kernel
theorem dX10_fewest_27 : decode cX10_fewest 27 = .ok (.iload_n 2, 1) := by decide +kernel
theorem dX10_fewest_28 : decode cX10_fewest 28 = .ok (.iconst (-1), 1) := by decide +kernel
theorem dX10_fewest_29 : decode cX10_fewest 29 = .ok (.if_icmp .ne 8, 3) := by decide +kernel
theorem dX10_fewest_32 : decode cX10_fewest 32 = .ok (.bipush (-2), 2) := by decide +kernel
theorem dX10_fewest_34 : decode cX10_fewest 34 = .ok (.goto 4, 3) := by decide +kernel
theorem dX10_fewest_37 : decode cX10_fewest 37 = .ok (.iload_n 2, 1) := by decide +kernel
theorem dX10_fewest_38 : decode cX10_fewest 38 = .ok (.ireturn, 1) := by decide +kernel
theorem dX10_first_0 : decode cX10_first 0 = .ok (.aload_n 0, 1) := by decide +kernel
theorem dX10_first_1 : decode cX10_first 1 = .ok (.getfield 21, 3) := by decide +kernel
theorem dX10_first_4 : decode cX10_first 4 = .ok (.iload_n 1, 1) := by decide +kernel
theorem dX10_first_5 : decode cX10_first 5 = .ok (.invokevirtual 139, 3) := by decide +kernel
theorem dX10_first_8 : decode cX10_first 8 = .ok (.ifCond .ne 5, 3) := by decide +kernel
theorem dX10_first_11 : decode cX10_first 11 = .ok (.iconst (-1), 1) := by decide +kernel
theorem dX10_first_12 : decode cX10_first 12 = .ok (.ireturn, 1) := by decide +kernel
theorem dX10_first_13 : decode cX10_first 13 = .ok (.aload_n 0, 1) := by decide +kernel
theorem dX10_first_14 : decode cX10_first 14 = .ok (.invokevirtual 183, 3) := by decide +kernel
theorem dX10_first_17 : decode cX10_first 17 = .ok (.aload_n 0, 1) := by decide +kernel
theorem dX10_first_18 : decode cX10_first 18 = .ok (.getfield 55, 3) := by decide +kernel
theorem dX10_first_21 : decode cX10_first 21 = .ok (.iload_n 1, 1) := by decide +kernel
theorem dX10_first_22 : decode cX10_first 22 = .ok (.invokevirtual 189, 3) := by decide +kernel
theorem dX10_first_25 : decode cX10_first 25 = .ok (.ireturn, 1) := by decide +kernel
theorem dX10_ways_0 : decode cX10_ways 0 = .ok (.aload_n 0, 1) := by decide +kernel
theorem dX10_ways_1 : decode cX10_ways 1 = .ok (.getfield 21, 3) := by decide +kernel
theorem dX10_ways_4 : decode cX10_ways 4 = .ok (.iload_n 1, 1) := by decide +kernel
theorem dX10_ways_5 : decode cX10_ways 5 = .ok (.invokevirtual 139, 3) := by decide +kernel
theorem dX10_ways_8 : decode cX10_ways 8 = .ok (.ifCond .ne 5, 3) := by decide +kernel
theorem dX10_ways_11 : decode cX10_ways 11 = .ok (.iconst (-1), 1) := by decide +kernel
theorem dX10_ways_12 : decode cX10_ways 12 = .ok (.ireturn, 1) := by decide +kernel
theorem dX10_ways_13 : decode cX10_ways 13 = .ok (.aload_n 0, 1) := by decide +kernel
theorem dX10_ways_14 : decode cX10_ways 14 = .ok (.invokevirtual 183, 3) := by decide +kernel
theorem dX10_ways_17 : decode cX10_ways 17 = .ok (.aload_n 0, 1) := by decide +kernel
theorem dX10_ways_18 : decode cX10_ways 18 = .ok (.getfield 55, 3) := by decide +kernel
theorem dX10_ways_21 : decode cX10_ways 21 = .ok (.iload_n 1, 1) := by decide +kernel
theorem dX10_ways_22 : decode cX10_ways 22 = .ok (.invokevirtual 192, 3) := by decide +kernel
theorem dX10_ways_25 : decode cX10_ways 25 = .ok (.ireturn, 1) := by decide +kernel
theorem dX10_reach_0 : decode cX10_reach 0 = .ok (.aload_n 0, 1) := by decide +kernel
theorem dX10_reach_1 : decode cX10_reach 1 = .ok (.invokevirtual 183, 3) := by decide +kernel
theorem dX10_reach_4 : decode cX10_reach 4 = .ok (.aload_n 0, 1) := by decide +kernel
theorem dX10_reach_5 : decode cX10_reach 5 = .ok (.getfield 55, 3) := by decide +kernel
theorem dX10_reach_8 : decode cX10_reach 8 = .ok (.getfield 195, 3) := by decide +kernel
theorem dX10_reach_11 : decode cX10_reach 11 = .ok (.ireturn, 1) := by decide +kernel
theorem dX10_farthest_0 : decode cX10_farthest 0 = .ok (.iload_n 1, 1) := by decide +kernel
theorem dX10_farthest_1 : decode cX10_farthest 1 = .ok (.ifCond .eq 10, 3) := by decide +kernel
theorem dX10_farthest_4 : decode cX10_farthest 4 = .ok (.iload_n 1, 1) := by decide +kernel
theorem dX10_farthest_5 : decode cX10_farthest 5 = .ok (.iconst 1, 1) := by decide +kernel
theorem dX10_farthest_6 : decode cX10_farthest 6 = .ok (.if_icmp .eq 5, 3) := by decide +kernel
theorem dX10_farthest_9 : decode cX10_farthest 9 = .ok (.iconst (-1), 1) := by decide +kernel
theorem dX10_farthest_10 : decode cX10_farthest 10 = .ok (.ireturn, 1) := by decide +kernel
theorem dX10_farthest_11 : decode cX10_farthest 11 = .ok (.aload_n 0, 1) := by decide +kernel
theorem dX10_farthest_12 : decode cX10_farthest 12 = .ok (.invokevirtual 183, 3) := by decide +kernel
theorem dX10_farthest_15 : decode cX10_farthest 15 = .ok (.aload_n 0, 1) := by decide +kernel
theorem dX10_farthest_16 : decode cX10_farthest 16 = .ok (.getfield 55, 3) := by decide +kernel
theorem dX10_farthest_19 : decode cX10_farthest 19 = .ok (.invokevirtual 198, 3) := by decide +kernel
theorem dX10_farthest_22 : decode cX10_farthest 22 = .ok (.istore_n 2, 1) := by decide +kernel
theorem dX10_farthest_23 : decode cX10_farthest 23 = .ok (.iload_n 1, 1) := by decide +kernel
theorem dX10_farthest_24 : decode cX10_farthest 24 = .ok (.ifCond .ne 15, 3) := by decide +kernel
theorem dX10_farthest_27 : decode cX10_farthest 27 = .ok (.aload_n 0, 1) := by decide +kernel
theorem dX10_farthest_28 : decode cX10_farthest 28 = .ok (.getfield 55, 3) := by decide +kernel
theorem dX10_farthest_31 : decode cX10_farthest 31 = .ok (.getfield 186, 3) := by decide +kernel
theorem dX10_farthest_34 : decode cX10_farthest 34 = .ok (.iload_n 2, 1) := by decide +kernel
theorem dX10_farthest_35 : decode cX10_farthest 35 = .ok (.iaload, 1) := by decide +kernel
theorem dX10_farthest_36 : decode cX10_farthest 36 = .ok (.goto 4, 3) := by decide +kernel
theorem dX10_farthest_39 : decode cX10_farthest 39 = .ok (.iload_n 2, 1) := by decide +kernel
theorem dX10_farthest_40 : decode cX10_farthest 40 = .ok (.ireturn, 1) := by decide +kernel
theorem dX10_wide_0 : decode cX10_wide 0 = .ok (.aload_n 0, 1) := by decide +kernel
theorem dX10_wide_1 : decode cX10_wide 1 = .ok (.getfield 55, 3) := by decide +kernel
theorem dX10_wide_4 : decode cX10_wide 4 = .ok (.aload_n 0, 1) := by decide +kernel
theorem dX10_wide_5 : decode cX10_wide 5 = .ok (.getfield 21, 3) := by decide +kernel
theorem dX10_wide_8 : decode cX10_wide 8 = .ok (.aload_n 0, 1) := by decide +kernel
theorem dX10_wide_9 : decode cX10_wide 9 = .ok (.getfield 28, 3) := by decide +kernel
theorem dX10_wide_12 : decode cX10_wide 12 = .ok (.getfield 123, 3) := by decide +kernel
theorem dX10_wide_15 : decode cX10_wide 15 = .ok (.invokevirtual 202, 3) := by decide +kernel
theorem dX10_wide_18 : decode cX10_wide 18 = .ok (.aload_n 0, 1) := by decide +kernel
theorem dX10_wide_19 : decode cX10_wide 19 = .ok (.getfield 55, 3) := by decide +kernel
theorem dX10_wide_22 : decode cX10_wide 22 = .ok (.aload_n 0, 1) := by decide +kernel
theorem dX10_wide_23 : decode cX10_wide 23 = .ok (.getfield 28, 3) := by decide +kernel
theorem dX10_wide_26 : decode cX10_wide 26 = .ok (.getfield 120, 3) := by decide +kernel
theorem dX10_wide_29 : decode cX10_wide 29 = .ok (.invokevirtual 206, 3) := by decide +kernel
theorem dX10_wide_32 : decode cX10_wide 32 = .ok (.ireturn, 1) := by decide +kernel
theorem dX10_parts_0 : decode cX10_parts 0 = .ok (.aload_n 0, 1) := by decide +kernel
theorem dX10_parts_1 : decode cX10_parts 1 = .ok (.getfield 55, 3) := by decide +kernel
theorem dX10_parts_4 : decode cX10_parts 4 = .ok (.aload_n 0, 1) := by decide +kernel
theorem dX10_parts_5 : decode cX10_parts 5 = .ok (.getfield 21, 3) := by decide +kernel
theorem dX10_parts_8 : decode cX10_parts 8 = .ok (.aload_n 0, 1) := by decide +kernel
theorem dX10_parts_9 : decode cX10_parts 9 = .ok (.getfield 28, 3) := by decide +kernel
theorem dX10_parts_12 : decode cX10_parts 12 = .ok (.getfield 123, 3) := by decide +kernel
theorem dX10_parts_15 : decode cX10_parts 15 = .ok (.invokevirtual 202, 3) := by decide +kernel
theorem dX10_parts_18 : decode cX10_parts 18 = .ok (.aload_n 0, 1) := by decide +kernel
theorem dX10_parts_19 : decode cX10_parts 19 = .ok (.getfield 55, 3) := by decide +kernel
theorem dX10_parts_22 : decode cX10_parts 22 = .ok (.invokevirtual 209, 3) := by decide +kernel
theorem dX10_parts_25 : decode cX10_parts 25 = .ok (.ireturn, 1) := by decide +kernel
theorem dX10_past_0 : decode cX10_past 0 = .ok (.aload_n 0, 1) := by decide +kernel
theorem dX10_past_1 : decode cX10_past 1 = .ok (.getfield 21, 3) := by decide +kernel
theorem dX10_past_4 : decode cX10_past 4 = .ok (.iload_n 1, 1) := by decide +kernel
theorem dX10_past_5 : decode cX10_past 5 = .ok (.invokevirtual 139, 3) := by decide +kernel
theorem dX10_past_8 : decode cX10_past 8 = .ok (.ifCond .eq 18, 3) := by decide +kernel
theorem dX10_past_11 : decode cX10_past 11 = .ok (.iload_n 2, 1) := by decide +kernel
theorem dX10_past_12 : decode cX10_past 12 = .ok (.ifCond .lt 14, 3) := by decide +kernel
theorem dX10_past_15 : decode cX10_past 15 = .ok (.iload_n 1, 1) := by decide +kernel
theorem dX10_past_16 : decode cX10_past 16 = .ok (.aload_n 0, 1) := by decide +kernel
theorem dX10_past_17 : decode cX10_past 17 = .ok (.getfield 28, 3) := by decide +kernel
theorem dX10_past_20 : decode cX10_past 20 = .ok (.getfield 120, 3) := by decide +kernel
theorem dX10_past_23 : decode cX10_past 23 = .ok (.if_icmp .ne 5, 3) := by decide +kernel
theorem dX10_past_26 : decode cX10_past 26 = .ok (.iconst (-1), 1) := by decide +kernel
theorem dX10_past_27 : decode cX10_past 27 = .ok (.ireturn, 1) := by decide +kernel
theorem dX10_past_28 : decode cX10_past 28 = .ok (.aload_n 0, 1) := by decide +kernel
theorem dX10_past_29 : decode cX10_past 29 = .ok (.getfield 55, 3) := by decide +kernel
theorem dX10_past_32 : decode cX10_past 32 = .ok (.aload_n 0, 1) := by decide +kernel
theorem dX10_past_33 : decode cX10_past 33 = .ok (.getfield 21, 3) := by decide +kernel
theorem dX10_past_36 : decode cX10_past 36 = .ok (.aload_n 0, 1) := by decide +kernel
theorem dX10_past_37 : decode cX10_past 37 = .ok (.getfield 28, 3) := by decide +kernel
theorem dX10_past_40 : decode cX10_past 40 = .ok (.getfield 123, 3) := by decide +kernel
theorem dX10_past_43 : decode cX10_past 43 = .ok (.invokevirtual 202, 3) := by decide +kernel
theorem dX10_past_46 : decode cX10_past 46 = .ok (.aload_n 0, 1) := by decide +kernel
theorem dX10_past_47 : decode cX10_past 47 = .ok (.getfield 55, 3) := by decide +kernel
theorem dX10_past_50 : decode cX10_past 50 = .ok (.aload_n 0, 1) := by decide +kernel
theorem dX10_past_51 : decode cX10_past 51 = .ok (.getfield 28, 3) := by decide +kernel
theorem dX10_past_54 : decode cX10_past 54 = .ok (.getfield 120, 3) := by decide +kernel
theorem dX10_past_57 : decode cX10_past 57 = .ok (.iload_n 1, 1) := by decide +kernel
theorem dX10_past_58 : decode cX10_past 58 = .ok (.iload_n 2, 1) := by decide +kernel
theorem dX10_past_59 : decode cX10_past 59 = .ok (.invokevirtual 212, 3) := by decide +kernel
theorem dX10_past_62 : decode cX10_past 62 = .ok (.ireturn, 1) := by decide +kernel
theorem dX10_must_0 : decode cX10_must 0 = .ok (.aload_n 0, 1) := by decide +kernel
theorem dX10_must_1 : decode cX10_must 1 = .ok (.getfield 21, 3) := by decide +kernel
theorem dX10_must_4 : decode cX10_must 4 = .ok (.iload_n 1, 1) := by decide +kernel
theorem dX10_must_5 : decode cX10_must 5 = .ok (.invokevirtual 139, 3) := by decide +kernel
theorem dX10_must_8 : decode cX10_must 8 = .ok (.ifCond .ne 5, 3) := by decide +kernel
theorem dX10_must_11 : decode cX10_must 11 = .ok (.iconst (-1), 1) := by decide +kernel
theorem dX10_must_12 : decode cX10_must 12 = .ok (.ireturn, 1) := by decide +kernel
theorem dX10_must_13 : decode cX10_must 13 = .ok (.aload_n 0, 1) := by decide +kernel
theorem dX10_must_14 : decode cX10_must 14 = .ok (.getfield 55, 3) := by decide +kernel
theorem dX10_must_17 : decode cX10_must 17 = .ok (.aload_n 0, 1) := by decide +kernel
theorem dX10_must_18 : decode cX10_must 18 = .ok (.getfield 21, 3) := by decide +kernel
theorem dX10_must_21 : decode cX10_must 21 = .ok (.aload_n 0, 1) := by decide +kernel
theorem dX10_must_22 : decode cX10_must 22 = .ok (.getfield 28, 3) := by decide +kernel
theorem dX10_must_25 : decode cX10_must 25 = .ok (.getfield 123, 3) := by decide +kernel
theorem dX10_must_28 : decode cX10_must 28 = .ok (.invokevirtual 202, 3) := by decide +kernel
theorem dX10_must_31 : decode cX10_must 31 = .ok (.aload_n 0, 1) := by decide +kernel
theorem dX10_must_32 : decode cX10_must 32 = .ok (.getfield 55, 3) := by decide +kernel
theorem dX10_must_35 : decode cX10_must 35 = .ok (.aload_n 0, 1) := by decide +kernel
theorem dX10_must_36 : decode cX10_must 36 = .ok (.getfield 28, 3) := by decide +kernel
theorem dX10_must_39 : decode cX10_must 39 = .ok (.getfield 120, 3) := by decide +kernel
theorem dX10_must_42 : decode cX10_must 42 = .ok (.iload_n 1, 1) := by decide +kernel
theorem dX10_must_43 : decode cX10_must 43 = .ok (.invokevirtual 216, 3) := by decide +kernel
theorem dX10_must_46 : decode cX10_must 46 = .ok (.ireturn, 1) := by decide +kernel
theorem dX10_free_0 : decode cX10_free 0 = .ok (.aload_n 0, 1) := by decide +kernel
theorem dX10_free_1 : decode cX10_free 1 = .ok (.getfield 21, 3) := by decide +kernel
theorem dX10_free_4 : decode cX10_free 4 = .ok (.iload_n 1, 1) := by decide +kernel
theorem dX10_free_5 : decode cX10_free 5 = .ok (.invokevirtual 110, 3) := by decide +kernel
theorem dX10_free_8 : decode cX10_free 8 = .ok (.ifCond .ne 5, 3) := by decide +kernel
theorem dX10_free_11 : decode cX10_free 11 = .ok (.iconst (-1), 1) := by decide +kernel
theorem dX10_free_12 : decode cX10_free 12 = .ok (.ireturn, 1) := by decide +kernel
theorem dX10_free_13 : decode cX10_free 13 = .ok (.aload_n 0, 1) := by decide +kernel
theorem dX10_free_14 : decode cX10_free 14 = .ok (.invokevirtual 183, 3) := by decide +kernel
theorem dX10_free_17 : decode cX10_free 17 = .ok (.aload_n 0, 1) := by decide +kernel
theorem dX10_free_18 : decode cX10_free 18 = .ok (.getfield 55, 3) := by decide +kernel
theorem dX10_free_21 : decode cX10_free 21 = .ok (.iload_n 1, 1) := by decide +kernel
theorem dX10_free_22 : decode cX10_free 22 = .ok (.invokevirtual 219, 3) := by decide +kernel
theorem dX10_free_25 : decode cX10_free 25 = .ok (.ireturn, 1) := by decide +kernel
theorem dX10_ease_0 : decode cX10_ease 0 = .ok (.aload_n 0, 1) := by decide +kernel
theorem dX10_ease_1 : decode cX10_ease 1 = .ok (.getfield 21, 3) := by decide +kernel
theorem dX10_ease_4 : decode cX10_ease 4 = .ok (.iload_n 1, 1) := by decide +kernel
theorem dX10_ease_5 : decode cX10_ease 5 = .ok (.invokevirtual 139, 3) := by decide +kernel
theorem dX10_ease_8 : decode cX10_ease 8 = .ok (.ifCond .ne 5, 3) := by decide +kernel
theorem dX10_ease_11 : decode cX10_ease 11 = .ok (.iconst (-1), 1) := by decide +kernel
theorem dX10_ease_12 : decode cX10_ease 12 = .ok (.ireturn, 1) := by decide +kernel
theorem dX10_ease_13 : decode cX10_ease 13 = .ok (.iload_n 1, 1) := by decide +kernel
theorem dX10_ease_14 : decode cX10_ease 14 = .ok (.aload_n 0, 1) := by decide +kernel
theorem dX10_ease_15 : decode cX10_ease 15 = .ok (.getfield 28, 3) := by decide +kernel
theorem dX10_ease_18 : decode cX10_ease 18 = .ok (.getfield 120, 3) := by decide +kernel
theorem dX10_ease_21 : decode cX10_ease 21 = .ok (.ixor, 1) := by decide +kernel
theorem dX10_ease_22 : decode cX10_ease 22 = .ok (.aload_n 0, 1) := by decide +kernel
theorem dX10_ease_23 : decode cX10_ease 23 = .ok (.getfield 28, 3) := by decide +kernel
theorem dX10_ease_26 : decode cX10_ease 26 = .ok (.getfield 123, 3) := by decide +kernel
theorem dX10_ease_29 : decode cX10_ease 29 = .ok (.iand, 1) := by decide +kernel
theorem dX10_ease_30 : decode cX10_ease 30 = .ok (.ifCond .eq 6, 3) := by decide +kernel
theorem dX10_ease_33 : decode cX10_ease 33 = .ok (.bipush (-2), 2) := by decide +kernel
theorem dX10_ease_35 : decode cX10_ease 35 = .ok (.ireturn, 1) := by decide +kernel
theorem dX10_ease_36 : decode cX10_ease 36 = .ok (.aload_n 0, 1) := by decide +kernel
theorem dX10_ease_37 : decode cX10_ease 37 = .ok (.getfield 55, 3) := by decide +kernel
theorem dX10_ease_40 : decode cX10_ease 40 = .ok (.aload_n 0, 1) := by decide +kernel
theorem dX10_ease_41 : decode cX10_ease 41 = .ok (.getfield 21, 3) := by decide +kernel
theorem dX10_ease_44 : decode cX10_ease 44 = .ok (.aload_n 0, 1) := by decide +kernel
theorem dX10_ease_45 : decode cX10_ease 45 = .ok (.getfield 28, 3) := by decide +kernel
theorem dX10_ease_48 : decode cX10_ease 48 = .ok (.getfield 123, 3) := by decide +kernel
theorem dX10_ease_51 : decode cX10_ease 51 = .ok (.invokevirtual 202, 3) := by decide +kernel
theorem dX10_ease_54 : decode cX10_ease 54 = .ok (.aload_n 0, 1) := by decide +kernel
theorem dX10_ease_55 : decode cX10_ease 55 = .ok (.getfield 55, 3) := by decide +kernel
theorem dX10_ease_58 : decode cX10_ease 58 = .ok (.aload_n 0, 1) := by decide +kernel
theorem dX10_ease_59 : decode cX10_ease 59 = .ok (.getfield 28, 3) := by decide +kernel
theorem dX10_ease_62 : decode cX10_ease 62 = .ok (.getfield 120, 3) := by decide +kernel
theorem dX10_ease_65 : decode cX10_ease 65 = .ok (.iload_n 1, 1) := by decide +kernel
theorem dX10_ease_66 : decode cX10_ease 66 = .ok (.aload_n 0, 1) := by decide +kernel
theorem dX10_ease_67 : decode cX10_ease 67 = .ok (.getfield 28, 3) := by decide +kernel
theorem dX10_ease_70 : decode cX10_ease 70 = .ok (.getfield 123, 3) := by decide +kernel
theorem dX10_ease_73 : decode cX10_ease 73 = .ok (.aload_n 0, 1) := by decide +kernel
theorem dX10_ease_74 : decode cX10_ease 74 = .ok (.getfield 21, 3) := by decide +kernel
theorem dX10_ease_77 : decode cX10_ease 77 = .ok (.getfield 222, 3) := by decide +kernel
theorem dX10_ease_80 : decode cX10_ease 80 = .ok (.invokevirtual 225, 3) := by decide +kernel
theorem dX10_ease_83 : decode cX10_ease 83 = .ok (.ireturn, 1) := by decide +kernel
theorem dX10_game_0 : decode cX10_game 0 = .ok (.iload_n 1, 1) := by decide +kernel
theorem dX10_game_1 : decode cX10_game 1 = .ok (.ifCond .eq 10, 3) := by decide +kernel
theorem dX10_game_4 : decode cX10_game 4 = .ok (.iload_n 1, 1) := by decide +kernel
theorem dX10_game_5 : decode cX10_game 5 = .ok (.iconst 1, 1) := by decide +kernel
theorem dX10_game_6 : decode cX10_game 6 = .ok (.if_icmp .eq 5, 3) := by decide +kernel
theorem dX10_game_9 : decode cX10_game 9 = .ok (.iconst (-1), 1) := by decide +kernel
theorem dX10_game_10 : decode cX10_game 10 = .ok (.ireturn, 1) := by decide +kernel
theorem dX10_game_11 : decode cX10_game 11 = .ok (.aload_n 0, 1) := by decide +kernel
theorem dX10_game_12 : decode cX10_game 12 = .ok (.getfield 55, 3) := by decide +kernel
theorem dX10_game_15 : decode cX10_game 15 = .ok (.aload_n 0, 1) := by decide +kernel
theorem dX10_game_16 : decode cX10_game 16 = .ok (.getfield 21, 3) := by decide +kernel
theorem dX10_game_19 : decode cX10_game 19 = .ok (.aload_n 0, 1) := by decide +kernel
theorem dX10_game_20 : decode cX10_game 20 = .ok (.getfield 28, 3) := by decide +kernel
theorem dX10_game_23 : decode cX10_game 23 = .ok (.getfield 123, 3) := by decide +kernel
theorem dX10_game_26 : decode cX10_game 26 = .ok (.invokevirtual 202, 3) := by decide +kernel
theorem dX10_game_29 : decode cX10_game 29 = .ok (.aload_n 0, 1) := by decide +kernel
theorem dX10_game_30 : decode cX10_game 30 = .ok (.getfield 55, 3) := by decide +kernel
theorem dX10_game_33 : decode cX10_game 33 = .ok (.aload_n 0, 1) := by decide +kernel
theorem dX10_game_34 : decode cX10_game 34 = .ok (.getfield 28, 3) := by decide +kernel
theorem dX10_game_37 : decode cX10_game 37 = .ok (.getfield 120, 3) := by decide +kernel
theorem dX10_game_40 : decode cX10_game 40 = .ok (.invokevirtual 229, 3) := by decide +kernel
theorem dX10_game_43 : decode cX10_game 43 = .ok (.istore_n 2, 1) := by decide +kernel
theorem dX10_game_44 : decode cX10_game 44 = .ok (.iload_n 1, 1) := by decide +kernel
theorem dX10_game_45 : decode cX10_game 45 = .ok (.iconst 1, 1) := by decide +kernel
theorem dX10_game_46 : decode cX10_game 46 = .ok (.if_icmp .ne 5, 3) := by decide +kernel
theorem dX10_game_49 : decode cX10_game 49 = .ok (.iload_n 2, 1) := by decide +kernel
theorem dX10_game_50 : decode cX10_game 50 = .ok (.ireturn, 1) := by decide +kernel
theorem dX10_game_51 : decode cX10_game 51 = .ok (.iload_n 2, 1) := by decide +kernel
theorem dX10_game_52 : decode cX10_game 52 = .ok (.bipush (-2), 2) := by decide +kernel
theorem dX10_game_54 : decode cX10_game 54 = .ok (.if_icmp .ne 7, 3) := by decide +kernel
theorem dX10_game_57 : decode cX10_game 57 = .ok (.iconst 1, 1) := by decide +kernel
theorem dX10_game_58 : decode cX10_game 58 = .ok (.goto 4, 3) := by decide +kernel
theorem dX10_game_61 : decode cX10_game 61 = .ok (.iconst 0, 1) := by decide +kernel
theorem dX10_game_62 : decode cX10_game 62 = .ok (.ireturn, 1) := by decide +kernel
theorem dX10_drunk_0 : decode cX10_drunk 0 = .ok (.aload_n 0, 1) := by decide +kernel
theorem dX10_drunk_1 : decode cX10_drunk 1 = .ok (.getfield 21, 3) := by decide +kernel
theorem dX10_drunk_4 : decode cX10_drunk 4 = .ok (.iload_n 1, 1) := by decide +kernel
theorem dX10_drunk_5 : decode cX10_drunk 5 = .ok (.invokevirtual 139, 3) := by decide +kernel
theorem dX10_drunk_8 : decode cX10_drunk 8 = .ok (.ifCond .eq 21, 3) := by decide +kernel
theorem dX10_drunk_11 : decode cX10_drunk 11 = .ok (.iload_n 2, 1) := by decide +kernel
theorem dX10_drunk_12 : decode cX10_drunk 12 = .ok (.ifCond .lt 17, 3) := by decide +kernel
theorem dX10_drunk_15 : decode cX10_drunk 15 = .ok (.iload_n 2, 1) := by decide +kernel
theorem dX10_drunk_16 : decode cX10_drunk 16 = .ok (.iconst 5, 1) := by decide +kernel
theorem dX10_drunk_17 : decode cX10_drunk 17 = .ok (.if_icmp .gt 12, 3) := by decide +kernel
theorem dX10_drunk_20 : decode cX10_drunk 20 = .ok (.iload_n 3, 1) := by decide +kernel
theorem dX10_drunk_21 : decode cX10_drunk 21 = .ok (.ifCond .lt 8, 3) := by decide +kernel
theorem dX10_drunk_24 : decode cX10_drunk 24 = .ok (.iload_n 3, 1) := by decide +kernel
theorem dX10_drunk_25 : decode cX10_drunk 25 = .ok (.iconst 1, 1) := by decide +kernel
theorem dX10_drunk_26 : decode cX10_drunk 26 = .ok (.if_icmp .le 7, 3) := by decide +kernel
theorem dX10_drunk_29 : decode cX10_drunk 29 = .ok (.ldc2_w 232, 3) := by decide +kernel
theorem dX10_drunk_32 : decode cX10_drunk 32 = .ok (.lreturn, 1) := by decide +kernel
theorem dX10_drunk_33 : decode cX10_drunk 33 = .ok (.aload_n 0, 1) := by decide +kernel
theorem dX10_drunk_34 : decode cX10_drunk 34 = .ok (.getfield 55, 3) := by decide +kernel
theorem dX10_drunk_37 : decode cX10_drunk 37 = .ok (.aload_n 0, 1) := by decide +kernel
theorem dX10_drunk_38 : decode cX10_drunk 38 = .ok (.getfield 21, 3) := by decide +kernel
theorem dX10_drunk_41 : decode cX10_drunk 41 = .ok (.aload_n 0, 1) := by decide +kernel
theorem dX10_drunk_42 : decode cX10_drunk 42 = .ok (.getfield 28, 3) := by decide +kernel
theorem dX10_drunk_45 : decode cX10_drunk 45 = .ok (.getfield 123, 3) := by decide +kernel
theorem dX10_drunk_48 : decode cX10_drunk 48 = .ok (.invokevirtual 202, 3) := by decide +kernel
theorem dX10_drunk_51 : decode cX10_drunk 51 = .ok (.aload_n 0, 1) := by decide +kernel
theorem dX10_drunk_52 : decode cX10_drunk 52 = .ok (.getfield 55, 3) := by decide +kernel
theorem dX10_drunk_55 : decode cX10_drunk 55 = .ok (.aload_n 0, 1) := by decide +kernel
theorem dX10_drunk_56 : decode cX10_drunk 56 = .ok (.getfield 28, 3) := by decide +kernel
theorem dX10_drunk_59 : decode cX10_drunk 59 = .ok (.getfield 120, 3) := by decide +kernel
theorem dX10_drunk_62 : decode cX10_drunk 62 = .ok (.iload_n 1, 1) := by decide +kernel
theorem dX10_drunk_63 : decode cX10_drunk 63 = .ok (.iload_n 2, 1) := by decide +kernel
theorem dX10_drunk_64 : decode cX10_drunk 64 = .ok (.invokevirtual 234, 3) := by decide +kernel
theorem dX10_drunk_67 : decode cX10_drunk 67 = .ok (.lstore 4, 2) := by decide +kernel
theorem dX10_drunk_69 : decode cX10_drunk 69 = .ok (.lload 4, 2) := by decide +kernel
theorem dX10_drunk_71 : decode cX10_drunk 71 = .ok (.ldc2_w 238, 3) := by decide +kernel
theorem dX10_drunk_74 : decode cX10_drunk 74 = .ok (.iload_n 2, 1) := by decide +kernel
theorem dX10_drunk_75 : decode cX10_drunk 75 = .ok (.invokestatic 240, 3) := by decide +kernel
theorem dX10_drunk_78 : decode cX10_drunk 78 = .ok (.iload_n 3, 1) := by decide +kernel
theorem dX10_drunk_79 : decode cX10_drunk 79 = .ok (.invokestatic 244, 3) := by decide +kernel
theorem dX10_drunk_82 : decode cX10_drunk 82 = .ok (.lreturn, 1) := by decide +kernel
theorem dX10_holds_0 : decode cX10_holds 0 = .ok (.iload_n 1, 1) := by decide +kernel
theorem dX10_holds_1 : decode cX10_holds 1 = .ok (.ifCond .lt 18, 3) := by decide +kernel
theorem dX10_holds_4 : decode cX10_holds 4 = .ok (.iload_n 1, 1) := by decide +kernel
theorem dX10_holds_5 : decode cX10_holds 5 = .ok (.bipush 6, 2) := by decide +kernel
theorem dX10_holds_7 : decode cX10_holds 7 = .ok (.if_icmp .gt 12, 3) := by decide +kernel
theorem dX10_holds_10 : decode cX10_holds 10 = .ok (.iload_n 2, 1) := by decide +kernel
theorem dX10_holds_11 : decode cX10_holds 11 = .ok (.ifCond .lt 8, 3) := by decide +kernel
theorem dX10_holds_14 : decode cX10_holds 14 = .ok (.iload_n 2, 1) := by decide +kernel
theorem dX10_holds_15 : decode cX10_holds 15 = .ok (.iconst 1, 1) := by decide +kernel
theorem dX10_holds_16 : decode cX10_holds 16 = .ok (.if_icmp .le 7, 3) := by decide +kernel
theorem dX10_holds_19 : decode cX10_holds 19 = .ok (.ldc2_w 232, 3) := by decide +kernel
theorem dX10_holds_22 : decode cX10_holds 22 = .ok (.lreturn, 1) := by decide +kernel
theorem dX10_holds_23 : decode cX10_holds 23 = .ok (.bipush 100, 2) := by decide +kernel
theorem dX10_holds_25 : decode cX10_holds 25 = .ok (.aload_n 0, 1) := by decide +kernel
theorem dX10_holds_26 : decode cX10_holds 26 = .ok (.getfield 21, 3) := by decide +kernel
theorem dX10_holds_29 : decode cX10_holds 29 = .ok (.getfield 248, 3) := by decide +kernel
theorem dX10_holds_32 : decode cX10_holds 32 = .ok (.isub, 1) := by decide +kernel
theorem dX10_holds_33 : decode cX10_holds 33 = .ok (.i2l, 1) := by decide +kernel
theorem dX10_holds_34 : decode cX10_holds 34 = .ok (.iload_n 1, 1) := by decide +kernel
theorem dX10_holds_35 : decode cX10_holds 35 = .ok (.invokestatic 240, 3) := by decide +kernel
theorem dX10_holds_38 : decode cX10_holds 38 = .ok (.ldc2_w 251, 3) := by decide +kernel
theorem dX10_holds_41 : decode cX10_holds 41 = .ok (.iload_n 1, 1) := by decide +kernel
theorem dX10_holds_42 : decode cX10_holds 42 = .ok (.invokestatic 240, 3) := by decide +kernel
