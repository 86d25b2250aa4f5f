theorem dX11_farthest_8 : decode cX11_farthest 8 = .ok (.invokestatic 205, 3) := by decide +kernel
theorem dX11_farthest_11 : decode cX11_farthest 11 = .ok (.ifCond .ne 5, 3) := by decide +kernel
theorem dX11_farthest_14 : decode cX11_farthest 14 = .ok (.iconst (-1), 1) := by decide +kernel
theorem dX11_farthest_15 : decode cX11_farthest 15 = .ok (.ireturn, 1) := by decide +kernel
theorem dX11_farthest_16 : decode cX11_farthest 16 = .ok (.aload_n 0, 1) := by decide +kernel
theorem dX11_farthest_17 : decode cX11_farthest 17 = .ok (.invokevirtual 484, 3) := by decide +kernel
theorem dX11_farthest_20 : decode cX11_farthest 20 = .ok (.aload_n 0, 1) := by decide +kernel
theorem dX11_farthest_21 : decode cX11_farthest 21 = .ok (.getfield 112, 3) := by decide +kernel
theorem dX11_farthest_24 : decode cX11_farthest 24 = .ok (.aload_n 0, 1) := by decide +kernel
theorem dX11_farthest_25 : decode cX11_farthest 25 = .ok (.getfield 118, 3) := by decide +kernel
theorem dX11_farthest_28 : decode cX11_farthest 28 = .ok (.aload_n 0, 1) := by decide +kernel
theorem dX11_farthest_29 : decode cX11_farthest 29 = .ok (.getfield 476, 3) := by decide +kernel
theorem dX11_farthest_32 : decode cX11_farthest 32 = .ok (.iconst 1, 1) := by decide +kernel
theorem dX11_farthest_33 : decode cX11_farthest 33 = .ok (.isub, 1) := by decide +kernel
theorem dX11_farthest_34 : decode cX11_farthest 34 = .ok (.iaload, 1) := by decide +kernel
theorem dX11_farthest_35 : decode cX11_farthest 35 = .ok (.iaload, 1) := by decide +kernel
theorem dX11_farthest_36 : decode cX11_farthest 36 = .ok (.istore_n 2, 1) := by decide +kernel
theorem dX11_farthest_37 : decode cX11_farthest 37 = .ok (.iconst 0, 1) := by decide +kernel
theorem dX11_farthest_38 : decode cX11_farthest 38 = .ok (.istore_n 3, 1) := by decide +kernel
theorem dX11_farthest_39 : decode cX11_farthest 39 = .ok (.aload_n 0, 1) := by decide +kernel
theorem dX11_farthest_40 : decode cX11_farthest 40 = .ok (.getfield 112, 3) := by decide +kernel
theorem dX11_farthest_43 : decode cX11_farthest 43 = .ok (.iload_n 3, 1) := by decide +kernel
theorem dX11_farthest_44 : decode cX11_farthest 44 = .ok (.iaload, 1) := by decide +kernel
theorem dX11_farthest_45 : decode cX11_farthest 45 = .ok (.iload_n 2, 1) := by decide +kernel
theorem dX11_farthest_46 : decode cX11_farthest 46 = .ok (.if_icmp .eq 9, 3) := by decide +kernel
theorem dX11_farthest_49 : decode cX11_farthest 49 = .ok (.iinc 3 1, 3) := by decide +kernel
theorem dX11_farthest_52 : decode cX11_farthest 52 = .ok (.goto (-13), 3) := by decide +kernel
theorem dX11_farthest_55 : decode cX11_farthest 55 = .ok (.iload_n 1, 1) := by decide +kernel
theorem dX11_farthest_56 : decode cX11_farthest 56 = .ok (.ifCond .ne 7, 3) := by decide +kernel
theorem dX11_farthest_59 : decode cX11_farthest 59 = .ok (.iload_n 2, 1) := by decide +kernel
theorem dX11_farthest_60 : decode cX11_farthest 60 = .ok (.goto 4, 3) := by decide +kernel
theorem dX11_farthest_63 : decode cX11_farthest 63 = .ok (.iload_n 3, 1) := by decide +kernel
theorem dX11_farthest_64 : decode cX11_farthest 64 = .ok (.ireturn, 1) := by decide +kernel
theorem dX11_wide_0 : decode cX11_wide 0 = .ok (.aload_n 0, 1) := by decide +kernel
theorem dX11_wide_1 : decode cX11_wide 1 = .ok (.iconst 0, 1) := by decide +kernel
theorem dX11_wide_2 : decode cX11_wide 2 = .ok (.putfield 160, 3) := by decide +kernel
theorem dX11_wide_5 : decode cX11_wide 5 = .ok (.aload_n 0, 1) := by decide +kernel
theorem dX11_wide_6 : decode cX11_wide 6 = .ok (.invokevirtual 484, 3) := by decide +kernel
theorem dX11_wide_9 : decode cX11_wide 9 = .ok (.iconst 0, 1) := by decide +kernel
theorem dX11_wide_10 : decode cX11_wide 10 = .ok (.istore_n 1, 1) := by decide +kernel
theorem dX11_wide_11 : decode cX11_wide 11 = .ok (.iload_n 1, 1) := by decide +kernel
theorem dX11_wide_12 : decode cX11_wide 12 = .ok (.sipush 256, 3) := by decide +kernel
theorem dX11_wide_15 : decode cX11_wide 15 = .ok (.if_icmp .ge 21, 3) := by decide +kernel
theorem dX11_wide_18 : decode cX11_wide 18 = .ok (.aload_n 0, 1) := by decide +kernel
theorem dX11_wide_19 : decode cX11_wide 19 = .ok (.getfield 121, 3) := by decide +kernel
theorem dX11_wide_22 : decode cX11_wide 22 = .ok (.iload_n 1, 1) := by decide +kernel
theorem dX11_wide_23 : decode cX11_wide 23 = .ok (.aload_n 0, 1) := by decide +kernel
theorem dX11_wide_24 : decode cX11_wide 24 = .ok (.getfield 112, 3) := by decide +kernel
theorem dX11_wide_27 : decode cX11_wide 27 = .ok (.iload_n 1, 1) := by decide +kernel
theorem dX11_wide_28 : decode cX11_wide 28 = .ok (.iaload, 1) := by decide +kernel
theorem dX11_wide_29 : decode cX11_wide 29 = .ok (.iastore, 1) := by decide +kernel
theorem dX11_wide_30 : decode cX11_wide 30 = .ok (.iinc 1 1, 3) := by decide +kernel
theorem dX11_wide_33 : decode cX11_wide 33 = .ok (.goto (-22), 3) := by decide +kernel
theorem dX11_wide_36 : decode cX11_wide 36 = .ok (.iconst 0, 1) := by decide +kernel
theorem dX11_wide_37 : decode cX11_wide 37 = .ok (.istore_n 1, 1) := by decide +kernel
theorem dX11_wide_38 : decode cX11_wide 38 = .ok (.iconst 0, 1) := by decide +kernel
theorem dX11_wide_39 : decode cX11_wide 39 = .ok (.istore_n 2, 1) := by decide +kernel
theorem dX11_wide_40 : decode cX11_wide 40 = .ok (.iload_n 2, 1) := by decide +kernel
theorem dX11_wide_41 : decode cX11_wide 41 = .ok (.sipush 256, 3) := by decide +kernel
theorem dX11_wide_44 : decode cX11_wide 44 = .ok (.if_icmp .ge 75, 3) := by decide +kernel
theorem dX11_wide_47 : decode cX11_wide 47 = .ok (.aload_n 0, 1) := by decide +kernel
theorem dX11_wide_48 : decode cX11_wide 48 = .ok (.getfield 121, 3) := by decide +kernel
theorem dX11_wide_51 : decode cX11_wide 51 = .ok (.iload_n 2, 1) := by decide +kernel
theorem dX11_wide_52 : decode cX11_wide 52 = .ok (.iaload, 1) := by decide +kernel
theorem dX11_wide_53 : decode cX11_wide 53 = .ok (.ifCond .ge 6, 3) := by decide +kernel
theorem dX11_wide_56 : decode cX11_wide 56 = .ok (.goto 57, 3) := by decide +kernel
theorem dX11_wide_59 : decode cX11_wide 59 = .ok (.aload_n 0, 1) := by decide +kernel
theorem dX11_wide_60 : decode cX11_wide 60 = .ok (.iload_n 2, 1) := by decide +kernel
theorem dX11_wide_61 : decode cX11_wide 61 = .ok (.iconst (-1), 1) := by decide +kernel
theorem dX11_wide_62 : decode cX11_wide 62 = .ok (.aload_n 0, 1) := by decide +kernel
theorem dX11_wide_63 : decode cX11_wide 63 = .ok (.getfield 97, 3) := by decide +kernel
theorem dX11_wide_66 : decode cX11_wide 66 = .ok (.iconst 0, 1) := by decide +kernel
theorem dX11_wide_67 : decode cX11_wide 67 = .ok (.iaload, 1) := by decide +kernel
theorem dX11_wide_68 : decode cX11_wide 68 = .ok (.iconst 0, 1) := by decide +kernel
theorem dX11_wide_69 : decode cX11_wide 69 = .ok (.invokevirtual 480, 3) := by decide +kernel
theorem dX11_wide_72 : decode cX11_wide 72 = .ok (.aload_n 0, 1) := by decide +kernel
theorem dX11_wide_73 : decode cX11_wide 73 = .ok (.getfield 112, 3) := by decide +kernel
theorem dX11_wide_76 : decode cX11_wide 76 = .ok (.aload_n 0, 1) := by decide +kernel
theorem dX11_wide_77 : decode cX11_wide 77 = .ok (.getfield 118, 3) := by decide +kernel
theorem dX11_wide_80 : decode cX11_wide 80 = .ok (.aload_n 0, 1) := by decide +kernel
theorem dX11_wide_81 : decode cX11_wide 81 = .ok (.getfield 476, 3) := by decide +kernel
theorem dX11_wide_84 : decode cX11_wide 84 = .ok (.iconst 1, 1) := by decide +kernel
theorem dX11_wide_85 : decode cX11_wide 85 = .ok (.isub, 1) := by decide +kernel
theorem dX11_wide_86 : decode cX11_wide 86 = .ok (.iaload, 1) := by decide +kernel
theorem dX11_wide_87 : decode cX11_wide 87 = .ok (.iaload, 1) := by decide +kernel
theorem dX11_wide_88 : decode cX11_wide 88 = .ok (.iload_n 1, 1) := by decide +kernel
theorem dX11_wide_89 : decode cX11_wide 89 = .ok (.if_icmp .le 22, 3) := by decide +kernel
theorem dX11_wide_92 : decode cX11_wide 92 = .ok (.aload_n 0, 1) := by decide +kernel
theorem dX11_wide_93 : decode cX11_wide 93 = .ok (.getfield 112, 3) := by decide +kernel
theorem dX11_wide_96 : decode cX11_wide 96 = .ok (.aload_n 0, 1) := by decide +kernel
theorem dX11_wide_97 : decode cX11_wide 97 = .ok (.getfield 118, 3) := by decide +kernel
theorem dX11_wide_100 : decode cX11_wide 100 = .ok (.aload_n 0, 1) := by decide +kernel
theorem dX11_wide_101 : decode cX11_wide 101 = .ok (.getfield 476, 3) := by decide +kernel
theorem dX11_wide_104 : decode cX11_wide 104 = .ok (.iconst 1, 1) := by decide +kernel
theorem dX11_wide_105 : decode cX11_wide 105 = .ok (.isub, 1) := by decide +kernel
theorem dX11_wide_106 : decode cX11_wide 106 = .ok (.iaload, 1) := by decide +kernel
theorem dX11_wide_107 : decode cX11_wide 107 = .ok (.iaload, 1) := by decide +kernel
theorem dX11_wide_108 : decode cX11_wide 108 = .ok (.goto 4, 3) := by decide +kernel
theorem dX11_wide_111 : decode cX11_wide 111 = .ok (.iload_n 1, 1) := by decide +kernel
theorem dX11_wide_112 : decode cX11_wide 112 = .ok (.istore_n 1, 1) := by decide +kernel
theorem dX11_wide_113 : decode cX11_wide 113 = .ok (.iinc 2 1, 3) := by decide +kernel
theorem dX11_wide_116 : decode cX11_wide 116 = .ok (.goto (-76), 3) := by decide +kernel
theorem dX11_wide_119 : decode cX11_wide 119 = .ok (.iload_n 1, 1) := by decide +kernel
theorem dX11_wide_120 : decode cX11_wide 120 = .ok (.ireturn, 1) := by decide +kernel
theorem dX11_parts_0 : decode cX11_parts 0 = .ok (.aload_n 0, 1) := by decide +kernel
theorem dX11_parts_1 : decode cX11_parts 1 = .ok (.iconst 0, 1) := by decide +kernel
theorem dX11_parts_2 : decode cX11_parts 2 = .ok (.putfield 160, 3) := by decide +kernel
theorem dX11_parts_5 : decode cX11_parts 5 = .ok (.iconst 0, 1) := by decide +kernel
theorem dX11_parts_6 : decode cX11_parts 6 = .ok (.istore_n 1, 1) := by decide +kernel
theorem dX11_parts_7 : decode cX11_parts 7 = .ok (.iload_n 1, 1) := by decide +kernel
theorem dX11_parts_8 : decode cX11_parts 8 = .ok (.sipush 256, 3) := by decide +kernel
theorem dX11_parts_11 : decode cX11_parts 11 = .ok (.if_icmp .ge 16, 3) := by decide +kernel
theorem dX11_parts_14 : decode cX11_parts 14 = .ok (.aload_n 0, 1) := by decide +kernel
theorem dX11_parts_15 : decode cX11_parts 15 = .ok (.getfield 124, 3) := by decide +kernel
theorem dX11_parts_18 : decode cX11_parts 18 = .ok (.iload_n 1, 1) := by decide +kernel
theorem dX11_parts_19 : decode cX11_parts 19 = .ok (.iconst 0, 1) := by decide +kernel
theorem dX11_parts_20 : decode cX11_parts 20 = .ok (.bastore, 1) := by decide +kernel
theorem dX11_parts_21 : decode cX11_parts 21 = .ok (.iinc 1 1, 3) := by decide +kernel
theorem dX11_parts_24 : decode cX11_parts 24 = .ok (.goto (-17), 3) := by decide +kernel
theorem dX11_parts_27 : decode cX11_parts 27 = .ok (.iconst 0, 1) := by decide +kernel
theorem dX11_parts_28 : decode cX11_parts 28 = .ok (.istore_n 1, 1) := by decide +kernel
theorem dX11_parts_29 : decode cX11_parts 29 = .ok (.iconst 0, 1) := by decide +kernel
theorem dX11_parts_30 : decode cX11_parts 30 = .ok (.istore_n 2, 1) := by decide +kernel
theorem dX11_parts_31 : decode cX11_parts 31 = .ok (.iload_n 2, 1) := by decide +kernel
theorem dX11_parts_32 : decode cX11_parts 32 = .ok (.iconst 1, 1) := by decide +kernel
theorem dX11_parts_33 : decode cX11_parts 33 = .ok (.aload_n 0, 1) := by decide +kernel
theorem dX11_parts_34 : decode cX11_parts 34 = .ok (.getfield 240, 3) := by decide +kernel
theorem dX11_parts_37 : decode cX11_parts 37 = .ok (.ishl, 1) := by decide +kernel
theorem dX11_parts_38 : decode cX11_parts 38 = .ok (.if_icmp .ge 65, 3) := by decide +kernel
theorem dX11_parts_41 : decode cX11_parts 41 = .ok (.aload_n 0, 1) := by decide +kernel
theorem dX11_parts_42 : decode cX11_parts 42 = .ok (.getfield 124, 3) := by decide +kernel
theorem dX11_parts_45 : decode cX11_parts 45 = .ok (.iload_n 2, 1) := by decide +kernel
theorem dX11_parts_46 : decode cX11_parts 46 = .ok (.baload, 1) := by decide +kernel
theorem dX11_parts_47 : decode cX11_parts 47 = .ok (.ifCond .eq 6, 3) := by decide +kernel
theorem dX11_parts_50 : decode cX11_parts 50 = .ok (.goto 47, 3) := by decide +kernel
theorem dX11_parts_53 : decode cX11_parts 53 = .ok (.iinc 1 1, 3) := by decide +kernel
theorem dX11_parts_56 : decode cX11_parts 56 = .ok (.aload_n 0, 1) := by decide +kernel
theorem dX11_parts_57 : decode cX11_parts 57 = .ok (.iload_n 2, 1) := by decide +kernel
theorem dX11_parts_58 : decode cX11_parts 58 = .ok (.iconst (-1), 1) := by decide +kernel
theorem dX11_parts_59 : decode cX11_parts 59 = .ok (.aload_n 0, 1) := by decide +kernel
theorem dX11_parts_60 : decode cX11_parts 60 = .ok (.getfield 97, 3) := by decide +kernel
theorem dX11_parts_63 : decode cX11_parts 63 = .ok (.iconst 0, 1) := by decide +kernel
theorem dX11_parts_64 : decode cX11_parts 64 = .ok (.iaload, 1) := by decide +kernel
theorem dX11_parts_65 : decode cX11_parts 65 = .ok (.iconst 0, 1) := by decide +kernel
theorem dX11_parts_66 : decode cX11_parts 66 = .ok (.invokevirtual 480, 3) := by decide +kernel
theorem dX11_parts_69 : decode cX11_parts 69 = .ok (.iconst 0, 1) := by decide +kernel
theorem dX11_parts_70 : decode cX11_parts 70 = .ok (.istore_n 3, 1) := by decide +kernel
theorem dX11_parts_71 : decode cX11_parts 71 = .ok (.iload_n 3, 1) := by decide +kernel
theorem dX11_parts_72 : decode cX11_parts 72 = .ok (.aload_n 0, 1) := by decide +kernel
theorem dX11_parts_73 : decode cX11_parts 73 = .ok (.getfield 476, 3) := by decide +kernel
theorem dX11_parts_76 : decode cX11_parts 76 = .ok (.if_icmp .ge 21, 3) := by decide +kernel
theorem dX11_parts_79 : decode cX11_parts 79 = .ok (.aload_n 0, 1) := by decide +kernel
theorem dX11_parts_80 : decode cX11_parts 80 = .ok (.getfield 124, 3) := by decide +kernel
theorem dX11_parts_83 : decode cX11_parts 83 = .ok (.aload_n 0, 1) := by decide +kernel
theorem dX11_parts_84 : decode cX11_parts 84 = .ok (.getfield 118, 3) := by decide +kernel
theorem dX11_parts_87 : decode cX11_parts 87 = .ok (.iload_n 3, 1) := by decide +kernel
theorem dX11_parts_88 : decode cX11_parts 88 = .ok (.iaload, 1) := by decide +kernel
theorem dX11_parts_89 : decode cX11_parts 89 = .ok (.iconst 1, 1) := by decide +kernel
theorem dX11_parts_90 : decode cX11_parts 90 = .ok (.bastore, 1) := by decide +kernel
theorem dX11_parts_91 : decode cX11_parts 91 = .ok (.iinc 3 1, 3) := by decide +kernel
theorem dX11_parts_94 : decode cX11_parts 94 = .ok (.goto (-23), 3) := by decide +kernel
theorem dX11_parts_97 : decode cX11_parts 97 = .ok (.iinc 2 1, 3) := by decide +kernel
theorem dX11_parts_100 : decode cX11_parts 100 = .ok (.goto (-69), 3) := by decide +kernel
theorem dX11_parts_103 : decode cX11_parts 103 = .ok (.iload_n 1, 1) := by decide +kernel
theorem dX11_parts_104 : decode cX11_parts 104 = .ok (.ireturn, 1) := by decide +kernel
theorem dX11_past_0 : decode cX11_past 0 = .ok (.aload_n 0, 1) := by decide +kernel
theorem dX11_past_1 : decode cX11_past 1 = .ok (.iconst 0, 1) := by decide +kernel
theorem dX11_past_2 : decode cX11_past 2 = .ok (.putfield 160, 3) := by decide +kernel
theorem dX11_past_5 : decode cX11_past 5 = .ok (.aload_n 0, 1) := by decide +kernel
theorem dX11_past_6 : decode cX11_past 6 = .ok (.iload_n 1, 1) := by decide +kernel
theorem dX11_past_7 : decode cX11_past 7 = .ok (.invokevirtual 462, 3) := by decide +kernel
theorem dX11_past_10 : decode cX11_past 10 = .ok (.ifCond .eq 17, 3) := by decide +kernel
theorem dX11_past_13 : decode cX11_past 13 = .ok (.iload_n 2, 1) := by decide +kernel
theorem dX11_past_14 : decode cX11_past 14 = .ok (.ifCond .lt 13, 3) := by decide +kernel
theorem dX11_past_17 : decode cX11_past 17 = .ok (.iload_n 1, 1) := by decide +kernel
theorem dX11_past_18 : decode cX11_past 18 = .ok (.aload_n 0, 1) := by decide +kernel
theorem dX11_past_19 : decode cX11_past 19 = .ok (.getfield 94, 3) := by decide +kernel
theorem dX11_past_22 : decode cX11_past 22 = .ok (.iconst 0, 1) := by decide +kernel
theorem dX11_past_23 : decode cX11_past 23 = .ok (.iaload, 1) := by decide +kernel
theorem dX11_past_24 : decode cX11_past 24 = .ok (.if_icmp .ne 5, 3) := by decide +kernel
theorem dX11_past_27 : decode cX11_past 27 = .ok (.iconst (-1), 1) := by decide +kernel
theorem dX11_past_28 : decode cX11_past 28 = .ok (.ireturn, 1) := by decide +kernel
theorem dX11_past_29 : decode cX11_past 29 = .ok (.aload_n 0, 1) := by decide +kernel
theorem dX11_past_30 : decode cX11_past 30 = .ok (.invokevirtual 484, 3) := by decide +kernel
theorem dX11_past_33 : decode cX11_past 33 = .ok (.aload_n 0, 1) := by decide +kernel
theorem dX11_past_34 : decode cX11_past 34 = .ok (.getfield 112, 3) := by decide +kernel
theorem dX11_past_37 : decode cX11_past 37 = .ok (.iload_n 1, 1) := by decide +kernel
theorem dX11_past_38 : decode cX11_past 38 = .ok (.iaload, 1) := by decide +kernel
theorem dX11_past_39 : decode cX11_past 39 = .ok (.ifCond .ge 5, 3) := by decide +kernel
theorem dX11_past_42 : decode cX11_past 42 = .ok (.iconst (-1), 1) := by decide +kernel
theorem dX11_past_43 : decode cX11_past 43 = .ok (.ireturn, 1) := by decide +kernel
theorem dX11_past_44 : decode cX11_past 44 = .ok (.aload_n 0, 1) := by decide +kernel
theorem dX11_past_45 : decode cX11_past 45 = .ok (.getfield 112, 3) := by decide +kernel
theorem dX11_past_48 : decode cX11_past 48 = .ok (.iload_n 1, 1) := by decide +kernel
theorem dX11_past_49 : decode cX11_past 49 = .ok (.iaload, 1) := by decide +kernel
theorem dX11_past_50 : decode cX11_past 50 = .ok (.istore_n 3, 1) := by decide +kernel
theorem dX11_past_51 : decode cX11_past 51 = .ok (.iconst 0, 1) := by decide +kernel
theorem dX11_past_52 : decode cX11_past 52 = .ok (.istore 4, 2) := by decide +kernel
theorem dX11_past_54 : decode cX11_past 54 = .ok (.iload 4, 2) := by decide +kernel
theorem dX11_past_56 : decode cX11_past 56 = .ok (.sipush 256, 3) := by decide +kernel
theorem dX11_past_59 : decode cX11_past 59 = .ok (.if_icmp .ge 31, 3) := by decide +kernel
theorem dX11_past_62 : decode cX11_past 62 = .ok (.aload_n 0, 1) := by decide +kernel
theorem dX11_past_63 : decode cX11_past 63 = .ok (.getfield 121, 3) := by decide +kernel
theorem dX11_past_66 : decode cX11_past 66 = .ok (.iload 4, 2) := by decide +kernel
theorem dX11_past_68 : decode cX11_past 68 = .ok (.aload_n 0, 1) := by decide +kernel
theorem dX11_past_69 : decode cX11_past 69 = .ok (.getfield 112, 3) := by decide +kernel
theorem dX11_past_72 : decode cX11_past 72 = .ok (.iload 4, 2) := by decide +kernel
theorem dX11_past_74 : decode cX11_past 74 = .ok (.iaload, 1) := by decide +kernel
theorem dX11_past_75 : decode cX11_past 75 = .ok (.iastore, 1) := by decide +kernel
theorem dX11_past_76 : decode cX11_past 76 = .ok (.aload_n 0, 1) := by decide +kernel
theorem dX11_past_77 : decode cX11_past 77 = .ok (.getfield 127, 3) := by decide +kernel
theorem dX11_past_80 : decode cX11_past 80 = .ok (.iload 4, 2) := by decide +kernel
theorem dX11_past_82 : decode cX11_past 82 = .ok (.iconst (-1), 1) := by decide +kernel
theorem dX11_past_83 : decode cX11_past 83 = .ok (.iastore, 1) := by decide +kernel
theorem dX11_past_84 : decode cX11_past 84 = .ok (.iinc 4 1, 3) := by decide +kernel
theorem dX11_past_87 : decode cX11_past 87 = .ok (.goto (-33), 3) := by decide +kernel
theorem dX11_past_90 : decode cX11_past 90 = .ok (.iconst 0, 1) := by decide +kernel
theorem dX11_past_91 : decode cX11_past 91 = .ok (.istore 4, 2) := by decide +kernel
theorem dX11_past_93 : decode cX11_past 93 = .ok (.iload 4, 2) := by decide +kernel
theorem dX11_past_95 : decode cX11_past 95 = .ok (.sipush 256, 3) := by decide +kernel
theorem dX11_past_98 : decode cX11_past 98 = .ok (.if_icmp .ge 76, 3) := by decide +kernel
theorem dX11_past_101 : decode cX11_past 101 = .ok (.aload_n 0, 1) := by decide +kernel
theorem dX11_past_102 : decode cX11_past 102 = .ok (.getfield 121, 3) := by decide +kernel
theorem dX11_past_105 : decode cX11_past 105 = .ok (.iload 4, 2) := by decide +kernel
theorem dX11_past_107 : decode cX11_past 107 = .ok (.iaload, 1) := by decide +kernel
theorem dX11_past_108 : decode cX11_past 108 = .ok (.iconst 1, 1) := by decide +kernel
theorem dX11_past_109 : decode cX11_past 109 = .ok (.if_icmp .lt 59, 3) := by decide +kernel
theorem dX11_past_112 : decode cX11_past 112 = .ok (.aload_n 0, 1) := by decide +kernel
theorem dX11_past_113 : decode cX11_past 113 = .ok (.getfield 121, 3) := by decide +kernel
theorem dX11_past_116 : decode cX11_past 116 = .ok (.iload 4, 2) := by decide +kernel
theorem dX11_past_118 : decode cX11_past 118 = .ok (.iaload, 1) := by decide +kernel
theorem dX11_past_119 : decode cX11_past 119 = .ok (.iload_n 3, 1) := by decide +kernel
theorem dX11_past_120 : decode cX11_past 120 = .ok (.if_icmp .lt 6, 3) := by decide +kernel
theorem dX11_past_123 : decode cX11_past 123 = .ok (.goto 45, 3) := by decide +kernel
theorem dX11_past_126 : decode cX11_past 126 = .ok (.aload_n 0, 1) := by decide +kernel
theorem dX11_past_127 : decode cX11_past 127 = .ok (.aload_n 0, 1) := by decide +kernel
theorem dX11_past_128 : decode cX11_past 128 = .ok (.getfield 94, 3) := by decide +kernel
theorem dX11_past_131 : decode cX11_past 131 = .ok (.iconst 0, 1) := by decide +kernel
theorem dX11_past_132 : decode cX11_past 132 = .ok (.iaload, 1) := by decide +kernel
theorem dX11_past_133 : decode cX11_past 133 = .ok (.iload 4, 2) := by decide +kernel
theorem dX11_past_135 : decode cX11_past 135 = .ok (.aload_n 0, 1) := by decide +kernel
theorem dX11_past_136 : decode cX11_past 136 = .ok (.getfield 97, 3) := by decide +kernel
theorem dX11_past_139 : decode cX11_past 139 = .ok (.iconst 0, 1) := by decide +kernel
theorem dX11_past_140 : decode cX11_past 140 = .ok (.iaload, 1) := by decide +kernel
theorem dX11_past_141 : decode cX11_past 141 = .ok (.iconst 0, 1) := by decide +kernel
theorem dX11_past_142 : decode cX11_past 142 = .ok (.invokevirtual 480, 3) := by decide +kernel
theorem dX11_past_145 : decode cX11_past 145 = .ok (.aload_n 0, 1) := by decide +kernel
theorem dX11_past_146 : decode cX11_past 146 = .ok (.getfield 112, 3) := by decide +kernel
theorem dX11_past_149 : decode cX11_past 149 = .ok (.iload_n 1, 1) := by decide +kernel
theorem dX11_past_150 : decode cX11_past 150 = .ok (.iaload, 1) := by decide +kernel
theorem dX11_past_151 : decode cX11_past 151 = .ok (.ifCond .ge 17, 3) := by decide +kernel
theorem dX11_past_154 : decode cX11_past 154 = .ok (.aload_n 0, 1) := by decide +kernel
theorem dX11_past_155 : decode cX11_past 155 = .ok (.getfield 127, 3) := by decide +kernel
theorem dX11_past_158 : decode cX11_past 158 = .ok (.aload_n 0, 1) := by decide +kernel
theorem dX11_past_159 : decode cX11_past 159 = .ok (.getfield 121, 3) := by decide +kernel
theorem dX11_past_162 : decode cX11_past 162 = .ok (.iload 4, 2) := by decide +kernel
theorem dX11_past_164 : decode cX11_past 164 = .ok (.iaload, 1) := by decide +kernel
theorem dX11_past_165 : decode cX11_past 165 = .ok (.iload 4, 2) := by decide +kernel
theorem dX11_past_167 : decode cX11_past 167 = .ok (.iastore, 1) := by decide +kernel
theorem dX11_past_168 : decode cX11_past 168 = .ok (.iinc 4 1, 3) := by decide +kernel
theorem dX11_past_171 : decode cX11_past 171 = .ok (.goto (-78), 3) := by decide +kernel
theorem dX11_past_174 : decode cX11_past 174 = .ok (.iconst 0, 1) := by decide +kernel
theorem dX11_past_175 : decode cX11_past 175 = .ok (.istore 4, 2) := by decide +kernel
theorem dX11_past_177 : decode cX11_past 177 = .ok (.iconst 0, 1) := by decide +kernel
theorem dX11_past_178 : decode cX11_past 178 = .ok (.istore 5, 2) := by decide +kernel
theorem dX11_past_180 : decode cX11_past 180 = .ok (.iload 5, 2) := by decide +kernel
theorem dX11_past_182 : decode cX11_past 182 = .ok (.sipush 256, 3) := by decide +kernel
theorem dX11_past_185 : decode cX11_past 185 = .ok (.if_icmp .ge 39, 3) := by decide +kernel
theorem dX11_past_188 : decode cX11_past 188 = .ok (.aload_n 0, 1) := by decide +kernel
theorem dX11_past_189 : decode cX11_past 189 = .ok (.getfield 127, 3) := by decide +kernel
theorem dX11_past_192 : decode cX11_past 192 = .ok (.iload 5, 2) := by decide +kernel
theorem dX11_past_194 : decode cX11_past 194 = .ok (.iaload, 1) := by decide +kernel
theorem dX11_past_195 : decode cX11_past 195 = .ok (.ifCond .ge 6, 3) := by decide +kernel
theorem dX11_past_198 : decode cX11_past 198 = .ok (.goto 20, 3) := by decide +kernel
theorem dX11_past_201 : decode cX11_past 201 = .ok (.iload 4, 2) := by decide +kernel
theorem dX11_past_203 : decode cX11_past 203 = .ok (.iload_n 2, 1) := by decide +kernel
theorem dX11_past_204 : decode cX11_past 204 = .ok (.if_icmp .ne 11, 3) := by decide +kernel
theorem dX11_past_207 : decode cX11_past 207 = .ok (.aload_n 0, 1) := by decide +kernel
theorem dX11_past_208 : decode cX11_past 208 = .ok (.getfield 127, 3) := by decide +kernel
theorem dX11_past_211 : decode cX11_past 211 = .ok (.iload 5, 2) := by decide +kernel
theorem dX11_past_213 : decode cX11_past 213 = .ok (.iaload, 1) := by decide +kernel
theorem dX11_past_214 : decode cX11_past 214 = .ok (.ireturn, 1) := by decide +kernel
theorem dX11_past_215 : decode cX11_past 215 = .ok (.iinc 4 1, 3) := by decide +kernel
theorem dX11_past_218 : decode cX11_past 218 = .ok (.iinc 5 1, 3) := by decide +kernel
theorem dX11_past_221 : decode cX11_past 221 = .ok (.goto (-41), 3) := by decide +kernel
theorem dX11_past_224 : decode cX11_past 224 = .ok (.bipush (-2), 2) := by decide +kernel
theorem dX11_past_226 : decode cX11_past 226 = .ok (.ireturn, 1) := by decide +kernel
theorem dX11_must_0 : decode cX11_must 0 = .ok (.aload_n 0, 1) := by decide +kernel
theorem dX11_must_1 : decode cX11_must 1 = .ok (.iconst 0, 1) := by decide +kernel
theorem dX11_must_2 : decode cX11_must 2 = .ok (.putfield 160, 3) := by decide +kernel
theorem dX11_must_5 : decode cX11_must 5 = .ok (.aload_n 0, 1) := by decide +kernel
theorem dX11_must_6 : decode cX11_must 6 = .ok (.iload_n 1, 1) := by decide +kernel
theorem dX11_must_7 : decode cX11_must 7 = .ok (.invokevirtual 462, 3) := by decide +kernel
theorem dX11_must_10 : decode cX11_must 10 = .ok (.ifCond .ne 5, 3) := by decide +kernel
theorem dX11_must_13 : decode cX11_must 13 = .ok (.iconst (-1), 1) := by decide +kernel
theorem dX11_must_14 : decode cX11_must 14 = .ok (.ireturn, 1) := by decide +kernel
theorem dX11_must_15 : decode cX11_must 15 = .ok (.aload_n 0, 1) := by decide +kernel
theorem dX11_must_16 : decode cX11_must 16 = .ok (.invokevirtual 484, 3) := by decide +kernel
theorem dX11_must_19 : decode cX11_must 19 = .ok (.aload_n 0, 1) := by decide +kernel
theorem dX11_must_20 : decode cX11_must 20 = .ok (.getfield 112, 3) := by decide +kernel
theorem dX11_must_23 : decode cX11_must 23 = .ok (.iload_n 1, 1) := by decide +kernel
theorem dX11_must_24 : decode cX11_must 24 = .ok (.iaload, 1) := by decide +kernel
theorem dX11_must_25 : decode cX11_must 25 = .ok (.ifCond .ge 6, 3) := by decide +kernel
theorem dX11_must_28 : decode cX11_must 28 = .ok (.bipush (-2), 2) := by decide +kernel
theorem dX11_must_30 : decode cX11_must 30 = .ok (.ireturn, 1) := by decide +kernel
theorem dX11_must_31 : decode cX11_must 31 = .ok (.iconst 0, 1) := by decide +kernel
theorem dX11_must_32 : decode cX11_must 32 = .ok (.istore_n 2, 1) := by decide +kernel
theorem dX11_must_33 : decode cX11_must 33 = .ok (.iconst 0, 1) := by decide +kernel
theorem dX11_must_34 : decode cX11_must 34 = .ok (.istore_n 3, 1) := by decide +kernel
theorem dX11_must_35 : decode cX11_must 35 = .ok (.iload_n 3, 1) := by decide +kernel
theorem dX11_must_36 : decode cX11_must 36 = .ok (.aload_n 0, 1) := by decide +kernel
theorem dX11_must_37 : decode cX11_must 37 = .ok (.getfield 240, 3) := by decide +kernel
theorem dX11_must_40 : decode cX11_must 40 = .ok (.if_icmp .ge 50, 3) := by decide +kernel
theorem dX11_must_43 : decode cX11_must 43 = .ok (.aload_n 0, 1) := by decide +kernel
theorem dX11_must_44 : decode cX11_must 44 = .ok (.aload_n 0, 1) := by decide +kernel
theorem dX11_must_45 : decode cX11_must 45 = .ok (.getfield 94, 3) := by decide +kernel
theorem dX11_must_48 : decode cX11_must 48 = .ok (.iconst 0, 1) := by decide +kernel
theorem dX11_must_49 : decode cX11_must 49 = .ok (.iaload, 1) := by decide +kernel
theorem dX11_must_50 : decode cX11_must 50 = .ok (.iconst (-1), 1) := by decide +kernel
theorem dX11_must_51 : decode cX11_must 51 = .ok (.aload_n 0, 1) := by decide +kernel
theorem dX11_must_52 : decode cX11_must 52 = .ok (.getfield 97, 3) := by decide +kernel
theorem dX11_must_55 : decode cX11_must 55 = .ok (.iconst 0, 1) := by decide +kernel
theorem dX11_must_56 : decode cX11_must 56 = .ok (.iaload, 1) := by decide +kernel
theorem dX11_must_57 : decode cX11_must 57 = .ok (.iconst 1, 1) := by decide +kernel
theorem dX11_must_58 : decode cX11_must 58 = .ok (.iload_n 3, 1) := by decide +kernel
theorem dX11_must_59 : decode cX11_must 59 = .ok (.ishl, 1) := by decide +kernel
theorem dX11_must_60 : decode cX11_must 60 = .ok (.ior, 1) := by decide +kernel
theorem dX11_must_61 : decode cX11_must 61 = .ok (.iconst 0, 1) := by decide +kernel
theorem dX11_must_62 : decode cX11_must 62 = .ok (.invokevirtual 480, 3) := by decide +kernel
theorem dX11_must_65 : decode cX11_must 65 = .ok (.iload_n 2, 1) := by decide +kernel
theorem dX11_must_66 : decode cX11_must 66 = .ok (.aload_n 0, 1) := by decide +kernel
theorem dX11_must_67 : decode cX11_must 67 = .ok (.getfield 112, 3) := by decide +kernel
theorem dX11_must_70 : decode cX11_must 70 = .ok (.iload_n 1, 1) := by decide +kernel
theorem dX11_must_71 : decode cX11_must 71 = .ok (.iaload, 1) := by decide +kernel
theorem dX11_must_72 : decode cX11_must 72 = .ok (.ifCond .ge 9, 3) := by decide +kernel
theorem dX11_must_75 : decode cX11_must 75 = .ok (.iconst 1, 1) := by decide +kernel
theorem dX11_must_76 : decode cX11_must 76 = .ok (.iload_n 3, 1) := by decide +kernel
theorem dX11_must_77 : decode cX11_must 77 = .ok (.ishl, 1) := by decide +kernel
theorem dX11_must_78 : decode cX11_must 78 = .ok (.goto 4, 3) := by decide +kernel
theorem dX11_must_81 : decode cX11_must 81 = .ok (.iconst 0, 1) := by decide +kernel
theorem dX11_must_82 : decode cX11_must 82 = .ok (.ior, 1) := by decide +kernel
theorem dX11_must_83 : decode cX11_must 83 = .ok (.istore_n 2, 1) := by decide +kernel
theorem dX11_must_84 : decode cX11_must 84 = .ok (.iinc 3 1, 3) := by decide +kernel
theorem dX11_must_87 : decode cX11_must 87 = .ok (.goto (-52), 3) := by decide +kernel
theorem dX11_must_90 : decode cX11_must 90 = .ok (.iload_n 2, 1) := by decide +kernel
theorem dX11_must_91 : decode cX11_must 91 = .ok (.ireturn, 1) := by decide +kernel
theorem dX11_free_0 : decode cX11_free 0 = .ok (.aload_n 0, 1) := by decide +kernel
theorem dX11_free_1 : decode cX11_free 1 = .ok (.iconst 0, 1) := by decide +kernel
theorem dX11_free_2 : decode cX11_free 2 = .ok (.putfield 160, 3) := by decide +kernel
theorem dX11_free_5 : decode cX11_free 5 = .ok (.aload_n 0, 1) := by decide +kernel
theorem dX11_free_6 : decode cX11_free 6 = .ok (.iload_n 1, 1) := by decide +kernel
theorem dX11_free_7 : decode cX11_free 7 = .ok (.invokevirtual 456, 3) := by decide +kernel
theorem dX11_free_10 : decode cX11_free 10 = .ok (.ifCond .ne 5, 3) := by decide +kernel
theorem dX11_free_13 : decode cX11_free 13 = .ok (.iconst (-1), 1) := by decide +kernel
theorem dX11_free_14 : decode cX11_free 14 = .ok (.ireturn, 1) := by decide +kernel
theorem dX11_free_15 : decode cX11_free 15 = .ok (.aload_n 0, 1) := by decide +kernel
theorem dX11_free_16 : decode cX11_free 16 = .ok (.invokevirtual 484, 3) := by decide +kernel
theorem dX11_free_19 : decode cX11_free 19 = .ok (.iconst 0, 1) := by decide +kernel
theorem dX11_free_20 : decode cX11_free 20 = .ok (.istore_n 2, 1) := by decide +kernel
theorem dX11_free_21 : decode cX11_free 21 = .ok (.iload_n 2, 1) := by decide +kernel
theorem dX11_free_22 : decode cX11_free 22 = .ok (.aload_n 0, 1) := by decide +kernel
theorem dX11_free_23 : decode cX11_free 23 = .ok (.getfield 476, 3) := by decide +kernel
theorem dX11_free_26 : decode cX11_free 26 = .ok (.if_icmp .ge 50, 3) := by decide +kernel
theorem dX11_free_29 : decode cX11_free 29 = .ok (.aload_n 0, 1) := by decide +kernel
theorem dX11_free_30 : decode cX11_free 30 = .ok (.getfield 88, 3) := by decide +kernel
theorem dX11_free_33 : decode cX11_free 33 = .ok (.aload_n 0, 1) := by decide +kernel
theorem dX11_free_34 : decode cX11_free 34 = .ok (.getfield 118, 3) := by decide +kernel
theorem dX11_free_37 : decode cX11_free 37 = .ok (.iload_n 2, 1) := by decide +kernel
theorem dX11_free_38 : decode cX11_free 38 = .ok (.iaload, 1) := by decide +kernel
theorem dX11_free_39 : decode cX11_free 39 = .ok (.iaload, 1) := by decide +kernel
theorem dX11_free_40 : decode cX11_free 40 = .ok (.aload_n 0, 1) := by decide +kernel
theorem dX11_free_41 : decode cX11_free 41 = .ok (.getfield 97, 3) := by decide +kernel
theorem dX11_free_44 : decode cX11_free 44 = .ok (.iconst 0, 1) := by decide +kernel
theorem dX11_free_45 : decode cX11_free 45 = .ok (.iaload, 1) := by decide +kernel
theorem dX11_free_46 : decode cX11_free 46 = .ok (.iconst (-1), 1) := by decide +kernel
theorem dX11_free_47 : decode cX11_free 47 = .ok (.ixor, 1) := by decide +kernel
theorem dX11_free_48 : decode cX11_free 48 = .ok (.iand, 1) := by decide +kernel
theorem dX11_free_49 : decode cX11_free 49 = .ok (.iload_n 1, 1) := by decide +kernel
theorem dX11_free_50 : decode cX11_free 50 = .ok (.invokestatic 372, 3) := by decide +kernel
theorem dX11_free_53 : decode cX11_free 53 = .ok (.ifCond .eq 17, 3) := by decide +kernel
theorem dX11_free_56 : decode cX11_free 56 = .ok (.aload_n 0, 1) := by decide +kernel
theorem dX11_free_57 : decode cX11_free 57 = .ok (.getfield 112, 3) := by decide +kernel
theorem dX11_free_60 : decode cX11_free 60 = .ok (.aload_n 0, 1) := by decide +kernel
theorem dX11_free_61 : decode cX11_free 61 = .ok (.getfield 118, 3) := by decide +kernel
theorem dX11_free_64 : decode cX11_free 64 = .ok (.iload_n 2, 1) := by decide +kernel
theorem dX11_free_65 : decode cX11_free 65 = .ok (.iaload, 1) := by decide +kernel
theorem dX11_free_66 : decode cX11_free 66 = .ok (.iaload, 1) := by decide +kernel
theorem dX11_free_67 : decode cX11_free 67 = .ok (.iconst 1, 1) := by decide +kernel
theorem dX11_free_68 : decode cX11_free 68 = .ok (.iadd, 1) := by decide +kernel
theorem dX11_free_69 : decode cX11_free 69 = .ok (.ireturn, 1) := by decide +kernel
theorem dX11_free_70 : decode cX11_free 70 = .ok (.iinc 2 1, 3) := by decide +kernel
theorem dX11_free_73 : decode cX11_free 73 = .ok (.goto (-52), 3) := by decide +kernel
theorem dX11_free_76 : decode cX11_free 76 = .ok (.bipush (-2), 2) := by decide +kernel
theorem dX11_free_78 : decode cX11_free 78 = .ok (.ireturn, 1) := by decide +kernel
theorem dX11_ease_0 : decode cX11_ease 0 = .ok (.aload_n 0, 1) := by decide +kernel
theorem dX11_ease_1 : decode cX11_ease 1 = .ok (.iconst 0, 1) := by decide +kernel
theorem dX11_ease_2 : decode cX11_ease 2 = .ok (.putfield 160, 3) := by decide +kernel
theorem dX11_ease_5 : decode cX11_ease 5 = .ok (.aload_n 0, 1) := by decide +kernel
theorem dX11_ease_6 : decode cX11_ease 6 = .ok (.iload_n 1, 1) := by decide +kernel
theorem dX11_ease_7 : decode cX11_ease 7 = .ok (.invokevirtual 462, 3) := by decide +kernel
theorem dX11_ease_10 : decode cX11_ease 10 = .ok (.ifCond .ne 5, 3) := by decide +kernel
theorem dX11_ease_13 : decode cX11_ease 13 = .ok (.iconst (-1), 1) := by decide +kernel
theorem dX11_ease_14 : decode cX11_ease 14 = .ok (.ireturn, 1) := by decide +kernel
theorem dX11_ease_15 : decode cX11_ease 15 = .ok (.bipush (-2), 2) := by decide +kernel
theorem dX11_ease_17 : decode cX11_ease 17 = .ok (.istore_n 2, 1) := by decide +kernel
theorem dX11_ease_18 : decode cX11_ease 18 = .ok (.iconst 0, 1) := by decide +kernel
theorem dX11_ease_19 : decode cX11_ease 19 = .ok (.istore_n 3, 1) := by decide +kernel
theorem dX11_ease_20 : decode cX11_ease 20 = .ok (.iload_n 3, 1) := by decide +kernel
theorem dX11_ease_21 : decode cX11_ease 21 = .ok (.iconst 1, 1) := by decide +kernel
theorem dX11_ease_22 : decode cX11_ease 22 = .ok (.aload_n 0, 1) := by decide +kernel
theorem dX11_ease_23 : decode cX11_ease 23 = .ok (.getfield 240, 3) := by decide +kernel
theorem dX11_ease_26 : decode cX11_ease 26 = .ok (.ishl, 1) := by decide +kernel
theorem dX11_ease_27 : decode cX11_ease 27 = .ok (.if_icmp .ge 56, 3) := by decide +kernel
theorem dX11_ease_30 : decode cX11_ease 30 = .ok (.iload_n 2, 1) := by decide +kernel
theorem dX11_ease_31 : decode cX11_ease 31 = .ok (.ifCond .lt 17, 3) := by decide +kernel
theorem dX11_ease_34 : decode cX11_ease 34 = .ok (.iload_n 3, 1) := by decide +kernel
theorem dX11_ease_35 : decode cX11_ease 35 = .ok (.invokestatic 381, 3) := by decide +kernel
theorem dX11_ease_38 : decode cX11_ease 38 = .ok (.iload_n 2, 1) := by decide +kernel
theorem dX11_ease_39 : decode cX11_ease 39 = .ok (.invokestatic 381, 3) := by decide +kernel
theorem dX11_ease_42 : decode cX11_ease 42 = .ok (.if_icmp .lt 6, 3) := by decide +kernel
theorem dX11_ease_45 : decode cX11_ease 45 = .ok (.goto 32, 3) := by decide +kernel
theorem dX11_ease_48 : decode cX11_ease 48 = .ok (.aload_n 0, 1) := by decide +kernel
theorem dX11_ease_49 : decode cX11_ease 49 = .ok (.aload_n 0, 1) := by decide +kernel
theorem dX11_ease_50 : decode cX11_ease 50 = .ok (.getfield 94, 3) := by decide +kernel
theorem dX11_ease_53 : decode cX11_ease 53 = .ok (.iconst 0, 1) := by decide +kernel
theorem dX11_ease_54 : decode cX11_ease 54 = .ok (.iaload, 1) := by decide +kernel
theorem dX11_ease_55 : decode cX11_ease 55 = .ok (.iconst (-1), 1) := by decide +kernel
theorem dX11_ease_56 : decode cX11_ease 56 = .ok (.aload_n 0, 1) := by decide +kernel
theorem dX11_ease_57 : decode cX11_ease 57 = .ok (.getfield 97, 3) := by decide +kernel
theorem dX11_ease_60 : decode cX11_ease 60 = .ok (.iconst 0, 1) := by decide +kernel
theorem dX11_ease_61 : decode cX11_ease 61 = .ok (.iaload, 1) := by decide +kernel
theorem dX11_ease_62 : decode cX11_ease 62 = .ok (.iload_n 3, 1) := by decide +kernel
theorem dX11_ease_63 : decode cX11_ease 63 = .ok (.invokevirtual 480, 3) := by decide +kernel
theorem dX11_ease_66 : decode cX11_ease 66 = .ok (.aload_n 0, 1) := by decide +kernel
theorem dX11_ease_67 : decode cX11_ease 67 = .ok (.getfield 112, 3) := by decide +kernel
theorem dX11_ease_70 : decode cX11_ease 70 = .ok (.iload_n 1, 1) := by decide +kernel
theorem dX11_ease_71 : decode cX11_ease 71 = .ok (.iaload, 1) := by decide +kernel
theorem dX11_ease_72 : decode cX11_ease 72 = .ok (.ifCond .lt 5, 3) := by decide +kernel
theorem dX11_ease_75 : decode cX11_ease 75 = .ok (.iload_n 3, 1) := by decide +kernel
theorem dX11_ease_76 : decode cX11_ease 76 = .ok (.istore_n 2, 1) := by decide +kernel
theorem dX11_ease_77 : decode cX11_ease 77 = .ok (.iinc 3 1, 3) := by decide +kernel
theorem dX11_ease_80 : decode cX11_ease 80 = .ok (.goto (-60), 3) := by decide +kernel
theorem dX11_ease_83 : decode cX11_ease 83 = .ok (.iload_n 2, 1) := by decide +kernel
theorem dX11_ease_84 : decode cX11_ease 84 = .ok (.ireturn, 1) := by decide +kernel
theorem dX11_winsBy_0 : decode cX11_winsBy 0 = .ok (.aload_n 0, 1) := by decide +kernel
theorem dX11_winsBy_1 : decode cX11_winsBy 1 = .ok (.getfield 88, 3) := by decide +kernel
theorem dX11_winsBy_4 : decode cX11_winsBy 4 = .ok (.iload_n 1, 1) := by decide +kernel
theorem dX11_winsBy_5 : decode cX11_winsBy 5 = .ok (.iaload, 1) := by decide +kernel
theorem dX11_winsBy_6 : decode cX11_winsBy 6 = .ok (.aload_n 0, 1) := by decide +kernel
theorem dX11_winsBy_7 : decode cX11_winsBy 7 = .ok (.getfield 97, 3) := by decide +kernel
theorem dX11_winsBy_10 : decode cX11_winsBy 10 = .ok (.iconst 0, 1) := by decide +kernel
theorem dX11_winsBy_11 : decode cX11_winsBy 11 = .ok (.iaload, 1) := by decide +kernel
theorem dX11_winsBy_12 : decode cX11_winsBy 12 = .ok (.iconst (-1), 1) := by decide +kernel
theorem dX11_winsBy_13 : decode cX11_winsBy 13 = .ok (.ixor, 1) := by decide +kernel
theorem dX11_winsBy_14 : decode cX11_winsBy 14 = .ok (.iand, 1) := by decide +kernel
theorem dX11_winsBy_15 : decode cX11_winsBy 15 = .ok (.iload_n 1, 1) := by decide +kernel
theorem dX11_winsBy_16 : decode cX11_winsBy 16 = .ok (.iconst (-1), 1) := by decide +kernel
theorem dX11_winsBy_17 : decode cX11_winsBy 17 = .ok (.ixor, 1) := by decide +kernel
theorem dX11_winsBy_18 : decode cX11_winsBy 18 = .ok (.iand, 1) := by decide +kernel
theorem dX11_winsBy_19 : decode cX11_winsBy 19 = .ok (.istore_n 2, 1) := by decide +kernel
theorem dX11_winsBy_20 : decode cX11_winsBy 20 = .ok (.iconst 0, 1) := by decide +kernel
theorem dX11_winsBy_21 : decode cX11_winsBy 21 = .ok (.istore_n 3, 1) := by decide +kernel
theorem dX11_winsBy_22 : decode cX11_winsBy 22 = .ok (.iload_n 3, 1) := by decide +kernel
theorem dX11_winsBy_23 : decode cX11_winsBy 23 = .ok (.aload_n 0, 1) := by decide +kernel
theorem dX11_winsBy_24 : decode cX11_winsBy 24 = .ok (.getfield 240, 3) := by decide +kernel
theorem dX11_winsBy_27 : decode cX11_winsBy 27 = .ok (.if_icmp .ge 32, 3) := by decide +kernel
theorem dX11_winsBy_30 : decode cX11_winsBy 30 = .ok (.iload_n 2, 1) := by decide +kernel
theorem dX11_winsBy_31 : decode cX11_winsBy 31 = .ok (.iload_n 3, 1) := by decide +kernel
theorem dX11_winsBy_32 : decode cX11_winsBy 32 = .ok (.invokestatic 372, 3) := by decide +kernel
theorem dX11_winsBy_35 : decode cX11_winsBy 35 = .ok (.ifCond .eq 18, 3) := by decide +kernel
theorem dX11_winsBy_38 : decode cX11_winsBy 38 = .ok (.aload_n 0, 1) := by decide +kernel
theorem dX11_winsBy_39 : decode cX11_winsBy 39 = .ok (.getfield 130, 3) := by decide +kernel
theorem dX11_winsBy_42 : decode cX11_winsBy 42 = .ok (.iload_n 1, 1) := by decide +kernel
theorem dX11_winsBy_43 : decode cX11_winsBy 43 = .ok (.iconst 1, 1) := by decide +kernel
theorem dX11_winsBy_44 : decode cX11_winsBy 44 = .ok (.iload_n 3, 1) := by decide +kernel
theorem dX11_winsBy_45 : decode cX11_winsBy 45 = .ok (.ishl, 1) := by decide +kernel
theorem dX11_winsBy_46 : decode cX11_winsBy 46 = .ok (.ior, 1) := by decide +kernel
theorem dX11_winsBy_47 : decode cX11_winsBy 47 = .ok (.baload, 1) := by decide +kernel
theorem dX11_winsBy_48 : decode cX11_winsBy 48 = .ok (.ifCond .ne 5, 3) := by decide +kernel
theorem dX11_winsBy_51 : decode cX11_winsBy 51 = .ok (.iload_n 3, 1) := by decide +kernel
theorem dX11_winsBy_52 : decode cX11_winsBy 52 = .ok (.ireturn, 1) := by decide +kernel
theorem dX11_winsBy_53 : decode cX11_winsBy 53 = .ok (.iinc 3 1, 3) := by decide +kernel
theorem dX11_winsBy_56 : decode cX11_winsBy 56 = .ok (.goto (-34), 3) := by decide +kernel
theorem dX11_winsBy_59 : decode cX11_winsBy 59 = .ok (.iconst (-1), 1) := by decide +kernel
theorem dX11_winsBy_60 : decode cX11_winsBy 60 = .ok (.ireturn, 1) := by decide +kernel
theorem dX11_game_0 : decode cX11_game 0 = .ok (.aload_n 0, 1) := by decide +kernel
theorem dX11_game_1 : decode cX11_game 1 = .ok (.iconst 0, 1) := by decide +kernel
theorem dX11_game_2 : decode cX11_game 2 = .ok (.putfield 160, 3) := by decide +kernel
theorem dX11_game_5 : decode cX11_game 5 = .ok (.iload_n 1, 1) := by decide +kernel
theorem dX11_game_6 : decode cX11_game 6 = .ok (.iconst 0, 1) := by decide +kernel
theorem dX11_game_7 : decode cX11_game 7 = .ok (.iconst 1, 1) := by decide +kernel
theorem dX11_game_8 : decode cX11_game 8 = .ok (.invokestatic 205, 3) := by decide +kernel
theorem dX11_game_11 : decode cX11_game 11 = .ok (.ifCond .ne 5, 3) := by decide +kernel
theorem dX11_game_14 : decode cX11_game 14 = .ok (.iconst (-1), 1) := by decide +kernel
theorem dX11_game_15 : decode cX11_game 15 = .ok (.ireturn, 1) := by decide +kernel
theorem dX11_game_16 : decode cX11_game 16 = .ok (.iconst 1, 1) := by decide +kernel
theorem dX11_game_17 : decode cX11_game 17 = .ok (.aload_n 0, 1) := by decide +kernel
theorem dX11_game_18 : decode cX11_game 18 = .ok (.getfield 240, 3) := by decide +kernel
theorem dX11_game_21 : decode cX11_game 21 = .ok (.ishl, 1) := by decide +kernel
theorem dX11_game_22 : decode cX11_game 22 = .ok (.iconst 1, 1) := by decide +kernel
theorem dX11_game_23 : decode cX11_game 23 = .ok (.isub, 1) := by decide +kernel
theorem dX11_game_24 : decode cX11_game 24 = .ok (.istore_n 2, 1) := by decide +kernel
theorem dX11_game_25 : decode cX11_game 25 = .ok (.iload_n 2, 1) := by decide +kernel
theorem dX11_game_26 : decode cX11_game 26 = .ok (.ifCond .lt 28, 3) := by decide +kernel
theorem dX11_game_29 : decode cX11_game 29 = .ok (.aload_n 0, 1) := by decide +kernel
theorem dX11_game_30 : decode cX11_game 30 = .ok (.getfield 130, 3) := by decide +kernel
theorem dX11_game_33 : decode cX11_game 33 = .ok (.iload_n 2, 1) := by decide +kernel
theorem dX11_game_34 : decode cX11_game 34 = .ok (.aload_n 0, 1) := by decide +kernel
theorem dX11_game_35 : decode cX11_game 35 = .ok (.iload_n 2, 1) := by decide +kernel
theorem dX11_game_36 : decode cX11_game 36 = .ok (.invokevirtual 487, 3) := by decide +kernel
theorem dX11_game_39 : decode cX11_game 39 = .ok (.ifCond .lt 7, 3) := by decide +kernel
theorem dX11_game_42 : decode cX11_game 42 = .ok (.iconst 1, 1) := by decide +kernel
theorem dX11_game_43 : decode cX11_game 43 = .ok (.goto 4, 3) := by decide +kernel
theorem dX11_game_46 : decode cX11_game 46 = .ok (.iconst 0, 1) := by decide +kernel
theorem dX11_game_47 : decode cX11_game 47 = .ok (.bastore, 1) := by decide +kernel
theorem dX11_game_48 : decode cX11_game 48 = .ok (.iinc 2 (-1), 3) := by decide +kernel
theorem dX11_game_51 : decode cX11_game 51 = .ok (.goto (-26), 3) := by decide +kernel
theorem dX11_game_54 : decode cX11_game 54 = .ok (.aload_n 0, 1) := by decide +kernel
theorem dX11_game_55 : decode cX11_game 55 = .ok (.aload_n 0, 1) := by decide +kernel
theorem dX11_game_56 : decode cX11_game 56 = .ok (.getfield 94, 3) := by decide +kernel
theorem dX11_game_59 : decode cX11_game 59 = .ok (.iconst 0, 1) := by decide +kernel
theorem dX11_game_60 : decode cX11_game 60 = .ok (.iaload, 1) := by decide +kernel
theorem dX11_game_61 : decode cX11_game 61 = .ok (.invokevirtual 487, 3) := by decide +kernel
theorem dX11_game_64 : decode cX11_game 64 = .ok (.istore_n 2, 1) := by decide +kernel
theorem dX11_game_65 : decode cX11_game 65 = .ok (.iload_n 1, 1) := by decide +kernel
theorem dX11_game_66 : decode cX11_game 66 = .ok (.ifCond .ne 15, 3) := by decide +kernel
theorem dX11_game_69 : decode cX11_game 69 = .ok (.iload_n 2, 1) := by decide +kernel
theorem dX11_game_70 : decode cX11_game 70 = .ok (.ifCond .ge 7, 3) := by decide +kernel
theorem dX11_game_73 : decode cX11_game 73 = .ok (.iconst 1, 1) := by decide +kernel
theorem dX11_game_74 : decode cX11_game 74 = .ok (.goto 17, 3) := by decide +kernel
theorem dX11_game_77 : decode cX11_game 77 = .ok (.iconst 0, 1) := by decide +kernel
theorem dX11_game_78 : decode cX11_game 78 = .ok (.goto 13, 3) := by decide +kernel
theorem dX11_game_81 : decode cX11_game 81 = .ok (.iload_n 2, 1) := by decide +kernel
theorem dX11_game_82 : decode cX11_game 82 = .ok (.ifCond .ge 8, 3) := by decide +kernel
theorem dX11_game_85 : decode cX11_game 85 = .ok (.bipush (-2), 2) := by decide +kernel
theorem dX11_game_87 : decode cX11_game 87 = .ok (.goto 4, 3) := by decide +kernel
theorem dX11_game_90 : decode cX11_game 90 = .ok (.iload_n 2, 1) := by decide +kernel
theorem dX11_game_91 : decode cX11_game 91 = .ok (.ireturn, 1) := by decide +kernel
theorem dX11_shared_0 : decode cX11_shared 0 = .ok (.lload_n 2, 1) := by decide +kernel
theorem dX11_shared_1 : decode cX11_shared 1 = .ok (.lconst 0, 1) := by decide +kernel
theorem dX11_shared_2 : decode cX11_shared 2 = .ok (.lcmp, 1) := by decide +kernel
theorem dX11_shared_3 : decode cX11_shared 3 = .ok (.ifCond .eq 16, 3) := by decide +kernel
theorem dX11_shared_6 : decode cX11_shared 6 = .ok (.lload_n 0, 1) := by decide +kernel
theorem dX11_shared_7 : decode cX11_shared 7 = .ok (.lload_n 2, 1) := by decide +kernel
theorem dX11_shared_8 : decode cX11_shared 8 = .ok (.lrem, 1) := by decide +kernel
theorem dX11_shared_9 : decode cX11_shared 9 = .ok (.lstore 4, 2) := by decide +kernel
theorem dX11_shared_11 : decode cX11_shared 11 = .ok (.lload_n 2, 1) := by decide +kernel
theorem dX11_shared_12 : decode cX11_shared 12 = .ok (.lstore_n 0, 1) := by decide +kernel
theorem dX11_shared_13 : decode cX11_shared 13 = .ok (.lload 4, 2) := by decide +kernel
theorem dX11_shared_15 : decode cX11_shared 15 = .ok (.lstore_n 2, 1) := by decide +kernel
theorem dX11_shared_16 : decode cX11_shared 16 = .ok (.goto (-16), 3) := by decide +kernel
theorem dX11_shared_19 : decode cX11_shared 19 = .ok (.lload_n 0, 1) := by decide +kernel
theorem dX11_shared_20 : decode cX11_shared 20 = .ok (.lreturn, 1) := by decide +kernel
theorem dX11_drunk_0 : decode cX11_drunk 0 = .ok (.aload_n 0, 1) := by decide +kernel
theorem dX11_drunk_1 : decode cX11_drunk 1 = .ok (.iconst 0, 1) := by decide +kernel
theorem dX11_drunk_2 : decode cX11_drunk 2 = .ok (.putfield 160, 3) := by decide +kernel
theorem dX11_drunk_5 : decode cX11_drunk 5 = .ok (.aload_n 0, 1) := by decide +kernel
theorem dX11_drunk_6 : decode cX11_drunk 6 = .ok (.iload_n 1, 1) := by decide +kernel
theorem dX11_drunk_7 : decode cX11_drunk 7 = .ok (.invokevirtual 462, 3) := by decide +kernel
theorem dX11_drunk_10 : decode cX11_drunk 10 = .ok (.ifCond .eq 21, 3) := by decide +kernel
theorem dX11_drunk_13 : decode cX11_drunk 13 = .ok (.iload_n 2, 1) := by decide +kernel
theorem dX11_drunk_14 : decode cX11_drunk 14 = .ok (.iconst 0, 1) := by decide +kernel
theorem dX11_drunk_15 : decode cX11_drunk 15 = .ok (.iconst 5, 1) := by decide +kernel
theorem dX11_drunk_16 : decode cX11_drunk 16 = .ok (.invokestatic 205, 3) := by decide +kernel
theorem dX11_drunk_19 : decode cX11_drunk 19 = .ok (.ifCond .eq 12, 3) := by decide +kernel
theorem dX11_drunk_22 : decode cX11_drunk 22 = .ok (.iload_n 3, 1) := by decide +kernel
theorem dX11_drunk_23 : decode cX11_drunk 23 = .ok (.iconst 0, 1) := by decide +kernel
theorem dX11_drunk_24 : decode cX11_drunk 24 = .ok (.iconst 1, 1) := by decide +kernel
theorem dX11_drunk_25 : decode cX11_drunk 25 = .ok (.invokestatic 205, 3) := by decide +kernel
theorem dX11_drunk_28 : decode cX11_drunk 28 = .ok (.ifCond .ne 7, 3) := by decide +kernel
theorem dX11_drunk_31 : decode cX11_drunk 31 = .ok (.ldc2_w 490, 3) := by decide +kernel
theorem dX11_drunk_34 : decode cX11_drunk 34 = .ok (.lreturn, 1) := by decide +kernel
theorem dX11_drunk_35 : decode cX11_drunk 35 = .ok (.iconst 0, 1) := by decide +kernel
theorem dX11_drunk_36 : decode cX11_drunk 36 = .ok (.istore 4, 2) := by decide +kernel
theorem dX11_drunk_38 : decode cX11_drunk 38 = .ok (.iload 4, 2) := by decide +kernel
theorem dX11_drunk_40 : decode cX11_drunk 40 = .ok (.sipush 256, 3) := by decide +kernel
theorem dX11_drunk_43 : decode cX11_drunk 43 = .ok (.if_icmp .ge 17, 3) := by decide +kernel
theorem dX11_drunk_46 : decode cX11_drunk 46 = .ok (.aload_n 0, 1) := by decide +kernel
theorem dX11_drunk_47 : decode cX11_drunk 47 = .ok (.getfield 133, 3) := by decide +kernel
theorem dX11_drunk_50 : decode cX11_drunk 50 = .ok (.iload 4, 2) := by decide +kernel
theorem dX11_drunk_52 : decode cX11_drunk 52 = .ok (.lconst 0, 1) := by decide +kernel
theorem dX11_drunk_53 : decode cX11_drunk 53 = .ok (.lastore, 1) := by decide +kernel
theorem dX11_drunk_54 : decode cX11_drunk 54 = .ok (.iinc 4 1, 3) := by decide +kernel
theorem dX11_drunk_57 : decode cX11_drunk 57 = .ok (.goto (-19), 3) := by decide +kernel
theorem dX11_drunk_60 : decode cX11_drunk 60 = .ok (.aload_n 0, 1) := by decide +kernel
theorem dX11_drunk_61 : decode cX11_drunk 61 = .ok (.getfield 133, 3) := by decide +kernel
theorem dX11_drunk_64 : decode cX11_drunk 64 = .ok (.aload_n 0, 1) := by decide +kernel
theorem dX11_drunk_65 : decode cX11_drunk 65 = .ok (.getfield 94, 3) := by decide +kernel
theorem dX11_drunk_68 : decode cX11_drunk 68 = .ok (.iconst 0, 1) := by decide +kernel
theorem dX11_drunk_69 : decode cX11_drunk 69 = .ok (.iaload, 1) := by decide +kernel
theorem dX11_drunk_70 : decode cX11_drunk 70 = .ok (.lconst 1, 1) := by decide +kernel
theorem dX11_drunk_71 : decode cX11_drunk 71 = .ok (.lastore, 1) := by decide +kernel
theorem dX11_drunk_72 : decode cX11_drunk 72 = .ok (.lconst 1, 1) := by decide +kernel
theorem dX11_drunk_73 : decode cX11_drunk 73 = .ok (.lstore 4, 2) := by decide +kernel
theorem dX11_drunk_75 : decode cX11_drunk 75 = .ok (.iconst 0, 1) := by decide +kernel
theorem dX11_drunk_76 : decode cX11_drunk 76 = .ok (.istore 6, 2) := by decide +kernel
theorem dX11_drunk_78 : decode cX11_drunk 78 = .ok (.iload 6, 2) := by decide +kernel
theorem dX11_drunk_80 : decode cX11_drunk 80 = .ok (.iload_n 2, 1) := by decide +kernel
theorem dX11_drunk_81 : decode cX11_drunk 81 = .ok (.if_icmp .ge 202, 3) := by decide +kernel
theorem dX11_drunk_84 : decode cX11_drunk 84 = .ok (.iconst 0, 1) := by decide +kernel
theorem dX11_drunk_85 : decode cX11_drunk 85 = .ok (.istore 7, 2) := by decide +kernel
theorem dX11_drunk_87 : decode cX11_drunk 87 = .ok (.iload 7, 2) := by decide +kernel
theorem dX11_drunk_89 : decode cX11_drunk 89 = .ok (.sipush 256, 3) := by decide +kernel
theorem dX11_drunk_92 : decode cX11_drunk 92 = .ok (.if_icmp .ge 17, 3) := by decide +kernel
theorem dX11_drunk_95 : decode cX11_drunk 95 = .ok (.aload_n 0, 1) := by decide +kernel
theorem dX11_drunk_96 : decode cX11_drunk 96 = .ok (.getfield 136, 3) := by decide +kernel
theorem dX11_drunk_99 : decode cX11_drunk 99 = .ok (.iload 7, 2) := by decide +kernel
theorem dX11_drunk_101 : decode cX11_drunk 101 = .ok (.lconst 0, 1) := by decide +kernel
theorem dX11_drunk_102 : decode cX11_drunk 102 = .ok (.lastore, 1) := by decide +kernel
theorem dX11_drunk_103 : decode cX11_drunk 103 = .ok (.iinc 7 1, 3) := by decide +kernel
theorem dX11_drunk_106 : decode cX11_drunk 106 = .ok (.goto (-19), 3) := by decide +kernel
theorem dX11_drunk_109 : decode cX11_drunk 109 = .ok (.iconst 0, 1) := by decide +kernel
theorem dX11_drunk_110 : decode cX11_drunk 110 = .ok (.istore 7, 2) := by decide +kernel
theorem dX11_drunk_112 : decode cX11_drunk 112 = .ok (.iload 7, 2) := by decide +kernel
theorem dX11_drunk_114 : decode cX11_drunk 114 = .ok (.iconst 1, 1) := by decide +kernel
theorem dX11_drunk_115 : decode cX11_drunk 115 = .ok (.aload_n 0, 1) := by decide +kernel
theorem dX11_drunk_116 : decode cX11_drunk 116 = .ok (.getfield 240, 3) := by decide +kernel
theorem dX11_drunk_119 : decode cX11_drunk 119 = .ok (.ishl, 1) := by decide +kernel
theorem dX11_drunk_120 : decode cX11_drunk 120 = .ok (.if_icmp .ge 118, 3) := by decide +kernel
theorem dX11_drunk_123 : decode cX11_drunk 123 = .ok (.aload_n 0, 1) := by decide +kernel
theorem dX11_drunk_124 : decode cX11_drunk 124 = .ok (.getfield 88, 3) := by decide +kernel
theorem dX11_drunk_127 : decode cX11_drunk 127 = .ok (.iload 7, 2) := by decide +kernel
theorem dX11_drunk_129 : decode cX11_drunk 129 = .ok (.iaload, 1) := by decide +kernel
theorem dX11_drunk_130 : decode cX11_drunk 130 = .ok (.aload_n 0, 1) := by decide +kernel
theorem dX11_drunk_131 : decode cX11_drunk 131 = .ok (.getfield 97, 3) := by decide +kernel
theorem dX11_drunk_134 : decode cX11_drunk 134 = .ok (.iconst 0, 1) := by decide +kernel
theorem dX11_drunk_135 : decode cX11_drunk 135 = .ok (.iaload, 1) := by decide +kernel
theorem dX11_drunk_136 : decode cX11_drunk 136 = .ok (.iconst (-1), 1) := by decide +kernel
theorem dX11_drunk_137 : decode cX11_drunk 137 = .ok (.ixor, 1) := by decide +kernel
theorem dX11_drunk_138 : decode cX11_drunk 138 = .ok (.iand, 1) := by decide +kernel
theorem dX11_drunk_139 : decode cX11_drunk 139 = .ok (.istore 8, 2) := by decide +kernel
theorem dX11_drunk_141 : decode cX11_drunk 141 = .ok (.iload 8, 2) := by decide +kernel
theorem dX11_drunk_143 : decode cX11_drunk 143 = .ok (.ifCond .ne 24, 3) := by decide +kernel
theorem dX11_drunk_146 : decode cX11_drunk 146 = .ok (.aload_n 0, 1) := by decide +kernel
theorem dX11_drunk_147 : decode cX11_drunk 147 = .ok (.getfield 136, 3) := by decide +kernel
theorem dX11_drunk_150 : decode cX11_drunk 150 = .ok (.iload 7, 2) := by decide +kernel
theorem dX11_drunk_152 : decode cX11_drunk 152 = .ok (.dup2, 1) := by decide +kernel
theorem dX11_drunk_153 : decode cX11_drunk 153 = .ok (.laload, 1) := by decide +kernel
theorem dX11_drunk_154 : decode cX11_drunk 154 = .ok (.aload_n 0, 1) := by decide +kernel
theorem dX11_drunk_155 : decode cX11_drunk 155 = .ok (.getfield 133, 3) := by decide +kernel
theorem dX11_drunk_158 : decode cX11_drunk 158 = .ok (.iload 7, 2) := by decide +kernel
theorem dX11_drunk_160 : decode cX11_drunk 160 = .ok (.laload, 1) := by decide +kernel
theorem dX11_drunk_161 : decode cX11_drunk 161 = .ok (.ldc2_w 492, 3) := by decide +kernel
theorem dX11_drunk_164 : decode cX11_drunk 164 = .ok (.lmul, 1) := by decide +kernel
theorem dX11_drunk_165 : decode cX11_drunk 165 = .ok (.ladd, 1) := by decide +kernel
theorem dX11_drunk_166 : decode cX11_drunk 166 = .ok (.lastore, 1) := by decide +kernel
theorem dX11_drunk_167 : decode cX11_drunk 167 = .ok (.iconst 0, 1) := by decide +kernel
theorem dX11_drunk_168 : decode cX11_drunk 168 = .ok (.istore 9, 2) := by decide +kernel
theorem dX11_drunk_170 : decode cX11_drunk 170 = .ok (.iload 9, 2) := by decide +kernel
theorem dX11_drunk_172 : decode cX11_drunk 172 = .ok (.aload_n 0, 1) := by decide +kernel
theorem dX11_drunk_173 : decode cX11_drunk 173 = .ok (.getfield 240, 3) := by decide +kernel
theorem dX11_drunk_176 : decode cX11_drunk 176 = .ok (.if_icmp .ge 56, 3) := by decide +kernel
theorem dX11_drunk_179 : decode cX11_drunk 179 = .ok (.aload_n 0, 1) := by decide +kernel
theorem dX11_drunk_180 : decode cX11_drunk 180 = .ok (.getfield 136, 3) := by decide +kernel
theorem dX11_drunk_183 : decode cX11_drunk 183 = .ok (.iload 7, 2) := by decide +kernel
theorem dX11_drunk_185 : decode cX11_drunk 185 = .ok (.iconst 1, 1) := by decide +kernel
theorem dX11_drunk_186 : decode cX11_drunk 186 = .ok (.iload 9, 2) := by decide +kernel
theorem dX11_drunk_188 : decode cX11_drunk 188 = .ok (.ishl, 1) := by decide +kernel
theorem dX11_drunk_189 : decode cX11_drunk 189 = .ok (.ixor, 1) := by decide +kernel
theorem dX11_drunk_190 : decode cX11_drunk 190 = .ok (.dup2, 1) := by decide +kernel
theorem dX11_drunk_191 : decode cX11_drunk 191 = .ok (.laload, 1) := by decide +kernel
theorem dX11_drunk_192 : decode cX11_drunk 192 = .ok (.iload 8, 2) := by decide +kernel
theorem dX11_drunk_194 : decode cX11_drunk 194 = .ok (.iload 9, 2) := by decide +kernel
theorem dX11_drunk_196 : decode cX11_drunk 196 = .ok (.invokestatic 372, 3) := by decide +kernel
theorem dX11_drunk_199 : decode cX11_drunk 199 = .ok (.ifCond .eq 24, 3) := by decide +kernel
theorem dX11_drunk_202 : decode cX11_drunk 202 = .ok (.aload_n 0, 1) := by decide +kernel
theorem dX11_drunk_203 : decode cX11_drunk 203 = .ok (.getfield 133, 3) := by decide +kernel
theorem dX11_drunk_206 : decode cX11_drunk 206 = .ok (.iload 7, 2) := by decide +kernel
theorem dX11_drunk_208 : decode cX11_drunk 208 = .ok (.laload, 1) := by decide +kernel
theorem dX11_drunk_209 : decode cX11_drunk 209 = .ok (.ldc2_w 492, 3) := by decide +kernel
theorem dX11_drunk_212 : decode cX11_drunk 212 = .ok (.iload 8, 2) := by decide +kernel
theorem dX11_drunk_214 : decode cX11_drunk 214 = .ok (.invokestatic 381, 3) := by decide +kernel
theorem dX11_drunk_217 : decode cX11_drunk 217 = .ok (.i2l, 1) := by decide +kernel
theorem dX11_drunk_218 : decode cX11_drunk 218 = .ok (.ldiv, 1) := by decide +kernel
theorem dX11_drunk_219 : decode cX11_drunk 219 = .ok (.lmul, 1) := by decide +kernel
theorem dX11_drunk_220 : decode cX11_drunk 220 = .ok (.goto 4, 3) := by decide +kernel
theorem dX11_drunk_223 : decode cX11_drunk 223 = .ok (.lconst 0, 1) := by decide +kernel
theorem dX11_drunk_224 : decode cX11_drunk 224 = .ok (.ladd, 1) := by decide +kernel
theorem dX11_drunk_225 : decode cX11_drunk 225 = .ok (.lastore, 1) := by decide +kernel
theorem dX11_drunk_226 : decode cX11_drunk 226 = .ok (.iinc 9 1, 3) := by decide +kernel
theorem dX11_drunk_229 : decode cX11_drunk 229 = .ok (.goto (-59), 3) := by decide +kernel
theorem dX11_drunk_232 : decode cX11_drunk 232 = .ok (.iinc 7 1, 3) := by decide +kernel
theorem dX11_drunk_235 : decode cX11_drunk 235 = .ok (.goto (-123), 3) := by decide +kernel
theorem dX11_drunk_238 : decode cX11_drunk 238 = .ok (.iconst 0, 1) := by decide +kernel
theorem dX11_drunk_239 : decode cX11_drunk 239 = .ok (.istore 7, 2) := by decide +kernel
theorem dX11_drunk_241 : decode cX11_drunk 241 = .ok (.iload 7, 2) := by decide +kernel
theorem dX11_drunk_243 : decode cX11_drunk 243 = .ok (.sipush 256, 3) := by decide +kernel
theorem dX11_drunk_246 : decode cX11_drunk 246 = .ok (.if_icmp .ge 23, 3) := by decide +kernel
theorem dX11_drunk_249 : decode cX11_drunk 249 = .ok (.aload_n 0, 1) := by decide +kernel
theorem dX11_drunk_250 : decode cX11_drunk 250 = .ok (.getfield 133, 3) := by decide +kernel
theorem dX11_drunk_253 : decode cX11_drunk 253 = .ok (.iload 7, 2) := by decide +kernel
theorem dX11_drunk_255 : decode cX11_drunk 255 = .ok (.aload_n 0, 1) := by decide +kernel
theorem dX11_drunk_256 : decode cX11_drunk 256 = .ok (.getfield 136, 3) := by decide +kernel
theorem dX11_drunk_259 : decode cX11_drunk 259 = .ok (.iload 7, 2) := by decide +kernel
theorem dX11_drunk_261 : decode cX11_drunk 261 = .ok (.laload, 1) := by decide +kernel
theorem dX11_drunk_262 : decode cX11_drunk 262 = .ok (.lastore, 1) := by decide +kernel
theorem dX11_drunk_263 : decode cX11_drunk 263 = .ok (.iinc 7 1, 3) := by decide +kernel
theorem dX11_drunk_266 : decode cX11_drunk 266 = .ok (.goto (-25), 3) := by decide +kernel
theorem dX11_drunk_269 : decode cX11_drunk 269 = .ok (.lload 4, 2) := by decide +kernel
theorem dX11_drunk_271 : decode cX11_drunk 271 = .ok (.ldc2_w 492, 3) := by decide +kernel
theorem dX11_drunk_274 : decode cX11_drunk 274 = .ok (.lmul, 1) := by decide +kernel
theorem dX11_drunk_275 : decode cX11_drunk 275 = .ok (.lstore 4, 2) := by decide +kernel
theorem dX11_drunk_277 : decode cX11_drunk 277 = .ok (.iinc 6 1, 3) := by decide +kernel
theorem dX11_drunk_280 : decode cX11_drunk 280 = .ok (.goto (-202), 3) := by decide +kernel
theorem dX11_drunk_283 : decode cX11_drunk 283 = .ok (.lload 4, 2) := by decide +kernel
theorem dX11_drunk_285 : decode cX11_drunk 285 = .ok (.aload_n 0, 1) := by decide +kernel
theorem dX11_drunk_286 : decode cX11_drunk 286 = .ok (.getfield 133, 3) := by decide +kernel
theorem dX11_drunk_289 : decode cX11_drunk 289 = .ok (.iload_n 1, 1) := by decide +kernel
theorem dX11_drunk_290 : decode cX11_drunk 290 = .ok (.laload, 1) := by decide +kernel
theorem dX11_drunk_291 : decode cX11_drunk 291 = .ok (.invokestatic 494, 3) := by decide +kernel
theorem dX11_drunk_294 : decode cX11_drunk 294 = .ok (.lstore 6, 2) := by decide +kernel
theorem dX11_drunk_296 : decode cX11_drunk 296 = .ok (.iload_n 3, 1) := by decide +kernel
theorem dX11_drunk_297 : decode cX11_drunk 297 = .ok (.ifCond .ne 15, 3) := by decide +kernel
theorem dX11_drunk_300 : decode cX11_drunk 300 = .ok (.aload_n 0, 1) := by decide +kernel
theorem dX11_drunk_301 : decode cX11_drunk 301 = .ok (.getfield 133, 3) := by decide +kernel
theorem dX11_drunk_304 : decode cX11_drunk 304 = .ok (.iload_n 1, 1) := by decide +kernel
theorem dX11_drunk_305 : decode cX11_drunk 305 = .ok (.laload, 1) := by decide +kernel
theorem dX11_drunk_306 : decode cX11_drunk 306 = .ok (.lload 6, 2) := by decide +kernel
theorem dX11_drunk_308 : decode cX11_drunk 308 = .ok (.ldiv, 1) := by decide +kernel
theorem dX11_drunk_309 : decode cX11_drunk 309 = .ok (.goto 8, 3) := by decide +kernel
theorem dX11_drunk_312 : decode cX11_drunk 312 = .ok (.lload 4, 2) := by decide +kernel
theorem dX11_drunk_314 : decode cX11_drunk 314 = .ok (.lload 6, 2) := by decide +kernel
theorem dX11_drunk_316 : decode cX11_drunk 316 = .ok (.ldiv, 1) := by decide +kernel
theorem dX11_drunk_317 : decode cX11_drunk 317 = .ok (.lreturn, 1) := by decide +kernel
theorem dX11_holds_0 : decode cX11_holds 0 = .ok (.aload_n 0, 1) := by decide +kernel
theorem dX11_holds_1 : decode cX11_holds 1 = .ok (.iconst 0, 1) := by decide +kernel
theorem dX11_holds_2 : decode cX11_holds 2 = .ok (.putfield 160, 3) := by decide +kernel
theorem dX11_holds_5 : decode cX11_holds 5 = .ok (.iload_n 1, 1) := by decide +kernel
theorem dX11_holds_6 : decode cX11_holds 6 = .ok (.iconst 0, 1) := by decide +kernel
theorem dX11_holds_7 : decode cX11_holds 7 = .ok (.bipush 6, 2) := by decide +kernel
theorem dX11_holds_9 : decode cX11_holds 9 = .ok (.invokestatic 205, 3) := by decide +kernel
theorem dX11_holds_12 : decode cX11_holds 12 = .ok (.ifCond .eq 12, 3) := by decide +kernel
theorem dX11_holds_15 : decode cX11_holds 15 = .ok (.iload_n 2, 1) := by decide +kernel
theorem dX11_holds_16 : decode cX11_holds 16 = .ok (.iconst 0, 1) := by decide +kernel
theorem dX11_holds_17 : decode cX11_holds 17 = .ok (.iconst 1, 1) := by decide +kernel
theorem dX11_holds_18 : decode cX11_holds 18 = .ok (.invokestatic 205, 3) := by decide +kernel
theorem dX11_holds_21 : decode cX11_holds 21 = .ok (.ifCond .ne 7, 3) := by decide +kernel
theorem dX11_holds_24 : decode cX11_holds 24 = .ok (.ldc2_w 490, 3) := by decide +kernel
theorem dX11_holds_27 : decode cX11_holds 27 = .ok (.lreturn, 1) := by decide +kernel
theorem dX11_holds_28 : decode cX11_holds 28 = .ok (.lconst 1, 1) := by decide +kernel
theorem dX11_holds_29 : decode cX11_holds 29 = .ok (.lstore_n 3, 1) := by decide +kernel
theorem dX11_holds_30 : decode cX11_holds 30 = .ok (.lconst 1, 1) := by decide +kernel
theorem dX11_holds_31 : decode cX11_holds 31 = .ok (.lstore 5, 2) := by decide +kernel
theorem dX11_holds_33 : decode cX11_holds 33 = .ok (.iconst 0, 1) := by decide +kernel
theorem dX11_holds_34 : decode cX11_holds 34 = .ok (.istore 7, 2) := by decide +kernel
theorem dX11_holds_36 : decode cX11_holds 36 = .ok (.iload 7, 2) := by decide +kernel
theorem dX11_holds_38 : decode cX11_holds 38 = .ok (.iload_n 1, 1) := by decide +kernel
theorem dX11_holds_39 : decode cX11_holds 39 = .ok (.if_icmp .ge 30, 3) := by decide +kernel
theorem dX11_holds_42 : decode cX11_holds 42 = .ok (.lload_n 3, 1) := by decide +kernel
theorem dX11_holds_43 : decode cX11_holds 43 = .ok (.bipush 100, 2) := by decide +kernel
theorem dX11_holds_45 : decode cX11_holds 45 = .ok (.aload_n 0, 1) := by decide +kernel
theorem dX11_holds_46 : decode cX11_holds 46 = .ok (.getfield 24, 3) := by decide +kernel
theorem dX11_holds_49 : decode cX11_holds 49 = .ok (.iconst 0, 1) := by decide +kernel
theorem dX11_holds_50 : decode cX11_holds 50 = .ok (.iaload, 1) := by decide +kernel
theorem dX11_holds_51 : decode cX11_holds 51 = .ok (.isub, 1) := by decide +kernel
theorem dX11_holds_52 : decode cX11_holds 52 = .ok (.i2l, 1) := by decide +kernel
theorem dX11_holds_53 : decode cX11_holds 53 = .ok (.lmul, 1) := by decide +kernel
theorem dX11_holds_54 : decode cX11_holds 54 = .ok (.lstore_n 3, 1) := by decide +kernel
theorem dX11_holds_55 : decode cX11_holds 55 = .ok (.lload 5, 2) := by decide +kernel
theorem dX11_holds_57 : decode cX11_holds 57 = .ok (.ldc2_w 497, 3) := by decide +kernel
theorem dX11_holds_60 : decode cX11_holds 60 = .ok (.lmul, 1) := by decide +kernel
theorem dX11_holds_61 : decode cX11_holds 61 = .ok (.lstore 5, 2) := by decide +kernel
theorem dX11_holds_63 : decode cX11_holds 63 = .ok (.iinc 7 1, 3) := by decide +kernel
theorem dX11_holds_66 : decode cX11_holds 66 = .ok (.goto (-30), 3) := by decide +kernel
theorem dX11_holds_69 : decode cX11_holds 69 = .ok (.lload 5, 2) := by decide +kernel
theorem dX11_holds_71 : decode cX11_holds 71 = .ok (.lload_n 3, 1) := by decide +kernel
theorem dX11_holds_72 : decode cX11_holds 72 = .ok (.invokestatic 494, 3) := by decide +kernel
theorem dX11_holds_75 : decode cX11_holds 75 = .ok (.lstore 7, 2) := by decide +kernel
theorem dX11_holds_77 : decode cX11_holds 77 = .ok (.iload_n 2, 1) := by decide +kernel
theorem dX11_holds_78 : decode cX11_holds 78 = .ok (.ifCond .ne 10, 3) := by decide +kernel
theorem dX11_holds_81 : decode cX11_holds 81 = .ok (.lload_n 3, 1) := by decide +kernel
theorem dX11_holds_82 : decode cX11_holds 82 = .ok (.lload 7, 2) := by decide +kernel
theorem dX11_holds_84 : decode cX11_holds 84 = .ok (.ldiv, 1) := by decide +kernel
theorem dX11_holds_85 : decode cX11_holds 85 = .ok (.goto 8, 3) := by decide +kernel
theorem dX11_holds_88 : decode cX11_holds 88 = .ok (.lload 5, 2) := by decide +kernel
theorem dX11_holds_90 : decode cX11_holds 90 = .ok (.lload 7, 2) := by decide +kernel
theorem dX11_holds_92 : decode cX11_holds 92 = .ok (.ldiv, 1) := by decide +kernel
theorem dX11_holds_93 : decode cX11_holds 93 = .ok (.lreturn, 1) := by decide +kernel
theorem dX11_notes1_0 : decode cX11_notes1 0 = .ok (.aload_n 0, 1) := by decide +kernel
theorem dX11_notes1_1 : decode cX11_notes1 1 = .ok (.getfield 394, 3) := by decide +kernel
theorem dX11_notes1_4 : decode cX11_notes1 4 = .ok (.bipush 24, 2) := by decide +kernel
theorem dX11_notes1_6 : decode cX11_notes1 6 = .ok (.if_icmp .ne 5, 3) := by decide +kernel
theorem dX11_notes1_9 : decode cX11_notes1 9 = .ok (.iconst (-1), 1) := by decide +kernel
theorem dX11_notes1_10 : decode cX11_notes1 10 = .ok (.ireturn, 1) := by decide +kernel
theorem dX11_notes1_11 : decode cX11_notes1 11 = .ok (.iconst 3, 1) := by decide +kernel
theorem dX11_notes1_12 : decode cX11_notes1 12 = .ok (.aload_n 0, 1) := by decide +kernel
theorem dX11_notes1_13 : decode cX11_notes1 13 = .ok (.getfield 394, 3) := by decide +kernel
theorem dX11_notes1_16 : decode cX11_notes1 16 = .ok (.imul, 1) := by decide +kernel
theorem dX11_notes1_17 : decode cX11_notes1 17 = .ok (.istore 4, 2) := by decide +kernel
theorem dX11_notes1_19 : decode cX11_notes1 19 = .ok (.aload_n 0, 1) := by decide +kernel
theorem dX11_notes1_20 : decode cX11_notes1 20 = .ok (.getfield 142, 3) := by decide +kernel
theorem dX11_notes1_23 : decode cX11_notes1 23 = .ok (.iload 4, 2) := by decide +kernel
theorem dX11_notes1_25 : decode cX11_notes1 25 = .ok (.iload_n 1, 1) := by decide +kernel
theorem dX11_notes1_26 : decode cX11_notes1 26 = .ok (.iastore, 1) := by decide +kernel
theorem dX11_notes1_27 : decode cX11_notes1 27 = .ok (.aload_n 0, 1) := by decide +kernel
theorem dX11_notes1_28 : decode cX11_notes1 28 = .ok (.getfield 142, 3) := by decide +kernel
theorem dX11_notes1_31 : decode cX11_notes1 31 = .ok (.iload 4, 2) := by decide +kernel
theorem dX11_notes1_33 : decode cX11_notes1 33 = .ok (.iconst 1, 1) := by decide +kernel
theorem dX11_notes1_34 : decode cX11_notes1 34 = .ok (.iadd, 1) := by decide +kernel
theorem dX11_notes1_35 : decode cX11_notes1 35 = .ok (.iload_n 2, 1) := by decide +kernel
theorem dX11_notes1_36 : decode cX11_notes1 36 = .ok (.iastore, 1) := by decide +kernel
theorem dX11_notes1_37 : decode cX11_notes1 37 = .ok (.aload_n 0, 1) := by decide +kernel
theorem dX11_notes1_38 : decode cX11_notes1 38 = .ok (.getfield 142, 3) := by decide +kernel
theorem dX11_notes1_41 : decode cX11_notes1 41 = .ok (.iload 4, 2) := by decide +kernel
theorem dX11_notes1_43 : decode cX11_notes1 43 = .ok (.iconst 2, 1) := by decide +kernel
theorem dX11_notes1_44 : decode cX11_notes1 44 = .ok (.iadd, 1) := by decide +kernel
theorem dX11_notes1_45 : decode cX11_notes1 45 = .ok (.iload_n 3, 1) := by decide +kernel
theorem dX11_notes1_46 : decode cX11_notes1 46 = .ok (.iastore, 1) := by decide +kernel
theorem dX11_notes1_47 : decode cX11_notes1 47 = .ok (.aload_n 0, 1) := by decide +kernel
theorem dX11_notes1_48 : decode cX11_notes1 48 = .ok (.dup, 1) := by decide +kernel
theorem dX11_notes1_49 : decode cX11_notes1 49 = .ok (.getfield 394, 3) := by decide +kernel
theorem dX11_notes1_52 : decode cX11_notes1 52 = .ok (.iconst 1, 1) := by decide +kernel
theorem dX11_notes1_53 : decode cX11_notes1 53 = .ok (.iadd, 1) := by decide +kernel
theorem dX11_notes1_54 : decode cX11_notes1 54 = .ok (.putfield 394, 3) := by decide +kernel
theorem dX11_notes1_57 : decode cX11_notes1 57 = .ok (.aload_n 0, 1) := by decide +kernel
theorem dX11_notes1_58 : decode cX11_notes1 58 = .ok (.getfield 394, 3) := by decide +kernel
theorem dX11_notes1_61 : decode cX11_notes1 61 = .ok (.iconst 1, 1) := by decide +kernel
theorem dX11_notes1_62 : decode cX11_notes1 62 = .ok (.isub, 1) := by decide +kernel
theorem dX11_notes1_63 : decode cX11_notes1 63 = .ok (.ireturn, 1) := by decide +kernel
theorem dX11_note_0 : decode cX11_note 0 = .ok (.aload_n 0, 1) := by decide +kernel
theorem dX11_note_1 : decode cX11_note 1 = .ok (.iconst 0, 1) := by decide +kernel
theorem dX11_note_2 : decode cX11_note 2 = .ok (.putfield 160, 3) := by decide +kernel
theorem dX11_note_5 : decode cX11_note 5 = .ok (.aload_n 0, 1) := by decide +kernel
theorem dX11_note_6 : decode cX11_note 6 = .ok (.iload_n 1, 1) := by decide +kernel
theorem dX11_note_7 : decode cX11_note 7 = .ok (.invokevirtual 462, 3) := by decide +kernel
theorem dX11_note_10 : decode cX11_note 10 = .ok (.ifCond .eq 29, 3) := by decide +kernel
theorem dX11_note_13 : decode cX11_note 13 = .ok (.aload_n 0, 1) := by decide +kernel
theorem dX11_note_14 : decode cX11_note 14 = .ok (.iload_n 2, 1) := by decide +kernel
theorem dX11_note_15 : decode cX11_note 15 = .ok (.invokevirtual 456, 3) := by decide +kernel
theorem dX11_note_18 : decode cX11_note 18 = .ok (.ifCond .eq 21, 3) := by decide +kernel
theorem dX11_note_21 : decode cX11_note 21 = .ok (.aload_n 0, 1) := by decide +kernel
theorem dX11_note_22 : decode cX11_note 22 = .ok (.iload_n 1, 1) := by decide +kernel
theorem dX11_note_23 : decode cX11_note 23 = .ok (.iload_n 2, 1) := by decide +kernel
theorem dX11_note_24 : decode cX11_note 24 = .ok (.iload_n 3, 1) := by decide +kernel
theorem dX11_note_25 : decode cX11_note 25 = .ok (.ifCond .eq 7, 3) := by decide +kernel
theorem dX11_note_28 : decode cX11_note 28 = .ok (.iconst 1, 1) := by decide +kernel
theorem dX11_note_29 : decode cX11_note 29 = .ok (.goto 4, 3) := by decide +kernel
theorem dX11_note_32 : decode cX11_note 32 = .ok (.iconst 0, 1) := by decide +kernel
theorem dX11_note_33 : decode cX11_note 33 = .ok (.invokevirtual 499, 3) := by decide +kernel
theorem dX11_note_36 : decode cX11_note 36 = .ok (.goto 4, 3) := by decide +kernel
theorem dX11_note_39 : decode cX11_note 39 = .ok (.iconst (-1), 1) := by decide +kernel
theorem dX11_note_40 : decode cX11_note 40 = .ok (.ireturn, 1) := by decide +kernel
theorem dX11_strike_0 : decode cX11_strike 0 = .ok (.aload_n 0, 1) := by decide +kernel
theorem dX11_strike_1 : decode cX11_strike 1 = .ok (.iconst 0, 1) := by decide +kernel
theorem dX11_strike_2 : decode cX11_strike 2 = .ok (.putfield 160, 3) := by decide +kernel
theorem dX11_strike_5 : decode cX11_strike 5 = .ok (.iload_n 1, 1) := by decide +kernel
theorem dX11_strike_6 : decode cX11_strike 6 = .ok (.ifCond .lt 11, 3) := by decide +kernel
theorem dX11_strike_9 : decode cX11_strike 9 = .ok (.iload_n 1, 1) := by decide +kernel
theorem dX11_strike_10 : decode cX11_strike 10 = .ok (.aload_n 0, 1) := by decide +kernel
theorem dX11_strike_11 : decode cX11_strike 11 = .ok (.getfield 394, 3) := by decide +kernel
theorem dX11_strike_14 : decode cX11_strike 14 = .ok (.if_icmp .lt 7, 3) := by decide +kernel
theorem dX11_strike_17 : decode cX11_strike 17 = .ok (.iconst (-1), 1) := by decide +kernel
theorem dX11_strike_18 : decode cX11_strike 18 = .ok (.goto 10, 3) := by decide +kernel
theorem dX11_strike_21 : decode cX11_strike 21 = .ok (.aload_n 0, 1) := by decide +kernel
theorem dX11_strike_22 : decode cX11_strike 22 = .ok (.iconst (-1), 1) := by decide +kernel
theorem dX11_strike_23 : decode cX11_strike 23 = .ok (.iload_n 1, 1) := by decide +kernel
theorem dX11_strike_24 : decode cX11_strike 24 = .ok (.iconst 0, 1) := by decide +kernel
theorem dX11_strike_25 : decode cX11_strike 25 = .ok (.invokevirtual 499, 3) := by decide +kernel
theorem dX11_strike_28 : decode cX11_strike 28 = .ok (.ireturn, 1) := by decide +kernel
theorem dX11_known_0 : decode cX11_known 0 = .ok (.aload_n 0, 1) := by decide +kernel
theorem dX11_known_1 : decode cX11_known 1 = .ok (.iconst 0, 1) := by decide +kernel
theorem dX11_known_2 : decode cX11_known 2 = .ok (.putfield 160, 3) := by decide +kernel
theorem dX11_known_5 : decode cX11_known 5 = .ok (.iload_n 1, 1) := by decide +kernel
theorem dX11_known_6 : decode cX11_known 6 = .ok (.iconst (-1), 1) := by decide +kernel
theorem dX11_known_7 : decode cX11_known 7 = .ok (.aload_n 0, 1) := by decide +kernel
theorem dX11_known_8 : decode cX11_known 8 = .ok (.getfield 394, 3) := by decide +kernel
theorem dX11_known_11 : decode cX11_known 11 = .ok (.invokestatic 205, 3) := by decide +kernel
theorem dX11_known_14 : decode cX11_known 14 = .ok (.ifCond .ne 5, 3) := by decide +kernel
theorem dX11_known_17 : decode cX11_known 17 = .ok (.iconst 0, 1) := by decide +kernel
theorem dX11_known_18 : decode cX11_known 18 = .ok (.ireturn, 1) := by decide +kernel
theorem dX11_known_19 : decode cX11_known 19 = .ok (.aload_n 0, 1) := by decide +kernel
theorem dX11_known_20 : decode cX11_known 20 = .ok (.iload_n 1, 1) := by decide +kernel
theorem dX11_known_21 : decode cX11_known 21 = .ok (.putfield 139, 3) := by decide +kernel
theorem dX11_known_24 : decode cX11_known 24 = .ok (.iconst 1, 1) := by decide +kernel
theorem dX11_known_25 : decode cX11_known 25 = .ok (.ireturn, 1) := by decide +kernel
theorem dX11_knownBy_0 : decode cX11_knownBy 0 = .ok (.aload_n 0, 1) := by decide +kernel
theorem dX11_knownBy_1 : decode cX11_knownBy 1 = .ok (.getfield 139, 3) := by decide +kernel
theorem dX11_knownBy_4 : decode cX11_knownBy 4 = .ok (.ifCond .ge 10, 3) := by decide +kernel
theorem dX11_knownBy_7 : decode cX11_knownBy 7 = .ok (.aload_n 0, 1) := by decide +kernel
theorem dX11_knownBy_8 : decode cX11_knownBy 8 = .ok (.getfield 394, 3) := by decide +kernel
theorem dX11_knownBy_11 : decode cX11_knownBy 11 = .ok (.goto 7, 3) := by decide +kernel
theorem dX11_knownBy_14 : decode cX11_knownBy 14 = .ok (.aload_n 0, 1) := by decide +kernel
theorem dX11_knownBy_15 : decode cX11_knownBy 15 = .ok (.getfield 139, 3) := by decide +kernel
theorem dX11_knownBy_18 : decode cX11_knownBy 18 = .ok (.ireturn, 1) := by decide +kernel
theorem dX11_isBy_0 : decode cX11_isBy 0 = .ok (.iload_n 0, 1) := by decide +kernel
theorem dX11_isBy_1 : decode cX11_isBy 1 = .ok (.ifCond .eq 27, 3) := by decide +kernel
theorem dX11_isBy_4 : decode cX11_isBy 4 = .ok (.iload_n 1, 1) := by decide +kernel
theorem dX11_isBy_5 : decode cX11_isBy 5 = .ok (.iload_n 0, 1) := by decide +kernel
theorem dX11_isBy_6 : decode cX11_isBy 6 = .ok (.iconst 1, 1) := by decide +kernel
theorem dX11_isBy_7 : decode cX11_isBy 7 = .ok (.isub, 1) := by decide +kernel
theorem dX11_isBy_8 : decode cX11_isBy 8 = .ok (.iconst 2, 1) := by decide +kernel
theorem dX11_isBy_9 : decode cX11_isBy 9 = .ok (.idiv, 1) := by decide +kernel
theorem dX11_isBy_10 : decode cX11_isBy 10 = .ok (.invokestatic 372, 3) := by decide +kernel
theorem dX11_isBy_13 : decode cX11_isBy 13 = .ok (.iload_n 0, 1) := by decide +kernel
theorem dX11_isBy_14 : decode cX11_isBy 14 = .ok (.iconst 2, 1) := by decide +kernel
theorem dX11_isBy_15 : decode cX11_isBy 15 = .ok (.irem, 1) := by decide +kernel
theorem dX11_isBy_16 : decode cX11_isBy 16 = .ok (.iconst 1, 1) := by decide +kernel
theorem dX11_isBy_17 : decode cX11_isBy 17 = .ok (.if_icmp .ne 7, 3) := by decide +kernel
theorem dX11_isBy_20 : decode cX11_isBy 20 = .ok (.iconst 1, 1) := by decide +kernel
theorem dX11_isBy_21 : decode cX11_isBy 21 = .ok (.goto 4, 3) := by decide +kernel
theorem dX11_isBy_24 : decode cX11_isBy 24 = .ok (.iconst 0, 1) := by decide +kernel
theorem dX11_isBy_25 : decode cX11_isBy 25 = .ok (.if_icmp .ne 7, 3) := by decide +kernel
theorem dX11_isBy_28 : decode cX11_isBy 28 = .ok (.iconst 1, 1) := by decide +kernel
theorem dX11_isBy_29 : decode cX11_isBy 29 = .ok (.goto 4, 3) := by decide +kernel
theorem dX11_isBy_32 : decode cX11_isBy 32 = .ok (.iconst 0, 1) := by decide +kernel
theorem dX11_isBy_33 : decode cX11_isBy 33 = .ok (.ireturn, 1) := by decide +kernel
theorem dX11_fitsOf_0 : decode cX11_fitsOf 0 = .ok (.iconst 0, 1) := by decide +kernel
theorem dX11_fitsOf_1 : decode cX11_fitsOf 1 = .ok (.istore_n 2, 1) := by decide +kernel
theorem dX11_fitsOf_2 : decode cX11_fitsOf 2 = .ok (.iload_n 2, 1) := by decide +kernel
theorem dX11_fitsOf_3 : decode cX11_fitsOf 3 = .ok (.aload_n 0, 1) := by decide +kernel
theorem dX11_fitsOf_4 : decode cX11_fitsOf 4 = .ok (.invokevirtual 502, 3) := by decide +kernel
theorem dX11_fitsOf_7 : decode cX11_fitsOf 7 = .ok (.if_icmp .ge 16, 3) := by decide +kernel
theorem dX11_fitsOf_10 : decode cX11_fitsOf 10 = .ok (.aload_n 0, 1) := by decide +kernel
theorem dX11_fitsOf_11 : decode cX11_fitsOf 11 = .ok (.getfield 145, 3) := by decide +kernel
theorem dX11_fitsOf_14 : decode cX11_fitsOf 14 = .ok (.iload_n 2, 1) := by decide +kernel
theorem dX11_fitsOf_15 : decode cX11_fitsOf 15 = .ok (.iconst 1, 1) := by decide +kernel
theorem dX11_fitsOf_16 : decode cX11_fitsOf 16 = .ok (.bastore, 1) := by decide +kernel
theorem dX11_fitsOf_17 : decode cX11_fitsOf 17 = .ok (.iinc 2 1, 3) := by decide +kernel
theorem dX11_fitsOf_20 : decode cX11_fitsOf 20 = .ok (.goto (-18), 3) := by decide +kernel
theorem dX11_fitsOf_23 : decode cX11_fitsOf 23 = .ok (.aload_n 0, 1) := by decide +kernel
theorem dX11_fitsOf_24 : decode cX11_fitsOf 24 = .ok (.invokevirtual 502, 3) := by decide +kernel
theorem dX11_fitsOf_27 : decode cX11_fitsOf 27 = .ok (.iconst 1, 1) := by decide +kernel
theorem dX11_fitsOf_28 : decode cX11_fitsOf 28 = .ok (.isub, 1) := by decide +kernel
theorem dX11_fitsOf_29 : decode cX11_fitsOf 29 = .ok (.istore_n 2, 1) := by decide +kernel
theorem dX11_fitsOf_30 : decode cX11_fitsOf 30 = .ok (.iload_n 2, 1) := by decide +kernel
theorem dX11_fitsOf_31 : decode cX11_fitsOf 31 = .ok (.ifCond .lt 45, 3) := by decide +kernel
theorem dX11_fitsOf_34 : decode cX11_fitsOf 34 = .ok (.aload_n 0, 1) := by decide +kernel
theorem dX11_fitsOf_35 : decode cX11_fitsOf 35 = .ok (.getfield 145, 3) := by decide +kernel
theorem dX11_fitsOf_38 : decode cX11_fitsOf 38 = .ok (.iload_n 2, 1) := by decide +kernel
theorem dX11_fitsOf_39 : decode cX11_fitsOf 39 = .ok (.baload, 1) := by decide +kernel
theorem dX11_fitsOf_40 : decode cX11_fitsOf 40 = .ok (.ifCond .eq 30, 3) := by decide +kernel
theorem dX11_fitsOf_43 : decode cX11_fitsOf 43 = .ok (.aload_n 0, 1) := by decide +kernel
theorem dX11_fitsOf_44 : decode cX11_fitsOf 44 = .ok (.getfield 142, 3) := by decide +kernel
theorem dX11_fitsOf_47 : decode cX11_fitsOf 47 = .ok (.iconst 3, 1) := by decide +kernel
theorem dX11_fitsOf_48 : decode cX11_fitsOf 48 = .ok (.iload_n 2, 1) := by decide +kernel
theorem dX11_fitsOf_49 : decode cX11_fitsOf 49 = .ok (.imul, 1) := by decide +kernel
theorem dX11_fitsOf_50 : decode cX11_fitsOf 50 = .ok (.iaload, 1) := by decide +kernel
theorem dX11_fitsOf_51 : decode cX11_fitsOf 51 = .ok (.ifCond .ge 19, 3) := by decide +kernel
theorem dX11_fitsOf_54 : decode cX11_fitsOf 54 = .ok (.aload_n 0, 1) := by decide +kernel
theorem dX11_fitsOf_55 : decode cX11_fitsOf 55 = .ok (.getfield 145, 3) := by decide +kernel
theorem dX11_fitsOf_58 : decode cX11_fitsOf 58 = .ok (.aload_n 0, 1) := by decide +kernel
theorem dX11_fitsOf_59 : decode cX11_fitsOf 59 = .ok (.getfield 142, 3) := by decide +kernel
theorem dX11_fitsOf_62 : decode cX11_fitsOf 62 = .ok (.iconst 3, 1) := by decide +kernel
theorem dX11_fitsOf_63 : decode cX11_fitsOf 63 = .ok (.iload_n 2, 1) := by decide +kernel
theorem dX11_fitsOf_64 : decode cX11_fitsOf 64 = .ok (.imul, 1) := by decide +kernel
theorem dX11_fitsOf_65 : decode cX11_fitsOf 65 = .ok (.iconst 1, 1) := by decide +kernel
theorem dX11_fitsOf_66 : decode cX11_fitsOf 66 = .ok (.iadd, 1) := by decide +kernel
theorem dX11_fitsOf_67 : decode cX11_fitsOf 67 = .ok (.iaload, 1) := by decide +kernel
theorem dX11_fitsOf_68 : decode cX11_fitsOf 68 = .ok (.iconst 0, 1) := by decide +kernel
theorem dX11_fitsOf_69 : decode cX11_fitsOf 69 = .ok (.bastore, 1) := by decide +kernel
theorem dX11_fitsOf_70 : decode cX11_fitsOf 70 = .ok (.iinc 2 (-1), 3) := by decide +kernel
theorem dX11_fitsOf_73 : decode cX11_fitsOf 73 = .ok (.goto (-43), 3) := by decide +kernel
theorem dX11_fitsOf_76 : decode cX11_fitsOf 76 = .ok (.iconst 0, 1) := by decide +kernel
theorem dX11_fitsOf_77 : decode cX11_fitsOf 77 = .ok (.istore_n 2, 1) := by decide +kernel
theorem dX11_fitsOf_78 : decode cX11_fitsOf 78 = .ok (.iconst 0, 1) := by decide +kernel
theorem dX11_fitsOf_79 : decode cX11_fitsOf 79 = .ok (.istore_n 3, 1) := by decide +kernel
theorem dX11_fitsOf_80 : decode cX11_fitsOf 80 = .ok (.iload_n 3, 1) := by decide +kernel
theorem dX11_fitsOf_81 : decode cX11_fitsOf 81 = .ok (.iconst 2, 1) := by decide +kernel
theorem dX11_fitsOf_82 : decode cX11_fitsOf 82 = .ok (.aload_n 0, 1) := by decide +kernel
theorem dX11_fitsOf_83 : decode cX11_fitsOf 83 = .ok (.getfield 240, 3) := by decide +kernel
theorem dX11_fitsOf_86 : decode cX11_fitsOf 86 = .ok (.imul, 1) := by decide +kernel
theorem dX11_fitsOf_87 : decode cX11_fitsOf 87 = .ok (.if_icmp .gt 147, 3) := by decide +kernel
theorem dX11_fitsOf_90 : decode cX11_fitsOf 90 = .ok (.iload_n 3, 1) := by decide +kernel
theorem dX11_fitsOf_91 : decode cX11_fitsOf 91 = .ok (.ifCond .le 15, 3) := by decide +kernel
theorem dX11_fitsOf_94 : decode cX11_fitsOf 94 = .ok (.iload_n 3, 1) := by decide +kernel
theorem dX11_fitsOf_95 : decode cX11_fitsOf 95 = .ok (.iconst 1, 1) := by decide +kernel
theorem dX11_fitsOf_96 : decode cX11_fitsOf 96 = .ok (.isub, 1) := by decide +kernel
theorem dX11_fitsOf_97 : decode cX11_fitsOf 97 = .ok (.iconst 2, 1) := by decide +kernel
theorem dX11_fitsOf_98 : decode cX11_fitsOf 98 = .ok (.idiv, 1) := by decide +kernel
theorem dX11_fitsOf_99 : decode cX11_fitsOf 99 = .ok (.iload_n 1, 1) := by decide +kernel
theorem dX11_fitsOf_100 : decode cX11_fitsOf 100 = .ok (.if_icmp .ne 6, 3) := by decide +kernel
theorem dX11_fitsOf_103 : decode cX11_fitsOf 103 = .ok (.goto 125, 3) := by decide +kernel
theorem dX11_fitsOf_106 : decode cX11_fitsOf 106 = .ok (.iconst 1, 1) := by decide +kernel
theorem dX11_fitsOf_107 : decode cX11_fitsOf 107 = .ok (.istore 4, 2) := by decide +kernel
theorem dX11_fitsOf_109 : decode cX11_fitsOf 109 = .ok (.iconst 0, 1) := by decide +kernel
theorem dX11_fitsOf_110 : decode cX11_fitsOf 110 = .ok (.istore 5, 2) := by decide +kernel
theorem dX11_fitsOf_112 : decode cX11_fitsOf 112 = .ok (.iload 5, 2) := by decide +kernel
theorem dX11_fitsOf_114 : decode cX11_fitsOf 114 = .ok (.aload_n 0, 1) := by decide +kernel
theorem dX11_fitsOf_115 : decode cX11_fitsOf 115 = .ok (.invokevirtual 502, 3) := by decide +kernel
theorem dX11_fitsOf_118 : decode cX11_fitsOf 118 = .ok (.if_icmp .ge 95, 3) := by decide +kernel
theorem dX11_fitsOf_121 : decode cX11_fitsOf 121 = .ok (.iconst 3, 1) := by decide +kernel
theorem dX11_fitsOf_122 : decode cX11_fitsOf 122 = .ok (.iload 5, 2) := by decide +kernel
theorem dX11_fitsOf_124 : decode cX11_fitsOf 124 = .ok (.imul, 1) := by decide +kernel
theorem dX11_fitsOf_125 : decode cX11_fitsOf 125 = .ok (.istore 6, 2) := by decide +kernel
theorem dX11_fitsOf_127 : decode cX11_fitsOf 127 = .ok (.aload_n 0, 1) := by decide +kernel
theorem dX11_fitsOf_128 : decode cX11_fitsOf 128 = .ok (.getfield 145, 3) := by decide +kernel
theorem dX11_fitsOf_131 : decode cX11_fitsOf 131 = .ok (.iload 5, 2) := by decide +kernel
theorem dX11_fitsOf_133 : decode cX11_fitsOf 133 = .ok (.baload, 1) := by decide +kernel
theorem dX11_fitsOf_134 : decode cX11_fitsOf 134 = .ok (.ifCond .eq 73, 3) := by decide +kernel
theorem dX11_fitsOf_137 : decode cX11_fitsOf 137 = .ok (.aload_n 0, 1) := by decide +kernel
theorem dX11_fitsOf_138 : decode cX11_fitsOf 138 = .ok (.getfield 142, 3) := by decide +kernel
theorem dX11_fitsOf_141 : decode cX11_fitsOf 141 = .ok (.iload 6, 2) := by decide +kernel
theorem dX11_fitsOf_143 : decode cX11_fitsOf 143 = .ok (.iaload, 1) := by decide +kernel
theorem dX11_fitsOf_144 : decode cX11_fitsOf 144 = .ok (.ifCond .lt 63, 3) := by decide +kernel
theorem dX11_fitsOf_147 : decode cX11_fitsOf 147 = .ok (.aload_n 0, 1) := by decide +kernel
theorem dX11_fitsOf_148 : decode cX11_fitsOf 148 = .ok (.getfield 142, 3) := by decide +kernel
theorem dX11_fitsOf_151 : decode cX11_fitsOf 151 = .ok (.iload 6, 2) := by decide +kernel
theorem dX11_fitsOf_153 : decode cX11_fitsOf 153 = .ok (.iconst 1, 1) := by decide +kernel
theorem dX11_fitsOf_154 : decode cX11_fitsOf 154 = .ok (.iadd, 1) := by decide +kernel
theorem dX11_fitsOf_155 : decode cX11_fitsOf 155 = .ok (.iaload, 1) := by decide +kernel
theorem dX11_fitsOf_156 : decode cX11_fitsOf 156 = .ok (.iload_n 1, 1) := by decide +kernel
theorem dX11_fitsOf_157 : decode cX11_fitsOf 157 = .ok (.if_icmp .eq 6, 3) := by decide +kernel
theorem dX11_fitsOf_160 : decode cX11_fitsOf 160 = .ok (.goto 47, 3) := by decide +kernel
theorem dX11_fitsOf_163 : decode cX11_fitsOf 163 = .ok (.iload 4, 2) := by decide +kernel
theorem dX11_fitsOf_165 : decode cX11_fitsOf 165 = .ok (.ifCond .eq 39, 3) := by decide +kernel
theorem dX11_fitsOf_168 : decode cX11_fitsOf 168 = .ok (.iload_n 3, 1) := by decide +kernel
theorem dX11_fitsOf_169 : decode cX11_fitsOf 169 = .ok (.aload_n 0, 1) := by decide +kernel
theorem dX11_fitsOf_170 : decode cX11_fitsOf 170 = .ok (.getfield 142, 3) := by decide +kernel
theorem dX11_fitsOf_173 : decode cX11_fitsOf 173 = .ok (.iload 6, 2) := by decide +kernel
theorem dX11_fitsOf_175 : decode cX11_fitsOf 175 = .ok (.iaload, 1) := by decide +kernel
theorem dX11_fitsOf_176 : decode cX11_fitsOf 176 = .ok (.invokestatic 505, 3) := by decide +kernel
theorem dX11_fitsOf_179 : decode cX11_fitsOf 179 = .ok (.aload_n 0, 1) := by decide +kernel
theorem dX11_fitsOf_180 : decode cX11_fitsOf 180 = .ok (.getfield 142, 3) := by decide +kernel
theorem dX11_fitsOf_183 : decode cX11_fitsOf 183 = .ok (.iload 6, 2) := by decide +kernel
theorem dX11_fitsOf_185 : decode cX11_fitsOf 185 = .ok (.iconst 2, 1) := by decide +kernel
theorem dX11_fitsOf_186 : decode cX11_fitsOf 186 = .ok (.iadd, 1) := by decide +kernel
theorem dX11_fitsOf_187 : decode cX11_fitsOf 187 = .ok (.iaload, 1) := by decide +kernel
theorem dX11_fitsOf_188 : decode cX11_fitsOf 188 = .ok (.iconst 1, 1) := by decide +kernel
theorem dX11_fitsOf_189 : decode cX11_fitsOf 189 = .ok (.if_icmp .ne 7, 3) := by decide +kernel
theorem dX11_fitsOf_192 : decode cX11_fitsOf 192 = .ok (.iconst 1, 1) := by decide +kernel
theorem dX11_fitsOf_193 : decode cX11_fitsOf 193 = .ok (.goto 4, 3) := by decide +kernel
theorem dX11_fitsOf_196 : decode cX11_fitsOf 196 = .ok (.iconst 0, 1) := by decide +kernel
theorem dX11_fitsOf_197 : decode cX11_fitsOf 197 = .ok (.if_icmp .ne 7, 3) := by decide +kernel
theorem dX11_fitsOf_200 : decode cX11_fitsOf 200 = .ok (.iconst 1, 1) := by decide +kernel
theorem dX11_fitsOf_201 : decode cX11_fitsOf 201 = .ok (.goto 4, 3) := by decide +kernel
theorem dX11_fitsOf_204 : decode cX11_fitsOf 204 = .ok (.iconst 0, 1) := by decide +kernel
theorem dX11_fitsOf_205 : decode cX11_fitsOf 205 = .ok (.istore 4, 2) := by decide +kernel
theorem dX11_fitsOf_207 : decode cX11_fitsOf 207 = .ok (.iinc 5 1, 3) := by decide +kernel
theorem dX11_fitsOf_210 : decode cX11_fitsOf 210 = .ok (.goto (-98), 3) := by decide +kernel
theorem dX11_fitsOf_213 : decode cX11_fitsOf 213 = .ok (.iload_n 2, 1) := by decide +kernel
theorem dX11_fitsOf_214 : decode cX11_fitsOf 214 = .ok (.iload 4, 2) := by decide +kernel
theorem dX11_fitsOf_216 : decode cX11_fitsOf 216 = .ok (.ifCond .eq 9, 3) := by decide +kernel
theorem dX11_fitsOf_219 : decode cX11_fitsOf 219 = .ok (.iconst 1, 1) := by decide +kernel
theorem dX11_fitsOf_220 : decode cX11_fitsOf 220 = .ok (.iload_n 3, 1) := by decide +kernel
theorem dX11_fitsOf_221 : decode cX11_fitsOf 221 = .ok (.ishl, 1) := by decide +kernel
theorem dX11_fitsOf_222 : decode cX11_fitsOf 222 = .ok (.goto 4, 3) := by decide +kernel
theorem dX11_fitsOf_225 : decode cX11_fitsOf 225 = .ok (.iconst 0, 1) := by decide +kernel
theorem dX11_fitsOf_226 : decode cX11_fitsOf 226 = .ok (.ior, 1) := by decide +kernel
theorem dX11_fitsOf_227 : decode cX11_fitsOf 227 = .ok (.istore_n 2, 1) := by decide +kernel
theorem dX11_fitsOf_228 : decode cX11_fitsOf 228 = .ok (.iinc 3 1, 3) := by decide +kernel
theorem dX11_fitsOf_231 : decode cX11_fitsOf 231 = .ok (.goto (-151), 3) := by decide +kernel
theorem dX11_fitsOf_234 : decode cX11_fitsOf 234 = .ok (.iload_n 2, 1) := by decide +kernel
theorem dX11_fitsOf_235 : decode cX11_fitsOf 235 = .ok (.ireturn, 1) := by decide +kernel
theorem dX11_fits_0 : decode cX11_fits 0 = .ok (.aload_n 0, 1) := by decide +kernel
theorem dX11_fits_1 : decode cX11_fits 1 = .ok (.iconst 0, 1) := by decide +kernel
theorem dX11_fits_2 : decode cX11_fits 2 = .ok (.putfield 160, 3) := by decide +kernel
theorem dX11_fits_5 : decode cX11_fits 5 = .ok (.aload_n 0, 1) := by decide +kernel
theorem dX11_fits_6 : decode cX11_fits 6 = .ok (.iload_n 1, 1) := by decide +kernel
theorem dX11_fits_7 : decode cX11_fits 7 = .ok (.invokevirtual 456, 3) := by decide +kernel
theorem dX11_fits_10 : decode cX11_fits 10 = .ok (.ifCond .eq 11, 3) := by decide +kernel
theorem dX11_fits_13 : decode cX11_fits 13 = .ok (.aload_n 0, 1) := by decide +kernel
theorem dX11_fits_14 : decode cX11_fits 14 = .ok (.iload_n 1, 1) := by decide +kernel
theorem dX11_fits_15 : decode cX11_fits 15 = .ok (.invokevirtual 508, 3) := by decide +kernel
theorem dX11_fits_18 : decode cX11_fits 18 = .ok (.goto 4, 3) := by decide +kernel
theorem dX11_fits_21 : decode cX11_fits 21 = .ok (.iconst (-1), 1) := by decide +kernel
theorem dX11_fits_22 : decode cX11_fits 22 = .ok (.ireturn, 1) := by decide +kernel
theorem dX11_ask_0 : decode cX11_ask 0 = .ok (.aload_n 0, 1) := by decide +kernel
theorem dX11_ask_1 : decode cX11_ask 1 = .ok (.iconst 0, 1) := by decide +kernel
theorem dX11_ask_2 : decode cX11_ask 2 = .ok (.putfield 160, 3) := by decide +kernel
theorem dX11_ask_5 : decode cX11_ask 5 = .ok (.aload_n 0, 1) := by decide +kernel
theorem dX11_ask_6 : decode cX11_ask 6 = .ok (.iload_n 1, 1) := by decide +kernel
theorem dX11_ask_7 : decode cX11_ask 7 = .ok (.invokevirtual 456, 3) := by decide +kernel
theorem dX11_ask_10 : decode cX11_ask 10 = .ok (.ifCond .eq 12, 3) := by decide +kernel
theorem dX11_ask_13 : decode cX11_ask 13 = .ok (.iload_n 2, 1) := by decide +kernel
theorem dX11_ask_14 : decode cX11_ask 14 = .ok (.iconst 0, 1) := by decide +kernel
theorem dX11_ask_15 : decode cX11_ask 15 = .ok (.iconst 1, 1) := by decide +kernel
theorem dX11_ask_16 : decode cX11_ask 16 = .ok (.invokestatic 205, 3) := by decide +kernel
theorem dX11_ask_19 : decode cX11_ask 19 = .ok (.ifCond .ne 5, 3) := by decide +kernel
theorem dX11_ask_22 : decode cX11_ask 22 = .ok (.iconst (-1), 1) := by decide +kernel
theorem dX11_ask_23 : decode cX11_ask 23 = .ok (.ireturn, 1) := by decide +kernel
theorem dX11_ask_24 : decode cX11_ask 24 = .ok (.aload_n 0, 1) := by decide +kernel
theorem dX11_ask_25 : decode cX11_ask 25 = .ok (.iload_n 1, 1) := by decide +kernel
theorem dX11_ask_26 : decode cX11_ask 26 = .ok (.invokevirtual 508, 3) := by decide +kernel
theorem dX11_ask_29 : decode cX11_ask 29 = .ok (.istore_n 3, 1) := by decide +kernel
theorem dX11_ask_30 : decode cX11_ask 30 = .ok (.iconst 0, 1) := by decide +kernel
theorem dX11_ask_31 : decode cX11_ask 31 = .ok (.istore 4, 2) := by decide +kernel
theorem dX11_ask_33 : decode cX11_ask 33 = .ok (.iconst (-1), 1) := by decide +kernel
theorem dX11_ask_34 : decode cX11_ask 34 = .ok (.istore 5, 2) := by decide +kernel
theorem dX11_ask_36 : decode cX11_ask 36 = .ok (.iconst 0, 1) := by decide +kernel
theorem dX11_ask_37 : decode cX11_ask 37 = .ok (.istore 6, 2) := by decide +kernel
theorem dX11_ask_39 : decode cX11_ask 39 = .ok (.iload 6, 2) := by decide +kernel
theorem dX11_ask_41 : decode cX11_ask 41 = .ok (.iconst 1, 1) := by decide +kernel
theorem dX11_ask_42 : decode cX11_ask 42 = .ok (.aload_n 0, 1) := by decide +kernel
theorem dX11_ask_43 : decode cX11_ask 43 = .ok (.getfield 240, 3) := by decide +kernel
theorem dX11_ask_46 : decode cX11_ask 46 = .ok (.ishl, 1) := by decide +kernel
theorem dX11_ask_47 : decode cX11_ask 47 = .ok (.if_icmp .ge 105, 3) := by decide +kernel
theorem dX11_ask_50 : decode cX11_ask 50 = .ok (.iconst 0, 1) := by decide +kernel
theorem dX11_ask_51 : decode cX11_ask 51 = .ok (.istore 7, 2) := by decide +kernel
theorem dX11_ask_53 : decode cX11_ask 53 = .ok (.iconst 0, 1) := by decide +kernel
theorem dX11_ask_54 : decode cX11_ask 54 = .ok (.istore 8, 2) := by decide +kernel
theorem dX11_ask_56 : decode cX11_ask 56 = .ok (.iload 8, 2) := by decide +kernel
theorem dX11_ask_58 : decode cX11_ask 58 = .ok (.bipush 17, 2) := by decide +kernel
theorem dX11_ask_60 : decode cX11_ask 60 = .ok (.if_icmp .ge 38, 3) := by decide +kernel
theorem dX11_ask_63 : decode cX11_ask 63 = .ok (.iload 7, 2) := by decide +kernel
theorem dX11_ask_65 : decode cX11_ask 65 = .ok (.iload_n 3, 1) := by decide +kernel
theorem dX11_ask_66 : decode cX11_ask 66 = .ok (.iload 8, 2) := by decide +kernel
theorem dX11_ask_68 : decode cX11_ask 68 = .ok (.invokestatic 372, 3) := by decide +kernel
theorem dX11_ask_71 : decode cX11_ask 71 = .ok (.ifCond .eq 17, 3) := by decide +kernel
theorem dX11_ask_74 : decode cX11_ask 74 = .ok (.iload 8, 2) := by decide +kernel
theorem dX11_ask_76 : decode cX11_ask 76 = .ok (.iload 6, 2) := by decide +kernel
theorem dX11_ask_78 : decode cX11_ask 78 = .ok (.invokestatic 505, 3) := by decide +kernel
theorem dX11_ask_81 : decode cX11_ask 81 = .ok (.ifCond .eq 7, 3) := by decide +kernel
theorem dX11_ask_84 : decode cX11_ask 84 = .ok (.iconst 1, 1) := by decide +kernel
theorem dX11_ask_85 : decode cX11_ask 85 = .ok (.goto 4, 3) := by decide +kernel
theorem dX11_ask_88 : decode cX11_ask 88 = .ok (.iconst 0, 1) := by decide +kernel
theorem dX11_ask_89 : decode cX11_ask 89 = .ok (.iadd, 1) := by decide +kernel
theorem dX11_ask_90 : decode cX11_ask 90 = .ok (.istore 7, 2) := by decide +kernel
theorem dX11_ask_92 : decode cX11_ask 92 = .ok (.iinc 8 1, 3) := by decide +kernel
theorem dX11_ask_95 : decode cX11_ask 95 = .ok (.goto (-39), 3) := by decide +kernel
theorem dX11_ask_98 : decode cX11_ask 98 = .ok (.iload_n 3, 1) := by decide +kernel
theorem dX11_ask_99 : decode cX11_ask 99 = .ok (.invokestatic 381, 3) := by decide +kernel
theorem dX11_ask_102 : decode cX11_ask 102 = .ok (.iload 7, 2) := by decide +kernel
theorem dX11_ask_104 : decode cX11_ask 104 = .ok (.isub, 1) := by decide +kernel
theorem dX11_ask_105 : decode cX11_ask 105 = .ok (.istore 8, 2) := by decide +kernel
theorem dX11_ask_107 : decode cX11_ask 107 = .ok (.iload 7, 2) := by decide +kernel
theorem dX11_ask_109 : decode cX11_ask 109 = .ok (.iload 8, 2) := by decide +kernel
theorem dX11_ask_111 : decode cX11_ask 111 = .ok (.if_icmp .le 8, 3) := by decide +kernel
theorem dX11_ask_114 : decode cX11_ask 114 = .ok (.iload 7, 2) := by decide +kernel
theorem dX11_ask_116 : decode cX11_ask 116 = .ok (.goto 5, 3) := by decide +kernel
theorem dX11_ask_119 : decode cX11_ask 119 = .ok (.iload 8, 2) := by decide +kernel
theorem dX11_ask_121 : decode cX11_ask 121 = .ok (.istore 9, 2) := by decide +kernel
theorem dX11_ask_123 : decode cX11_ask 123 = .ok (.iload 5, 2) := by decide +kernel
theorem dX11_ask_125 : decode cX11_ask 125 = .ok (.ifCond .lt 13, 3) := by decide +kernel
theorem dX11_ask_128 : decode cX11_ask 128 = .ok (.iload 9, 2) := by decide +kernel
theorem dX11_ask_130 : decode cX11_ask 130 = .ok (.iload 5, 2) := by decide +kernel
theorem dX11_ask_132 : decode cX11_ask 132 = .ok (.if_icmp .lt 6, 3) := by decide +kernel
theorem dX11_ask_135 : decode cX11_ask 135 = .ok (.goto 11, 3) := by decide +kernel
theorem dX11_ask_138 : decode cX11_ask 138 = .ok (.iload 6, 2) := by decide +kernel
theorem dX11_ask_140 : decode cX11_ask 140 = .ok (.istore 4, 2) := by decide +kernel
theorem dX11_ask_142 : decode cX11_ask 142 = .ok (.iload 9, 2) := by decide +kernel
theorem dX11_ask_144 : decode cX11_ask 144 = .ok (.istore 5, 2) := by decide +kernel
theorem dX11_ask_146 : decode cX11_ask 146 = .ok (.iinc 6 1, 3) := by decide +kernel
theorem dX11_ask_149 : decode cX11_ask 149 = .ok (.goto (-110), 3) := by decide +kernel
theorem dX11_ask_152 : decode cX11_ask 152 = .ok (.iload_n 2, 1) := by decide +kernel
theorem dX11_ask_153 : decode cX11_ask 153 = .ok (.ifCond .ne 8, 3) := by decide +kernel
theorem dX11_ask_156 : decode cX11_ask 156 = .ok (.iload 4, 2) := by decide +kernel
theorem dX11_ask_158 : decode cX11_ask 158 = .ok (.goto 5, 3) := by decide +kernel
theorem dX11_ask_161 : decode cX11_ask 161 = .ok (.iload 5, 2) := by decide +kernel
theorem dX11_ask_163 : decode cX11_ask 163 = .ok (.ireturn, 1) := by decide +kernel
theorem dX11_chance_0 : decode cX11_chance 0 = .ok (.aload_n 0, 1) := by decide +kernel
theorem dX11_chance_1 : decode cX11_chance 1 = .ok (.iconst 0, 1) := by decide +kernel
theorem dX11_chance_2 : decode cX11_chance 2 = .ok (.putfield 160, 3) := by decide +kernel
theorem dX11_chance_5 : decode cX11_chance 5 = .ok (.iload_n 1, 1) := by decide +kernel
theorem dX11_chance_6 : decode cX11_chance 6 = .ok (.ifCond .lt 21, 3) := by decide +kernel
theorem dX11_chance_9 : decode cX11_chance 9 = .ok (.iload_n 2, 1) := by decide +kernel
theorem dX11_chance_10 : decode cX11_chance 10 = .ok (.iconst 1, 1) := by decide +kernel
theorem dX11_chance_11 : decode cX11_chance 11 = .ok (.bipush 99, 2) := by decide +kernel
theorem dX11_chance_13 : decode cX11_chance 13 = .ok (.invokestatic 205, 3) := by decide +kernel
theorem dX11_chance_16 : decode cX11_chance 16 = .ok (.ifCond .eq 11, 3) := by decide +kernel
theorem dX11_chance_19 : decode cX11_chance 19 = .ok (.aload_n 0, 1) := by decide +kernel
theorem dX11_chance_20 : decode cX11_chance 20 = .ok (.iload_n 3, 1) := by decide +kernel
theorem dX11_chance_21 : decode cX11_chance 21 = .ok (.invokevirtual 456, 3) := by decide +kernel
theorem dX11_chance_24 : decode cX11_chance 24 = .ok (.ifCond .ne 5, 3) := by decide +kernel
theorem dX11_chance_27 : decode cX11_chance 27 = .ok (.iconst (-1), 1) := by decide +kernel
theorem dX11_chance_28 : decode cX11_chance 28 = .ok (.ireturn, 1) := by decide +kernel
theorem dX11_chance_29 : decode cX11_chance 29 = .ok (.aload_n 0, 1) := by decide +kernel
theorem dX11_chance_30 : decode cX11_chance 30 = .ok (.getfield 387, 3) := by decide +kernel
theorem dX11_chance_33 : decode cX11_chance 33 = .ok (.lstore 4, 2) := by decide +kernel
theorem dX11_chance_35 : decode cX11_chance 35 = .ok (.aload_n 0, 1) := by decide +kernel
theorem dX11_chance_36 : decode cX11_chance 36 = .ok (.iload_n 1, 1) := by decide +kernel
theorem dX11_chance_37 : decode cX11_chance 37 = .ok (.i2l, 1) := by decide +kernel
theorem dX11_chance_38 : decode cX11_chance 38 = .ok (.putfield 387, 3) := by decide +kernel
theorem dX11_chance_41 : decode cX11_chance 41 = .ok (.iconst 0, 1) := by decide +kernel
theorem dX11_chance_42 : decode cX11_chance 42 = .ok (.istore 6, 2) := by decide +kernel
theorem dX11_chance_44 : decode cX11_chance 44 = .ok (.iconst 0, 1) := by decide +kernel
theorem dX11_chance_45 : decode cX11_chance 45 = .ok (.istore 7, 2) := by decide +kernel
theorem dX11_chance_47 : decode cX11_chance 47 = .ok (.iload 7, 2) := by decide +kernel
theorem dX11_chance_49 : decode cX11_chance 49 = .ok (.bipush 10, 2) := by decide +kernel
theorem dX11_chance_51 : decode cX11_chance 51 = .ok (.if_icmp .ge 38, 3) := by decide +kernel
theorem dX11_chance_54 : decode cX11_chance 54 = .ok (.aload_n 0, 1) := by decide +kernel
theorem dX11_chance_55 : decode cX11_chance 55 = .ok (.invokevirtual 470, 3) := by decide +kernel
theorem dX11_chance_58 : decode cX11_chance 58 = .ok (.aload_n 0, 1) := by decide +kernel
theorem dX11_chance_59 : decode cX11_chance 59 = .ok (.iconst 1, 1) := by decide +kernel
theorem dX11_chance_60 : decode cX11_chance 60 = .ok (.putfield 403, 3) := by decide +kernel
theorem dX11_chance_63 : decode cX11_chance 63 = .ok (.aload_n 0, 1) := by decide +kernel
theorem dX11_chance_64 : decode cX11_chance 64 = .ok (.iload_n 2, 1) := by decide +kernel
theorem dX11_chance_65 : decode cX11_chance 65 = .ok (.invokevirtual 473, 3) := by decide +kernel
theorem dX11_chance_68 : decode cX11_chance 68 = .ok (.iload 6, 2) := by decide +kernel
theorem dX11_chance_70 : decode cX11_chance 70 = .ok (.aload_n 0, 1) := by decide +kernel
theorem dX11_chance_71 : decode cX11_chance 71 = .ok (.getfield 97, 3) := by decide +kernel
theorem dX11_chance_74 : decode cX11_chance 74 = .ok (.iconst 1, 1) := by decide +kernel
theorem dX11_chance_75 : decode cX11_chance 75 = .ok (.iaload, 1) := by decide +kernel
theorem dX11_chance_76 : decode cX11_chance 76 = .ok (.iload_n 3, 1) := by decide +kernel
theorem dX11_chance_77 : decode cX11_chance 77 = .ok (.ishr, 1) := by decide +kernel
theorem dX11_chance_78 : decode cX11_chance 78 = .ok (.iconst 1, 1) := by decide +kernel
theorem dX11_chance_79 : decode cX11_chance 79 = .ok (.iand, 1) := by decide +kernel
theorem dX11_chance_80 : decode cX11_chance 80 = .ok (.iadd, 1) := by decide +kernel
theorem dX11_chance_81 : decode cX11_chance 81 = .ok (.istore 6, 2) := by decide +kernel
theorem dX11_chance_83 : decode cX11_chance 83 = .ok (.iinc 7 1, 3) := by decide +kernel
theorem dX11_chance_86 : decode cX11_chance 86 = .ok (.goto (-39), 3) := by decide +kernel
theorem dX11_chance_89 : decode cX11_chance 89 = .ok (.aload_n 0, 1) := by decide +kernel
theorem dX11_chance_90 : decode cX11_chance 90 = .ok (.iconst 0, 1) := by decide +kernel
theorem dX11_chance_91 : decode cX11_chance 91 = .ok (.putfield 403, 3) := by decide +kernel
theorem dX11_chance_94 : decode cX11_chance 94 = .ok (.aload_n 0, 1) := by decide +kernel
theorem dX11_chance_95 : decode cX11_chance 95 = .ok (.lload 4, 2) := by decide +kernel
theorem dX11_chance_97 : decode cX11_chance 97 = .ok (.putfield 387, 3) := by decide +kernel
theorem dX11_chance_100 : decode cX11_chance 100 = .ok (.iload 6, 2) := by decide +kernel
theorem dX11_chance_102 : decode cX11_chance 102 = .ok (.ireturn, 1) := by decide +kernel
theorem dX11_tried_0 : decode cX11_tried 0 = .ok (.aload_n 0, 1) := by decide +kernel
theorem dX11_tried_1 : decode cX11_tried 1 = .ok (.iconst 0, 1) := by decide +kernel
theorem dX11_tried_2 : decode cX11_tried 2 = .ok (.putfield 160, 3) := by decide +kernel
theorem dX11_tried_5 : decode cX11_tried 5 = .ok (.iload_n 1, 1) := by decide +kernel
theorem dX11_tried_6 : decode cX11_tried 6 = .ok (.iconst 0, 1) := by decide +kernel
theorem dX11_tried_7 : decode cX11_tried 7 = .ok (.iconst 4, 1) := by decide +kernel
theorem dX11_tried_8 : decode cX11_tried 8 = .ok (.invokestatic 205, 3) := by decide +kernel
theorem dX11_tried_11 : decode cX11_tried 11 = .ok (.ifCond .eq 34, 3) := by decide +kernel
theorem dX11_tried_14 : decode cX11_tried 14 = .ok (.iload_n 3, 1) := by decide +kernel
theorem dX11_tried_15 : decode cX11_tried 15 = .ok (.iconst 0, 1) := by decide +kernel
theorem dX11_tried_16 : decode cX11_tried 16 = .ok (.sipush 200, 3) := by decide +kernel
theorem dX11_tried_19 : decode cX11_tried 19 = .ok (.invokestatic 205, 3) := by decide +kernel
theorem dX11_tried_22 : decode cX11_tried 22 = .ok (.ifCond .eq 23, 3) := by decide +kernel
theorem dX11_tried_25 : decode cX11_tried 25 = .ok (.iload_n 1, 1) := by decide +kernel
theorem dX11_tried_26 : decode cX11_tried 26 = .ok (.iconst 2, 1) := by decide +kernel
theorem dX11_tried_27 : decode cX11_tried 27 = .ok (.if_icmp .ne 14, 3) := by decide +kernel
theorem dX11_tried_30 : decode cX11_tried 30 = .ok (.aload_n 0, 1) := by decide +kernel
theorem dX11_tried_31 : decode cX11_tried 31 = .ok (.iload_n 2, 1) := by decide +kernel
theorem dX11_tried_32 : decode cX11_tried 32 = .ok (.invokevirtual 456, 3) := by decide +kernel
theorem dX11_tried_35 : decode cX11_tried 35 = .ok (.ifCond .ne 12, 3) := by decide +kernel
theorem dX11_tried_38 : decode cX11_tried 38 = .ok (.goto 7, 3) := by decide +kernel
theorem dX11_tried_41 : decode cX11_tried 41 = .ok (.iload_n 2, 1) := by decide +kernel
theorem dX11_tried_42 : decode cX11_tried 42 = .ok (.ifCond .eq 5, 3) := by decide +kernel
theorem dX11_tried_45 : decode cX11_tried 45 = .ok (.iconst (-1), 1) := by decide +kernel
theorem dX11_tried_46 : decode cX11_tried 46 = .ok (.ireturn, 1) := by decide +kernel
theorem dX11_tried_47 : decode cX11_tried 47 = .ok (.aload_n 0, 1) := by decide +kernel
theorem dX11_tried_48 : decode cX11_tried 48 = .ok (.invokevirtual 470, 3) := by decide +kernel
theorem dX11_tried_51 : decode cX11_tried 51 = .ok (.aload_n 0, 1) := by decide +kernel
theorem dX11_tried_52 : decode cX11_tried 52 = .ok (.iload_n 1, 1) := by decide +kernel
theorem dX11_tried_53 : decode cX11_tried 53 = .ok (.ifCond .ne 7, 3) := by decide +kernel
theorem dX11_tried_56 : decode cX11_tried 56 = .ok (.iconst 1, 1) := by decide +kernel
theorem dX11_tried_57 : decode cX11_tried 57 = .ok (.goto 4, 3) := by decide +kernel
theorem dX11_tried_60 : decode cX11_tried 60 = .ok (.iconst 0, 1) := by decide +kernel
theorem dX11_tried_61 : decode cX11_tried 61 = .ok (.putfield 406, 3) := by decide +kernel
theorem dX11_tried_64 : decode cX11_tried 64 = .ok (.aload_n 0, 1) := by decide +kernel
theorem dX11_tried_65 : decode cX11_tried 65 = .ok (.iload_n 1, 1) := by decide +kernel
theorem dX11_tried_66 : decode cX11_tried 66 = .ok (.iconst 1, 1) := by decide +kernel
theorem dX11_tried_67 : decode cX11_tried 67 = .ok (.if_icmp .ne 7, 3) := by decide +kernel
theorem dX11_tried_70 : decode cX11_tried 70 = .ok (.iconst 1, 1) := by decide +kernel
theorem dX11_tried_71 : decode cX11_tried 71 = .ok (.goto 4, 3) := by decide +kernel
theorem dX11_tried_74 : decode cX11_tried 74 = .ok (.iconst 0, 1) := by decide +kernel
theorem dX11_tried_75 : decode cX11_tried 75 = .ok (.putfield 409, 3) := by decide +kernel
theorem dX11_tried_78 : decode cX11_tried 78 = .ok (.aload_n 0, 1) := by decide +kernel
theorem dX11_tried_79 : decode cX11_tried 79 = .ok (.iload_n 1, 1) := by decide +kernel
theorem dX11_tried_80 : decode cX11_tried 80 = .ok (.iconst 2, 1) := by decide +kernel
theorem dX11_tried_81 : decode cX11_tried 81 = .ok (.if_icmp .ne 7, 3) := by decide +kernel
theorem dX11_tried_84 : decode cX11_tried 84 = .ok (.iload_n 2, 1) := by decide +kernel
theorem dX11_tried_85 : decode cX11_tried 85 = .ok (.goto 4, 3) := by decide +kernel
theorem dX11_tried_88 : decode cX11_tried 88 = .ok (.iconst (-1), 1) := by decide +kernel
theorem dX11_tried_89 : decode cX11_tried 89 = .ok (.putfield 418, 3) := by decide +kernel
theorem dX11_tried_92 : decode cX11_tried 92 = .ok (.aload_n 0, 1) := by decide +kernel
theorem dX11_tried_93 : decode cX11_tried 93 = .ok (.iload_n 1, 1) := by decide +kernel
theorem dX11_tried_94 : decode cX11_tried 94 = .ok (.iconst 3, 1) := by decide +kernel
theorem dX11_tried_95 : decode cX11_tried 95 = .ok (.if_icmp .ne 7, 3) := by decide +kernel
theorem dX11_tried_98 : decode cX11_tried 98 = .ok (.iconst 1, 1) := by decide +kernel
theorem dX11_tried_99 : decode cX11_tried 99 = .ok (.goto 4, 3) := by decide +kernel
theorem dX11_tried_102 : decode cX11_tried 102 = .ok (.iconst 0, 1) := by decide +kernel
theorem dX11_tried_103 : decode cX11_tried 103 = .ok (.putfield 412, 3) := by decide +kernel
theorem dX11_tried_106 : decode cX11_tried 106 = .ok (.aload_n 0, 1) := by decide +kernel
theorem dX11_tried_107 : decode cX11_tried 107 = .ok (.iload_n 1, 1) := by decide +kernel
theorem dX11_tried_108 : decode cX11_tried 108 = .ok (.iconst 4, 1) := by decide +kernel
theorem dX11_tried_109 : decode cX11_tried 109 = .ok (.if_icmp .ne 7, 3) := by decide +kernel
theorem dX11_tried_112 : decode cX11_tried 112 = .ok (.iconst 1, 1) := by decide +kernel
theorem dX11_tried_113 : decode cX11_tried 113 = .ok (.goto 4, 3) := by decide +kernel
theorem dX11_tried_116 : decode cX11_tried 116 = .ok (.iconst 0, 1) := by decide +kernel
theorem dX11_tried_117 : decode cX11_tried 117 = .ok (.putfield 415, 3) := by decide +kernel
theorem dX11_tried_120 : decode cX11_tried 120 = .ok (.aload_n 0, 1) := by decide +kernel
theorem dX11_tried_121 : decode cX11_tried 121 = .ok (.iload_n 3, 1) := by decide +kernel
theorem dX11_tried_122 : decode cX11_tried 122 = .ok (.invokevirtual 473, 3) := by decide +kernel
theorem dX11_tried_125 : decode cX11_tried 125 = .ok (.aload_n 0, 1) := by decide +kernel
theorem dX11_tried_126 : decode cX11_tried 126 = .ok (.invokevirtual 391, 3) := by decide +kernel
theorem dX11_tried_129 : decode cX11_tried 129 = .ok (.aload_n 0, 1) := by decide +kernel
theorem dX11_tried_130 : decode cX11_tried 130 = .ok (.getfield 100, 3) := by decide +kernel
theorem dX11_tried_133 : decode cX11_tried 133 = .ok (.iconst 1, 1) := by decide +kernel
theorem dX11_tried_134 : decode cX11_tried 134 = .ok (.iaload, 1) := by decide +kernel
theorem dX11_tried_135 : decode cX11_tried 135 = .ok (.aload_n 0, 1) := by decide +kernel
theorem dX11_tried_136 : decode cX11_tried 136 = .ok (.getfield 100, 3) := by decide +kernel
theorem dX11_tried_139 : decode cX11_tried 139 = .ok (.iconst 0, 1) := by decide +kernel
theorem dX11_tried_140 : decode cX11_tried 140 = .ok (.iaload, 1) := by decide +kernel
theorem dX11_tried_141 : decode cX11_tried 141 = .ok (.isub, 1) := by decide +kernel
theorem dX11_tried_142 : decode cX11_tried 142 = .ok (.ireturn, 1) := by decide +kernel
theorem dX11_put_0 : decode cX11_put 0 = .ok (.aload_n 1, 1) := by decide +kernel
theorem dX11_put_1 : decode cX11_put 1 = .ok (.iload_n 2, 1) := by decide +kernel
theorem dX11_put_2 : decode cX11_put 2 = .ok (.aload_n 0, 1) := by decide +kernel
theorem dX11_put_3 : decode cX11_put 3 = .ok (.getfield 94, 3) := by decide +kernel
theorem dX11_put_6 : decode cX11_put 6 = .ok (.iconst 0, 1) := by decide +kernel
theorem dX11_put_7 : decode cX11_put 7 = .ok (.iaload, 1) := by decide +kernel
theorem dX11_put_8 : decode cX11_put 8 = .ok (.iastore, 1) := by decide +kernel
theorem dX11_put_9 : decode cX11_put 9 = .ok (.aload_n 1, 1) := by decide +kernel
theorem dX11_put_10 : decode cX11_put 10 = .ok (.iload_n 2, 1) := by decide +kernel
theorem dX11_put_11 : decode cX11_put 11 = .ok (.iconst 1, 1) := by decide +kernel
theorem dX11_put_12 : decode cX11_put 12 = .ok (.iadd, 1) := by decide +kernel
theorem dX11_put_13 : decode cX11_put 13 = .ok (.aload_n 0, 1) := by decide +kernel
theorem dX11_put_14 : decode cX11_put 14 = .ok (.getfield 97, 3) := by decide +kernel
theorem dX11_put_17 : decode cX11_put 17 = .ok (.iconst 0, 1) := by decide +kernel
theorem dX11_put_18 : decode cX11_put 18 = .ok (.iaload, 1) := by decide +kernel
theorem dX11_put_19 : decode cX11_put 19 = .ok (.iastore, 1) := by decide +kernel
theorem dX11_put_20 : decode cX11_put 20 = .ok (.aload_n 1, 1) := by decide +kernel
theorem dX11_put_21 : decode cX11_put 21 = .ok (.iload_n 2, 1) := by decide +kernel
theorem dX11_put_22 : decode cX11_put 22 = .ok (.iconst 2, 1) := by decide +kernel
theorem dX11_put_23 : decode cX11_put 23 = .ok (.iadd, 1) := by decide +kernel
theorem dX11_put_24 : decode cX11_put 24 = .ok (.aload_n 0, 1) := by decide +kernel
theorem dX11_put_25 : decode cX11_put 25 = .ok (.getfield 100, 3) := by decide +kernel
theorem dX11_put_28 : decode cX11_put 28 = .ok (.iconst 0, 1) := by decide +kernel
theorem dX11_put_29 : decode cX11_put 29 = .ok (.iaload, 1) := by decide +kernel
theorem dX11_put_30 : decode cX11_put 30 = .ok (.iastore, 1) := by decide +kernel
theorem dX11_put_31 : decode cX11_put 31 = .ok (.iconst 0, 1) := by decide +kernel
theorem dX11_put_32 : decode cX11_put 32 = .ok (.istore_n 3, 1) := by decide +kernel
theorem dX11_put_33 : decode cX11_put 33 = .ok (.iload_n 3, 1) := by decide +kernel
theorem dX11_put_34 : decode cX11_put 34 = .ok (.bipush 8, 2) := by decide +kernel
theorem dX11_put_36 : decode cX11_put 36 = .ok (.if_icmp .ge 22, 3) := by decide +kernel
theorem dX11_put_39 : decode cX11_put 39 = .ok (.aload_n 1, 1) := by decide +kernel
theorem dX11_put_40 : decode cX11_put 40 = .ok (.iload_n 2, 1) := by decide +kernel
theorem dX11_put_41 : decode cX11_put 41 = .ok (.iconst 3, 1) := by decide +kernel
theorem dX11_put_42 : decode cX11_put 42 = .ok (.iadd, 1) := by decide +kernel
theorem dX11_put_43 : decode cX11_put 43 = .ok (.iload_n 3, 1) := by decide +kernel
theorem dX11_put_44 : decode cX11_put 44 = .ok (.iadd, 1) := by decide +kernel
theorem dX11_put_45 : decode cX11_put 45 = .ok (.aload_n 0, 1) := by decide +kernel
theorem dX11_put_46 : decode cX11_put 46 = .ok (.getfield 109, 3) := by decide +kernel
theorem dX11_put_49 : decode cX11_put 49 = .ok (.iload_n 3, 1) := by decide +kernel
theorem dX11_put_50 : decode cX11_put 50 = .ok (.iaload, 1) := by decide +kernel
theorem dX11_put_51 : decode cX11_put 51 = .ok (.iastore, 1) := by decide +kernel
theorem dX11_put_52 : decode cX11_put 52 = .ok (.iinc 3 1, 3) := by decide +kernel
theorem dX11_put_55 : decode cX11_put 55 = .ok (.goto (-22), 3) := by decide +kernel
theorem dX11_put_58 : decode cX11_put 58 = .ok (.return_, 1) := by decide +kernel
theorem dX11_take_0 : decode cX11_take 0 = .ok (.aload_n 0, 1) := by decide +kernel
theorem dX11_take_1 : decode cX11_take 1 = .ok (.getfield 94, 3) := by decide +kernel
theorem dX11_take_4 : decode cX11_take 4 = .ok (.iconst 0, 1) := by decide +kernel
theorem dX11_take_5 : decode cX11_take 5 = .ok (.aload_n 1, 1) := by decide +kernel
theorem dX11_take_6 : decode cX11_take 6 = .ok (.iload_n 2, 1) := by decide +kernel
theorem dX11_take_7 : decode cX11_take 7 = .ok (.iaload, 1) := by decide +kernel
theorem dX11_take_8 : decode cX11_take 8 = .ok (.iastore, 1) := by decide +kernel
theorem dX11_take_9 : decode cX11_take 9 = .ok (.aload_n 0, 1) := by decide +kernel
theorem dX11_take_10 : decode cX11_take 10 = .ok (.getfield 97, 3) := by decide +kernel
theorem dX11_take_13 : decode cX11_take 13 = .ok (.iconst 0, 1) := by decide +kernel
theorem dX11_take_14 : decode cX11_take 14 = .ok (.aload_n 1, 1) := by decide +kernel
theorem dX11_take_15 : decode cX11_take 15 = .ok (.iload_n 2, 1) := by decide +kernel
theorem dX11_take_16 : decode cX11_take 16 = .ok (.iconst 1, 1) := by decide +kernel
theorem dX11_take_17 : decode cX11_take 17 = .ok (.iadd, 1) := by decide +kernel
theorem dX11_take_18 : decode cX11_take 18 = .ok (.iaload, 1) := by decide +kernel
theorem dX11_take_19 : decode cX11_take 19 = .ok (.iastore, 1) := by decide +kernel
theorem dX11_take_20 : decode cX11_take 20 = .ok (.aload_n 0, 1) := by decide +kernel
theorem dX11_take_21 : decode cX11_take 21 = .ok (.getfield 100, 3) := by decide +kernel
theorem dX11_take_24 : decode cX11_take 24 = .ok (.iconst 0, 1) := by decide +kernel
theorem dX11_take_25 : decode cX11_take 25 = .ok (.aload_n 1, 1) := by decide +kernel
theorem dX11_take_26 : decode cX11_take 26 = .ok (.iload_n 2, 1) := by decide +kernel
theorem dX11_take_27 : decode cX11_take 27 = .ok (.iconst 2, 1) := by decide +kernel
theorem dX11_take_28 : decode cX11_take 28 = .ok (.iadd, 1) := by decide +kernel
theorem dX11_take_29 : decode cX11_take 29 = .ok (.iaload, 1) := by decide +kernel
theorem dX11_take_30 : decode cX11_take 30 = .ok (.iastore, 1) := by decide +kernel
theorem dX11_take_31 : decode cX11_take 31 = .ok (.iconst 0, 1) := by decide +kernel
theorem dX11_take_32 : decode cX11_take 32 = .ok (.istore_n 3, 1) := by decide +kernel
theorem dX11_take_33 : decode cX11_take 33 = .ok (.iload_n 3, 1) := by decide +kernel
theorem dX11_take_34 : decode cX11_take 34 = .ok (.bipush 8, 2) := by decide +kernel
theorem dX11_take_36 : decode cX11_take 36 = .ok (.if_icmp .ge 22, 3) := by decide +kernel
theorem dX11_take_39 : decode cX11_take 39 = .ok (.aload_n 0, 1) := by decide +kernel
theorem dX11_take_40 : decode cX11_take 40 = .ok (.getfield 109, 3) := by decide +kernel
theorem dX11_take_43 : decode cX11_take 43 = .ok (.iload_n 3, 1) := by decide +kernel
theorem dX11_take_44 : decode cX11_take 44 = .ok (.aload_n 1, 1) := by decide +kernel
theorem dX11_take_45 : decode cX11_take 45 = .ok (.iload_n 2, 1) := by decide +kernel
theorem dX11_take_46 : decode cX11_take 46 = .ok (.iconst 3, 1) := by decide +kernel
theorem dX11_take_47 : decode cX11_take 47 = .ok (.iadd, 1) := by decide +kernel
theorem dX11_take_48 : decode cX11_take 48 = .ok (.iload_n 3, 1) := by decide +kernel
theorem dX11_take_49 : decode cX11_take 49 = .ok (.iadd, 1) := by decide +kernel
theorem dX11_take_50 : decode cX11_take 50 = .ok (.iaload, 1) := by decide +kernel
theorem dX11_take_51 : decode cX11_take 51 = .ok (.iastore, 1) := by decide +kernel
theorem dX11_take_52 : decode cX11_take 52 = .ok (.iinc 3 1, 3) := by decide +kernel
theorem dX11_take_55 : decode cX11_take 55 = .ok (.goto (-22), 3) := by decide +kernel
theorem dX11_take_58 : decode cX11_take 58 = .ok (.return_, 1) := by decide +kernel
theorem dX11_remember_0 : decode cX11_remember 0 = .ok (.aload_n 0, 1) := by decide +kernel
theorem dX11_remember_1 : decode cX11_remember 1 = .ok (.getfield 397, 3) := by decide +kernel
theorem dX11_remember_4 : decode cX11_remember 4 = .ok (.bipush 20, 2) := by decide +kernel
theorem dX11_remember_6 : decode cX11_remember 6 = .ok (.if_icmp .ne 43, 3) := by decide +kernel
theorem dX11_remember_9 : decode cX11_remember 9 = .ok (.iconst 0, 1) := by decide +kernel
theorem dX11_remember_10 : decode cX11_remember 10 = .ok (.istore_n 1, 1) := by decide +kernel
theorem dX11_remember_11 : decode cX11_remember 11 = .ok (.iload_n 1, 1) := by decide +kernel
theorem dX11_remember_12 : decode cX11_remember 12 = .ok (.sipush 209, 3) := by decide +kernel
theorem dX11_remember_15 : decode cX11_remember 15 = .ok (.if_icmp .ge 24, 3) := by decide +kernel
theorem dX11_remember_18 : decode cX11_remember 18 = .ok (.aload_n 0, 1) := by decide +kernel
theorem dX11_remember_19 : decode cX11_remember 19 = .ok (.getfield 148, 3) := by decide +kernel
theorem dX11_remember_22 : decode cX11_remember 22 = .ok (.iload_n 1, 1) := by decide +kernel
theorem dX11_remember_23 : decode cX11_remember 23 = .ok (.aload_n 0, 1) := by decide +kernel
theorem dX11_remember_24 : decode cX11_remember 24 = .ok (.getfield 148, 3) := by decide +kernel
theorem dX11_remember_27 : decode cX11_remember 27 = .ok (.iload_n 1, 1) := by decide +kernel
theorem dX11_remember_28 : decode cX11_remember 28 = .ok (.bipush 11, 2) := by decide +kernel
theorem dX11_remember_30 : decode cX11_remember 30 = .ok (.iadd, 1) := by decide +kernel
theorem dX11_remember_31 : decode cX11_remember 31 = .ok (.iaload, 1) := by decide +kernel
theorem dX11_remember_32 : decode cX11_remember 32 = .ok (.iastore, 1) := by decide +kernel
theorem dX11_remember_33 : decode cX11_remember 33 = .ok (.iinc 1 1, 3) := by decide +kernel
theorem dX11_remember_36 : decode cX11_remember 36 = .ok (.goto (-25), 3) := by decide +kernel
theorem dX11_remember_39 : decode cX11_remember 39 = .ok (.aload_n 0, 1) := by decide +kernel
theorem dX11_remember_40 : decode cX11_remember 40 = .ok (.dup, 1) := by decide +kernel
theorem dX11_remember_41 : decode cX11_remember 41 = .ok (.getfield 397, 3) := by decide +kernel
theorem dX11_remember_44 : decode cX11_remember 44 = .ok (.iconst 1, 1) := by decide +kernel
theorem dX11_remember_45 : decode cX11_remember 45 = .ok (.isub, 1) := by decide +kernel
theorem dX11_remember_46 : decode cX11_remember 46 = .ok (.putfield 397, 3) := by decide +kernel
theorem dX11_remember_49 : decode cX11_remember 49 = .ok (.aload_n 0, 1) := by decide +kernel
theorem dX11_remember_50 : decode cX11_remember 50 = .ok (.aload_n 0, 1) := by decide +kernel
theorem dX11_remember_51 : decode cX11_remember 51 = .ok (.getfield 148, 3) := by decide +kernel
theorem dX11_remember_54 : decode cX11_remember 54 = .ok (.bipush 11, 2) := by decide +kernel
theorem dX11_remember_56 : decode cX11_remember 56 = .ok (.aload_n 0, 1) := by decide +kernel
theorem dX11_remember_57 : decode cX11_remember 57 = .ok (.getfield 397, 3) := by decide +kernel
theorem dX11_remember_60 : decode cX11_remember 60 = .ok (.imul, 1) := by decide +kernel
theorem dX11_remember_61 : decode cX11_remember 61 = .ok (.invokevirtual 511, 3) := by decide +kernel
theorem dX11_remember_64 : decode cX11_remember 64 = .ok (.aload_n 0, 1) := by decide +kernel
theorem dX11_remember_65 : decode cX11_remember 65 = .ok (.dup, 1) := by decide +kernel
theorem dX11_remember_66 : decode cX11_remember 66 = .ok (.getfield 397, 3) := by decide +kernel
theorem dX11_remember_69 : decode cX11_remember 69 = .ok (.iconst 1, 1) := by decide +kernel
theorem dX11_remember_70 : decode cX11_remember 70 = .ok (.iadd, 1) := by decide +kernel
theorem dX11_remember_71 : decode cX11_remember 71 = .ok (.putfield 397, 3) := by decide +kernel
theorem dX11_remember_74 : decode cX11_remember 74 = .ok (.return_, 1) := by decide +kernel
theorem dX11_undo_0 : decode cX11_undo 0 = .ok (.aload_n 0, 1) := by decide +kernel
theorem dX11_undo_1 : decode cX11_undo 1 = .ok (.iconst 0, 1) := by decide +kernel
theorem dX11_undo_2 : decode cX11_undo 2 = .ok (.putfield 160, 3) := by decide +kernel
theorem dX11_undo_5 : decode cX11_undo 5 = .ok (.aload_n 0, 1) := by decide +kernel
theorem dX11_undo_6 : decode cX11_undo 6 = .ok (.getfield 397, 3) := by decide +kernel
theorem dX11_undo_9 : decode cX11_undo 9 = .ok (.ifCond .ne 5, 3) := by decide +kernel
theorem dX11_undo_12 : decode cX11_undo 12 = .ok (.iconst (-1), 1) := by decide +kernel
theorem dX11_undo_13 : decode cX11_undo 13 = .ok (.ireturn, 1) := by decide +kernel
theorem dX11_undo_14 : decode cX11_undo 14 = .ok (.aload_n 0, 1) := by decide +kernel
theorem dX11_undo_15 : decode cX11_undo 15 = .ok (.dup, 1) := by decide +kernel
theorem dX11_undo_16 : decode cX11_undo 16 = .ok (.getfield 397, 3) := by decide +kernel
theorem dX11_undo_19 : decode cX11_undo 19 = .ok (.iconst 1, 1) := by decide +kernel
theorem dX11_undo_20 : decode cX11_undo 20 = .ok (.isub, 1) := by decide +kernel
theorem dX11_undo_21 : decode cX11_undo 21 = .ok (.putfield 397, 3) := by decide +kernel
theorem dX11_undo_24 : decode cX11_undo 24 = .ok (.aload_n 0, 1) := by decide +kernel
theorem dX11_undo_25 : decode cX11_undo 25 = .ok (.aload_n 0, 1) := by decide +kernel
theorem dX11_undo_26 : decode cX11_undo 26 = .ok (.getfield 148, 3) := by decide +kernel
theorem dX11_undo_29 : decode cX11_undo 29 = .ok (.bipush 11, 2) := by decide +kernel
theorem dX11_undo_31 : decode cX11_undo 31 = .ok (.aload_n 0, 1) := by decide +kernel
theorem dX11_undo_32 : decode cX11_undo 32 = .ok (.getfield 397, 3) := by decide +kernel
theorem dX11_undo_35 : decode cX11_undo 35 = .ok (.imul, 1) := by decide +kernel
theorem dX11_undo_36 : decode cX11_undo 36 = .ok (.invokevirtual 514, 3) := by decide +kernel
theorem dX11_undo_39 : decode cX11_undo 39 = .ok (.aload_n 0, 1) := by decide +kernel
theorem dX11_undo_40 : decode cX11_undo 40 = .ok (.getfield 397, 3) := by decide +kernel
theorem dX11_undo_43 : decode cX11_undo 43 = .ok (.ireturn, 1) := by decide +kernel
theorem dX11_keep_0 : decode cX11_keep 0 = .ok (.aload_n 0, 1) := by decide +kernel
theorem dX11_keep_1 : decode cX11_keep 1 = .ok (.iconst 0, 1) := by decide +kernel
theorem dX11_keep_2 : decode cX11_keep 2 = .ok (.putfield 160, 3) := by decide +kernel
theorem dX11_keep_5 : decode cX11_keep 5 = .ok (.aload_n 0, 1) := by decide +kernel
theorem dX11_keep_6 : decode cX11_keep 6 = .ok (.iconst 1, 1) := by decide +kernel
theorem dX11_keep_7 : decode cX11_keep 7 = .ok (.putfield 400, 3) := by decide +kernel
theorem dX11_keep_10 : decode cX11_keep 10 = .ok (.aload_n 0, 1) := by decide +kernel
theorem dX11_keep_11 : decode cX11_keep 11 = .ok (.aload_n 0, 1) := by decide +kernel
theorem dX11_keep_12 : decode cX11_keep 12 = .ok (.getfield 151, 3) := by decide +kernel
theorem dX11_keep_15 : decode cX11_keep 15 = .ok (.iconst 0, 1) := by decide +kernel
theorem dX11_keep_16 : decode cX11_keep 16 = .ok (.invokevirtual 511, 3) := by decide +kernel
theorem dX11_keep_19 : decode cX11_keep 19 = .ok (.aload_n 0, 1) := by decide +kernel
theorem dX11_keep_20 : decode cX11_keep 20 = .ok (.aload_n 0, 1) := by decide +kernel
theorem dX11_keep_21 : decode cX11_keep 21 = .ok (.getfield 103, 3) := by decide +kernel
theorem dX11_keep_24 : decode cX11_keep 24 = .ok (.iconst 0, 1) := by decide +kernel
theorem dX11_keep_25 : decode cX11_keep 25 = .ok (.iaload, 1) := by decide +kernel
theorem dX11_keep_26 : decode cX11_keep 26 = .ok (.putfield 517, 3) := by decide +kernel
theorem dX11_keep_29 : decode cX11_keep 29 = .ok (.aload_n 0, 1) := by decide +kernel
theorem dX11_keep_30 : decode cX11_keep 30 = .ok (.aload_n 0, 1) := by decide +kernel
theorem dX11_keep_31 : decode cX11_keep 31 = .ok (.getfield 106, 3) := by decide +kernel
theorem dX11_keep_34 : decode cX11_keep 34 = .ok (.iconst 0, 1) := by decide +kernel
theorem dX11_keep_35 : decode cX11_keep 35 = .ok (.iaload, 1) := by decide +kernel
theorem dX11_keep_36 : decode cX11_keep 36 = .ok (.putfield 520, 3) := by decide +kernel
theorem dX11_keep_39 : decode cX11_keep 39 = .ok (.aload_n 0, 1) := by decide +kernel
theorem dX11_keep_40 : decode cX11_keep 40 = .ok (.aload_n 0, 1) := by decide +kernel
theorem dX11_keep_41 : decode cX11_keep 41 = .ok (.getfield 387, 3) := by decide +kernel
theorem dX11_keep_44 : decode cX11_keep 44 = .ok (.putfield 523, 3) := by decide +kernel
theorem dX11_keep_47 : decode cX11_keep 47 = .ok (.aload_n 0, 1) := by decide +kernel
theorem dX11_keep_48 : decode cX11_keep 48 = .ok (.getfield 106, 3) := by decide +kernel
theorem dX11_keep_51 : decode cX11_keep 51 = .ok (.iconst 0, 1) := by decide +kernel
theorem dX11_keep_52 : decode cX11_keep 52 = .ok (.iaload, 1) := by decide +kernel
theorem dX11_keep_53 : decode cX11_keep 53 = .ok (.ireturn, 1) := by decide +kernel
theorem dX11_back_0 : decode cX11_back 0 = .ok (.aload_n 0, 1) := by decide +kernel
theorem dX11_back_1 : decode cX11_back 1 = .ok (.iconst 0, 1) := by decide +kernel
theorem dX11_back_2 : decode cX11_back 2 = .ok (.putfield 160, 3) := by decide +kernel
theorem dX11_back_5 : decode cX11_back 5 = .ok (.aload_n 0, 1) := by decide +kernel
theorem dX11_back_6 : decode cX11_back 6 = .ok (.getfield 400, 3) := by decide +kernel
theorem dX11_back_9 : decode cX11_back 9 = .ok (.ifCond .ne 5, 3) := by decide +kernel
theorem dX11_back_12 : decode cX11_back 12 = .ok (.iconst (-1), 1) := by decide +kernel
theorem dX11_back_13 : decode cX11_back 13 = .ok (.ireturn, 1) := by decide +kernel
theorem dX11_back_14 : decode cX11_back 14 = .ok (.aload_n 0, 1) := by decide +kernel
theorem dX11_back_15 : decode cX11_back 15 = .ok (.aload_n 0, 1) := by decide +kernel
theorem dX11_back_16 : decode cX11_back 16 = .ok (.getfield 151, 3) := by decide +kernel
theorem dX11_back_19 : decode cX11_back 19 = .ok (.iconst 0, 1) := by decide +kernel
theorem dX11_back_20 : decode cX11_back 20 = .ok (.invokevirtual 514, 3) := by decide +kernel
theorem dX11_back_23 : decode cX11_back 23 = .ok (.aload_n 0, 1) := by decide +kernel
theorem dX11_back_24 : decode cX11_back 24 = .ok (.getfield 103, 3) := by decide +kernel
theorem dX11_back_27 : decode cX11_back 27 = .ok (.iconst 0, 1) := by decide +kernel
theorem dX11_back_28 : decode cX11_back 28 = .ok (.aload_n 0, 1) := by decide +kernel
theorem dX11_back_29 : decode cX11_back 29 = .ok (.getfield 517, 3) := by decide +kernel
theorem dX11_back_32 : decode cX11_back 32 = .ok (.iastore, 1) := by decide +kernel
theorem dX11_back_33 : decode cX11_back 33 = .ok (.aload_n 0, 1) := by decide +kernel
theorem dX11_back_34 : decode cX11_back 34 = .ok (.getfield 106, 3) := by decide +kernel
theorem dX11_back_37 : decode cX11_back 37 = .ok (.iconst 0, 1) := by decide +kernel
theorem dX11_back_38 : decode cX11_back 38 = .ok (.aload_n 0, 1) := by decide +kernel
theorem dX11_back_39 : decode cX11_back 39 = .ok (.getfield 520, 3) := by decide +kernel
theorem dX11_back_42 : decode cX11_back 42 = .ok (.iastore, 1) := by decide +kernel
theorem dX11_back_43 : decode cX11_back 43 = .ok (.aload_n 0, 1) := by decide +kernel
theorem dX11_back_44 : decode cX11_back 44 = .ok (.aload_n 0, 1) := by decide +kernel
theorem dX11_back_45 : decode cX11_back 45 = .ok (.getfield 523, 3) := by decide +kernel
theorem dX11_back_48 : decode cX11_back 48 = .ok (.putfield 387, 3) := by decide +kernel
theorem dX11_back_51 : decode cX11_back 51 = .ok (.aload_n 0, 1) := by decide +kernel
theorem dX11_back_52 : decode cX11_back 52 = .ok (.iconst 0, 1) := by decide +kernel
theorem dX11_back_53 : decode cX11_back 53 = .ok (.putfield 397, 3) := by decide +kernel
theorem dX11_back_56 : decode cX11_back 56 = .ok (.aload_n 0, 1) := by decide +kernel
theorem dX11_back_57 : decode cX11_back 57 = .ok (.getfield 106, 3) := by decide +kernel
theorem dX11_back_60 : decode cX11_back 60 = .ok (.iconst 0, 1) := by decide +kernel
theorem dX11_back_61 : decode cX11_back 61 = .ok (.iaload, 1) := by decide +kernel
theorem dX11_back_62 : decode cX11_back 62 = .ok (.ireturn, 1) := by decide +kernel
theorem dX11_count_0 : decode cX11_count 0 = .ok (.aload_n 0, 1) := by decide +kernel
theorem dX11_count_1 : decode cX11_count 1 = .ok (.iconst 0, 1) := by decide +kernel
theorem dX11_count_2 : decode cX11_count 2 = .ok (.putfield 160, 3) := by decide +kernel
theorem dX11_count_5 : decode cX11_count 5 = .ok (.iconst 0, 1) := by decide +kernel
theorem dX11_count_6 : decode cX11_count 6 = .ok (.istore_n 2, 1) := by decide +kernel
theorem dX11_count_7 : decode cX11_count 7 = .ok (.iload_n 1, 1) := by decide +kernel
theorem dX11_count_8 : decode cX11_count 8 = .ok (.tableswitch 201 0 12 #[68, 73, 108, 113, 118, 125, 135, 145, 152, 159, 186, 191, 196], 68) := by decide +kernel
theorem dX11_count_76 : decode cX11_count 76 = .ok (.aload_n 0, 1) := by decide +kernel
theorem dX11_count_77 : decode cX11_count 77 = .ok (.getfield 240, 3) := by decide +kernel
theorem dX11_count_80 : decode cX11_count 80 = .ok (.ireturn, 1) := by decide +kernel
theorem dX11_count_81 : decode cX11_count 81 = .ok (.iconst 0, 1) := by decide +kernel
theorem dX11_count_82 : decode cX11_count 82 = .ok (.istore_n 3, 1) := by decide +kernel
theorem dX11_count_83 : decode cX11_count 83 = .ok (.iload_n 3, 1) := by decide +kernel
theorem dX11_count_84 : decode cX11_count 84 = .ok (.aload_n 0, 1) := by decide +kernel
theorem dX11_count_85 : decode cX11_count 85 = .ok (.getfield 240, 3) := by decide +kernel
theorem dX11_count_88 : decode cX11_count 88 = .ok (.if_icmp .ge 26, 3) := by decide +kernel
theorem dX11_count_91 : decode cX11_count 91 = .ok (.iload_n 2, 1) := by decide +kernel
theorem dX11_count_92 : decode cX11_count 92 = .ok (.aload_n 0, 1) := by decide +kernel
theorem dX11_count_93 : decode cX11_count 93 = .ok (.getfield 33, 3) := by decide +kernel
theorem dX11_count_96 : decode cX11_count 96 = .ok (.iload_n 3, 1) := by decide +kernel
theorem dX11_count_97 : decode cX11_count 97 = .ok (.iaload, 1) := by decide +kernel
theorem dX11_count_98 : decode cX11_count 98 = .ok (.ifCond .lt 7, 3) := by decide +kernel
theorem dX11_count_101 : decode cX11_count 101 = .ok (.iconst 1, 1) := by decide +kernel
theorem dX11_count_102 : decode cX11_count 102 = .ok (.goto 4, 3) := by decide +kernel
theorem dX11_count_105 : decode cX11_count 105 = .ok (.iconst 0, 1) := by decide +kernel
theorem dX11_count_106 : decode cX11_count 106 = .ok (.iadd, 1) := by decide +kernel
theorem dX11_count_107 : decode cX11_count 107 = .ok (.istore_n 2, 1) := by decide +kernel
theorem dX11_count_108 : decode cX11_count 108 = .ok (.iinc 3 1, 3) := by decide +kernel
theorem dX11_count_111 : decode cX11_count 111 = .ok (.goto (-28), 3) := by decide +kernel
theorem dX11_count_114 : decode cX11_count 114 = .ok (.iload_n 2, 1) := by decide +kernel
theorem dX11_count_115 : decode cX11_count 115 = .ok (.ireturn, 1) := by decide +kernel
theorem dX11_count_116 : decode cX11_count 116 = .ok (.aload_n 0, 1) := by decide +kernel
theorem dX11_count_117 : decode cX11_count 117 = .ok (.getfield 243, 3) := by decide +kernel
theorem dX11_count_120 : decode cX11_count 120 = .ok (.ireturn, 1) := by decide +kernel
theorem dX11_count_121 : decode cX11_count 121 = .ok (.aload_n 0, 1) := by decide +kernel
theorem dX11_count_122 : decode cX11_count 122 = .ok (.getfield 249, 3) := by decide +kernel
theorem dX11_count_125 : decode cX11_count 125 = .ok (.ireturn, 1) := by decide +kernel
theorem dX11_count_126 : decode cX11_count 126 = .ok (.aload_n 0, 1) := by decide +kernel
theorem dX11_count_127 : decode cX11_count 127 = .ok (.getfield 106, 3) := by decide +kernel
theorem dX11_count_130 : decode cX11_count 130 = .ok (.iconst 0, 1) := by decide +kernel
theorem dX11_count_131 : decode cX11_count 131 = .ok (.iaload, 1) := by decide +kernel
theorem dX11_count_132 : decode cX11_count 132 = .ok (.ireturn, 1) := by decide +kernel
theorem dX11_count_133 : decode cX11_count 133 = .ok (.aload_n 0, 1) := by decide +kernel
theorem dX11_count_134 : decode cX11_count 134 = .ok (.getfield 94, 3) := by decide +kernel
theorem dX11_count_137 : decode cX11_count 137 = .ok (.iconst 0, 1) := by decide +kernel
theorem dX11_count_138 : decode cX11_count 138 = .ok (.iaload, 1) := by decide +kernel
theorem dX11_count_139 : decode cX11_count 139 = .ok (.invokestatic 381, 3) := by decide +kernel
theorem dX11_count_142 : decode cX11_count 142 = .ok (.ireturn, 1) := by decide +kernel
theorem dX11_count_143 : decode cX11_count 143 = .ok (.aload_n 0, 1) := by decide +kernel
theorem dX11_count_144 : decode cX11_count 144 = .ok (.getfield 97, 3) := by decide +kernel
theorem dX11_count_147 : decode cX11_count 147 = .ok (.iconst 0, 1) := by decide +kernel
theorem dX11_count_148 : decode cX11_count 148 = .ok (.iaload, 1) := by decide +kernel
theorem dX11_count_149 : decode cX11_count 149 = .ok (.invokestatic 381, 3) := by decide +kernel
theorem dX11_count_152 : decode cX11_count 152 = .ok (.ireturn, 1) := by decide +kernel
theorem dX11_count_153 : decode cX11_count 153 = .ok (.aload_n 0, 1) := by decide +kernel
theorem dX11_count_154 : decode cX11_count 154 = .ok (.getfield 100, 3) := by decide +kernel
theorem dX11_count_157 : decode cX11_count 157 = .ok (.iconst 0, 1) := by decide +kernel
theorem dX11_count_158 : decode cX11_count 158 = .ok (.iaload, 1) := by decide +kernel
theorem dX11_count_159 : decode cX11_count 159 = .ok (.ireturn, 1) := by decide +kernel
theorem dX11_count_160 : decode cX11_count 160 = .ok (.aload_n 0, 1) := by decide +kernel
theorem dX11_count_161 : decode cX11_count 161 = .ok (.getfield 103, 3) := by decide +kernel
theorem dX11_count_164 : decode cX11_count 164 = .ok (.iconst 0, 1) := by decide +kernel
theorem dX11_count_165 : decode cX11_count 165 = .ok (.iaload, 1) := by decide +kernel
theorem dX11_count_166 : decode cX11_count 166 = .ok (.ireturn, 1) := by decide +kernel
theorem dX11_count_167 : decode cX11_count 167 = .ok (.iconst 0, 1) := by decide +kernel
theorem dX11_count_168 : decode cX11_count 168 = .ok (.istore_n 3, 1) := by decide +kernel
theorem dX11_count_169 : decode cX11_count 169 = .ok (.iload_n 3, 1) := by decide +kernel
theorem dX11_count_170 : decode cX11_count 170 = .ok (.aload_n 0, 1) := by decide +kernel
theorem dX11_count_171 : decode cX11_count 171 = .ok (.getfield 240, 3) := by decide +kernel
theorem dX11_count_174 : decode cX11_count 174 = .ok (.if_icmp .ge 18, 3) := by decide +kernel
theorem dX11_count_177 : decode cX11_count 177 = .ok (.iload_n 2, 1) := by decide +kernel
theorem dX11_count_178 : decode cX11_count 178 = .ok (.aload_n 0, 1) := by decide +kernel
theorem dX11_count_179 : decode cX11_count 179 = .ok (.getfield 109, 3) := by decide +kernel
theorem dX11_count_182 : decode cX11_count 182 = .ok (.iload_n 3, 1) := by decide +kernel
theorem dX11_count_183 : decode cX11_count 183 = .ok (.iaload, 1) := by decide +kernel
theorem dX11_count_184 : decode cX11_count 184 = .ok (.iadd, 1) := by decide +kernel
theorem dX11_count_185 : decode cX11_count 185 = .ok (.istore_n 2, 1) := by decide +kernel
theorem dX11_count_186 : decode cX11_count 186 = .ok (.iinc 3 1, 3) := by decide +kernel
theorem dX11_count_189 : decode cX11_count 189 = .ok (.goto (-20), 3) := by decide +kernel
theorem dX11_count_192 : decode cX11_count 192 = .ok (.iload_n 2, 1) := by decide +kernel
theorem dX11_count_193 : decode cX11_count 193 = .ok (.ireturn, 1) := by decide +kernel
theorem dX11_count_194 : decode cX11_count 194 = .ok (.aload_n 0, 1) := by decide +kernel
theorem dX11_count_195 : decode cX11_count 195 = .ok (.getfield 394, 3) := by decide +kernel
theorem dX11_count_198 : decode cX11_count 198 = .ok (.ireturn, 1) := by decide +kernel
theorem dX11_count_199 : decode cX11_count 199 = .ok (.aload_n 0, 1) := by decide +kernel
theorem dX11_count_200 : decode cX11_count 200 = .ok (.invokevirtual 502, 3) := by decide +kernel
theorem dX11_count_203 : decode cX11_count 203 = .ok (.ireturn, 1) := by decide +kernel
theorem dX11_count_204 : decode cX11_count 204 = .ok (.aload_n 0, 1) := by decide +kernel
theorem dX11_count_205 : decode cX11_count 205 = .ok (.getfield 397, 3) := by decide +kernel
theorem dX11_count_208 : decode cX11_count 208 = .ok (.ireturn, 1) := by decide +kernel
theorem dX11_count_209 : decode cX11_count 209 = .ok (.iconst (-1), 1) := by decide +kernel
theorem dX11_count_210 : decode cX11_count 210 = .ok (.ireturn, 1) := by decide +kernel
theorem dJ11_isValidCodePoint_9a6ad_0 : decode cJ11_isValidCodePoint_9a6ad 0 = .ok (.iload_n 0, 1) := by decide +kernel
theorem dJ11_isValidCodePoint_9a6ad_1 : decode cJ11_isValidCodePoint_9a6ad 1 = .ok (.bipush 16, 2) := by decide +kernel
theorem dJ11_isValidCodePoint_9a6ad_3 : decode cJ11_isValidCodePoint_9a6ad 3 = .ok (.iushr, 1) := by decide +kernel
theorem dJ11_isValidCodePoint_9a6ad_4 : decode cJ11_isValidCodePoint_9a6ad 4 = .ok (.istore_n 1, 1) := by decide +kernel
theorem dJ11_isValidCodePoint_9a6ad_5 : decode cJ11_isValidCodePoint_9a6ad 5 = .ok (.iload_n 1, 1) := by decide +kernel
