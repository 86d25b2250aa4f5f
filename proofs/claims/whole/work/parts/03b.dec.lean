theorem dX4_spread_69 : decode cX4_spread 69 = .ok (.istore_n 3, 1) := by decide +kernel
theorem dX4_spread_70 : decode cX4_spread 70 = .ok (.aload_n 0, 1) := by decide +kernel
theorem dX4_spread_71 : decode cX4_spread 71 = .ok (.getfield 9, 3) := by decide +kernel
theorem dX4_spread_74 : decode cX4_spread 74 = .ok (.iload_n 3, 1) := by decide +kernel
theorem dX4_spread_75 : decode cX4_spread 75 = .ok (.iaload, 1) := by decide +kernel
theorem dX4_spread_76 : decode cX4_spread 76 = .ok (.aload_n 0, 1) := by decide +kernel
theorem dX4_spread_77 : decode cX4_spread 77 = .ok (.getfield 60, 3) := by decide +kernel
theorem dX4_spread_80 : decode cX4_spread 80 = .ok (.ior, 1) := by decide +kernel
theorem dX4_spread_81 : decode cX4_spread 81 = .ok (.aload_n 0, 1) := by decide +kernel
theorem dX4_spread_82 : decode cX4_spread 82 = .ok (.getfield 57, 3) := by decide +kernel
theorem dX4_spread_85 : decode cX4_spread 85 = .ok (.iconst (-1), 1) := by decide +kernel
theorem dX4_spread_86 : decode cX4_spread 86 = .ok (.ixor, 1) := by decide +kernel
theorem dX4_spread_87 : decode cX4_spread 87 = .ok (.iand, 1) := by decide +kernel
theorem dX4_spread_88 : decode cX4_spread 88 = .ok (.istore 4, 2) := by decide +kernel
theorem dX4_spread_90 : decode cX4_spread 90 = .ok (.iconst 0, 1) := by decide +kernel
theorem dX4_spread_91 : decode cX4_spread 91 = .ok (.istore 5, 2) := by decide +kernel
theorem dX4_spread_93 : decode cX4_spread 93 = .ok (.iload 5, 2) := by decide +kernel
theorem dX4_spread_95 : decode cX4_spread 95 = .ok (.aload_n 0, 1) := by decide +kernel
theorem dX4_spread_96 : decode cX4_spread 96 = .ok (.getfield 40, 3) := by decide +kernel
theorem dX4_spread_99 : decode cX4_spread 99 = .ok (.if_icmp .ge 37, 3) := by decide +kernel
theorem dX4_spread_102 : decode cX4_spread 102 = .ok (.iload 4, 2) := by decide +kernel
theorem dX4_spread_104 : decode cX4_spread 104 = .ok (.iload 5, 2) := by decide +kernel
theorem dX4_spread_106 : decode cX4_spread 106 = .ok (.ishr, 1) := by decide +kernel
theorem dX4_spread_107 : decode cX4_spread 107 = .ok (.iconst 1, 1) := by decide +kernel
theorem dX4_spread_108 : decode cX4_spread 108 = .ok (.iand, 1) := by decide +kernel
theorem dX4_spread_109 : decode cX4_spread 109 = .ok (.ifCond .eq 21, 3) := by decide +kernel
theorem dX4_spread_112 : decode cX4_spread 112 = .ok (.aload_n 0, 1) := by decide +kernel
theorem dX4_spread_113 : decode cX4_spread 113 = .ok (.iload_n 3, 1) := by decide +kernel
theorem dX4_spread_114 : decode cX4_spread 114 = .ok (.iconst 1, 1) := by decide +kernel
theorem dX4_spread_115 : decode cX4_spread 115 = .ok (.iload 5, 2) := by decide +kernel
theorem dX4_spread_117 : decode cX4_spread 117 = .ok (.ishl, 1) := by decide +kernel
theorem dX4_spread_118 : decode cX4_spread 118 = .ok (.ixor, 1) := by decide +kernel
theorem dX4_spread_119 : decode cX4_spread 119 = .ok (.aload_n 0, 1) := by decide +kernel
theorem dX4_spread_120 : decode cX4_spread 120 = .ok (.getfield 15, 3) := by decide +kernel
theorem dX4_spread_123 : decode cX4_spread 123 = .ok (.iload_n 3, 1) := by decide +kernel
theorem dX4_spread_124 : decode cX4_spread 124 = .ok (.iaload, 1) := by decide +kernel
theorem dX4_spread_125 : decode cX4_spread 125 = .ok (.iconst 1, 1) := by decide +kernel
theorem dX4_spread_126 : decode cX4_spread 126 = .ok (.iadd, 1) := by decide +kernel
theorem dX4_spread_127 : decode cX4_spread 127 = .ok (.invokevirtual 79, 3) := by decide +kernel
theorem dX4_spread_130 : decode cX4_spread 130 = .ok (.iinc 5 1, 3) := by decide +kernel
theorem dX4_spread_133 : decode cX4_spread 133 = .ok (.goto (-40), 3) := by decide +kernel
theorem dX4_spread_136 : decode cX4_spread 136 = .ok (.iinc 2 1, 3) := by decide +kernel
theorem dX4_spread_139 : decode cX4_spread 139 = .ok (.goto (-91), 3) := by decide +kernel
theorem dX4_spread_142 : decode cX4_spread 142 = .ok (.return_, 1) := by decide +kernel
theorem dX4_finds_0 : decode cX4_finds 0 = .ok (.iload_n 1, 1) := by decide +kernel
theorem dX4_finds_1 : decode cX4_finds 1 = .ok (.aload_n 0, 1) := by decide +kernel
theorem dX4_finds_2 : decode cX4_finds 2 = .ok (.getfield 31, 3) := by decide +kernel
theorem dX4_finds_5 : decode cX4_finds 5 = .ok (.if_icmp .eq 58, 3) := by decide +kernel
theorem dX4_finds_8 : decode cX4_finds 8 = .ok (.aload_n 0, 1) := by decide +kernel
theorem dX4_finds_9 : decode cX4_finds 9 = .ok (.iload_n 1, 1) := by decide +kernel
theorem dX4_finds_10 : decode cX4_finds 10 = .ok (.invokevirtual 63, 3) := by decide +kernel
theorem dX4_finds_13 : decode cX4_finds 13 = .ok (.ifCond .eq 50, 3) := by decide +kernel
theorem dX4_finds_16 : decode cX4_finds 16 = .ok (.aload_n 0, 1) := by decide +kernel
theorem dX4_finds_17 : decode cX4_finds 17 = .ok (.getfield 15, 3) := by decide +kernel
theorem dX4_finds_20 : decode cX4_finds 20 = .ok (.iload_n 1, 1) := by decide +kernel
theorem dX4_finds_21 : decode cX4_finds 21 = .ok (.iaload, 1) := by decide +kernel
theorem dX4_finds_22 : decode cX4_finds 22 = .ok (.iconst (-1), 1) := by decide +kernel
theorem dX4_finds_23 : decode cX4_finds 23 = .ok (.if_icmp .ne 40, 3) := by decide +kernel
theorem dX4_finds_26 : decode cX4_finds 26 = .ok (.aload_n 0, 1) := by decide +kernel
theorem dX4_finds_27 : decode cX4_finds 27 = .ok (.getfield 73, 3) := by decide +kernel
theorem dX4_finds_30 : decode cX4_finds 30 = .ok (.sipush 256, 3) := by decide +kernel
theorem dX4_finds_33 : decode cX4_finds 33 = .ok (.if_icmp .ge 30, 3) := by decide +kernel
theorem dX4_finds_36 : decode cX4_finds 36 = .ok (.aload_n 0, 1) := by decide +kernel
theorem dX4_finds_37 : decode cX4_finds 37 = .ok (.getfield 15, 3) := by decide +kernel
theorem dX4_finds_40 : decode cX4_finds 40 = .ok (.iload_n 1, 1) := by decide +kernel
theorem dX4_finds_41 : decode cX4_finds 41 = .ok (.iload_n 2, 1) := by decide +kernel
theorem dX4_finds_42 : decode cX4_finds 42 = .ok (.iastore, 1) := by decide +kernel
theorem dX4_finds_43 : decode cX4_finds 43 = .ok (.aload_n 0, 1) := by decide +kernel
theorem dX4_finds_44 : decode cX4_finds 44 = .ok (.getfield 18, 3) := by decide +kernel
theorem dX4_finds_47 : decode cX4_finds 47 = .ok (.aload_n 0, 1) := by decide +kernel
theorem dX4_finds_48 : decode cX4_finds 48 = .ok (.getfield 73, 3) := by decide +kernel
theorem dX4_finds_51 : decode cX4_finds 51 = .ok (.iload_n 1, 1) := by decide +kernel
theorem dX4_finds_52 : decode cX4_finds 52 = .ok (.iastore, 1) := by decide +kernel
theorem dX4_finds_53 : decode cX4_finds 53 = .ok (.aload_n 0, 1) := by decide +kernel
theorem dX4_finds_54 : decode cX4_finds 54 = .ok (.dup, 1) := by decide +kernel
theorem dX4_finds_55 : decode cX4_finds 55 = .ok (.getfield 73, 3) := by decide +kernel
theorem dX4_finds_58 : decode cX4_finds 58 = .ok (.iconst 1, 1) := by decide +kernel
theorem dX4_finds_59 : decode cX4_finds 59 = .ok (.iadd, 1) := by decide +kernel
theorem dX4_finds_60 : decode cX4_finds 60 = .ok (.putfield 73, 3) := by decide +kernel
theorem dX4_finds_63 : decode cX4_finds 63 = .ok (.return_, 1) := by decide +kernel
theorem dX4_leadsOn_0 : decode cX4_leadsOn 0 = .ok (.iload_n 1, 1) := by decide +kernel
theorem dX4_leadsOn_1 : decode cX4_leadsOn 1 = .ok (.iconst 1, 1) := by decide +kernel
theorem dX4_leadsOn_2 : decode cX4_leadsOn 2 = .ok (.iload_n 2, 1) := by decide +kernel
theorem dX4_leadsOn_3 : decode cX4_leadsOn 3 = .ok (.ishl, 1) := by decide +kernel
theorem dX4_leadsOn_4 : decode cX4_leadsOn 4 = .ok (.ixor, 1) := by decide +kernel
theorem dX4_leadsOn_5 : decode cX4_leadsOn 5 = .ok (.istore_n 3, 1) := by decide +kernel
theorem dX4_leadsOn_6 : decode cX4_leadsOn 6 = .ok (.aload_n 0, 1) := by decide +kernel
theorem dX4_leadsOn_7 : decode cX4_leadsOn 7 = .ok (.iload_n 1, 1) := by decide +kernel
theorem dX4_leadsOn_8 : decode cX4_leadsOn 8 = .ok (.iload_n 2, 1) := by decide +kernel
theorem dX4_leadsOn_9 : decode cX4_leadsOn 9 = .ok (.invokevirtual 83, 3) := by decide +kernel
theorem dX4_leadsOn_12 : decode cX4_leadsOn 12 = .ok (.ifCond .eq 40, 3) := by decide +kernel
theorem dX4_leadsOn_15 : decode cX4_leadsOn 15 = .ok (.aload_n 0, 1) := by decide +kernel
theorem dX4_leadsOn_16 : decode cX4_leadsOn 16 = .ok (.iload_n 1, 1) := by decide +kernel
theorem dX4_leadsOn_17 : decode cX4_leadsOn 17 = .ok (.invokevirtual 87, 3) := by decide +kernel
theorem dX4_leadsOn_20 : decode cX4_leadsOn 20 = .ok (.ifCond .eq 32, 3) := by decide +kernel
theorem dX4_leadsOn_23 : decode cX4_leadsOn 23 = .ok (.aload_n 0, 1) := by decide +kernel
theorem dX4_leadsOn_24 : decode cX4_leadsOn 24 = .ok (.iload_n 3, 1) := by decide +kernel
theorem dX4_leadsOn_25 : decode cX4_leadsOn 25 = .ok (.invokevirtual 63, 3) := by decide +kernel
theorem dX4_leadsOn_28 : decode cX4_leadsOn 28 = .ok (.ifCond .eq 24, 3) := by decide +kernel
theorem dX4_leadsOn_31 : decode cX4_leadsOn 31 = .ok (.aload_n 0, 1) := by decide +kernel
theorem dX4_leadsOn_32 : decode cX4_leadsOn 32 = .ok (.getfield 15, 3) := by decide +kernel
theorem dX4_leadsOn_35 : decode cX4_leadsOn 35 = .ok (.iload_n 3, 1) := by decide +kernel
theorem dX4_leadsOn_36 : decode cX4_leadsOn 36 = .ok (.iaload, 1) := by decide +kernel
theorem dX4_leadsOn_37 : decode cX4_leadsOn 37 = .ok (.aload_n 0, 1) := by decide +kernel
theorem dX4_leadsOn_38 : decode cX4_leadsOn 38 = .ok (.getfield 15, 3) := by decide +kernel
theorem dX4_leadsOn_41 : decode cX4_leadsOn 41 = .ok (.iload_n 1, 1) := by decide +kernel
theorem dX4_leadsOn_42 : decode cX4_leadsOn 42 = .ok (.iaload, 1) := by decide +kernel
theorem dX4_leadsOn_43 : decode cX4_leadsOn 43 = .ok (.iconst 1, 1) := by decide +kernel
theorem dX4_leadsOn_44 : decode cX4_leadsOn 44 = .ok (.iadd, 1) := by decide +kernel
theorem dX4_leadsOn_45 : decode cX4_leadsOn 45 = .ok (.if_icmp .ne 7, 3) := by decide +kernel
theorem dX4_leadsOn_48 : decode cX4_leadsOn 48 = .ok (.iconst 1, 1) := by decide +kernel
theorem dX4_leadsOn_49 : decode cX4_leadsOn 49 = .ok (.goto 4, 3) := by decide +kernel
theorem dX4_leadsOn_52 : decode cX4_leadsOn 52 = .ok (.iconst 0, 1) := by decide +kernel
theorem dX4_leadsOn_53 : decode cX4_leadsOn 53 = .ok (.ireturn, 1) := by decide +kernel
theorem dX4_firstTo_0 : decode cX4_firstTo 0 = .ok (.aload_n 0, 1) := by decide +kernel
theorem dX4_firstTo_1 : decode cX4_firstTo 1 = .ok (.iload_n 1, 1) := by decide +kernel
theorem dX4_firstTo_2 : decode cX4_firstTo 2 = .ok (.invokevirtual 87, 3) := by decide +kernel
theorem dX4_firstTo_5 : decode cX4_firstTo 5 = .ok (.ifCond .eq 11, 3) := by decide +kernel
theorem dX4_firstTo_8 : decode cX4_firstTo 8 = .ok (.iload_n 1, 1) := by decide +kernel
theorem dX4_firstTo_9 : decode cX4_firstTo 9 = .ok (.aload_n 0, 1) := by decide +kernel
theorem dX4_firstTo_10 : decode cX4_firstTo 10 = .ok (.getfield 76, 3) := by decide +kernel
theorem dX4_firstTo_13 : decode cX4_firstTo 13 = .ok (.if_icmp .ne 6, 3) := by decide +kernel
theorem dX4_firstTo_16 : decode cX4_firstTo 16 = .ok (.bipush (-2), 2) := by decide +kernel
theorem dX4_firstTo_18 : decode cX4_firstTo 18 = .ok (.ireturn, 1) := by decide +kernel
theorem dX4_firstTo_19 : decode cX4_firstTo 19 = .ok (.aload_n 0, 1) := by decide +kernel
theorem dX4_firstTo_20 : decode cX4_firstTo 20 = .ok (.getfield 21, 3) := by decide +kernel
theorem dX4_firstTo_23 : decode cX4_firstTo 23 = .ok (.iconst 0, 1) := by decide +kernel
theorem dX4_firstTo_24 : decode cX4_firstTo 24 = .ok (.invokestatic 67, 3) := by decide +kernel
theorem dX4_firstTo_27 : decode cX4_firstTo 27 = .ok (.iconst 0, 1) := by decide +kernel
theorem dX4_firstTo_28 : decode cX4_firstTo 28 = .ok (.istore_n 2, 1) := by decide +kernel
theorem dX4_firstTo_29 : decode cX4_firstTo 29 = .ok (.iload_n 2, 1) := by decide +kernel
theorem dX4_firstTo_30 : decode cX4_firstTo 30 = .ok (.aload_n 0, 1) := by decide +kernel
theorem dX4_firstTo_31 : decode cX4_firstTo 31 = .ok (.getfield 73, 3) := by decide +kernel
theorem dX4_firstTo_34 : decode cX4_firstTo 34 = .ok (.if_icmp .ge 86, 3) := by decide +kernel
theorem dX4_firstTo_37 : decode cX4_firstTo 37 = .ok (.iload_n 2, 1) := by decide +kernel
theorem dX4_firstTo_38 : decode cX4_firstTo 38 = .ok (.sipush 256, 3) := by decide +kernel
theorem dX4_firstTo_41 : decode cX4_firstTo 41 = .ok (.if_icmp .ge 79, 3) := by decide +kernel
theorem dX4_firstTo_44 : decode cX4_firstTo 44 = .ok (.aload_n 0, 1) := by decide +kernel
theorem dX4_firstTo_45 : decode cX4_firstTo 45 = .ok (.getfield 18, 3) := by decide +kernel
theorem dX4_firstTo_48 : decode cX4_firstTo 48 = .ok (.iload_n 2, 1) := by decide +kernel
theorem dX4_firstTo_49 : decode cX4_firstTo 49 = .ok (.iaload, 1) := by decide +kernel
theorem dX4_firstTo_50 : decode cX4_firstTo 50 = .ok (.istore_n 3, 1) := by decide +kernel
theorem dX4_firstTo_51 : decode cX4_firstTo 51 = .ok (.iconst 0, 1) := by decide +kernel
theorem dX4_firstTo_52 : decode cX4_firstTo 52 = .ok (.istore 4, 2) := by decide +kernel
theorem dX4_firstTo_54 : decode cX4_firstTo 54 = .ok (.iload 4, 2) := by decide +kernel
theorem dX4_firstTo_56 : decode cX4_firstTo 56 = .ok (.aload_n 0, 1) := by decide +kernel
theorem dX4_firstTo_57 : decode cX4_firstTo 57 = .ok (.getfield 40, 3) := by decide +kernel
theorem dX4_firstTo_60 : decode cX4_firstTo 60 = .ok (.if_icmp .ge 54, 3) := by decide +kernel
theorem dX4_firstTo_63 : decode cX4_firstTo 63 = .ok (.aload_n 0, 1) := by decide +kernel
theorem dX4_firstTo_64 : decode cX4_firstTo 64 = .ok (.iload_n 3, 1) := by decide +kernel
theorem dX4_firstTo_65 : decode cX4_firstTo 65 = .ok (.iload 4, 2) := by decide +kernel
theorem dX4_firstTo_67 : decode cX4_firstTo 67 = .ok (.invokevirtual 90, 3) := by decide +kernel
theorem dX4_firstTo_70 : decode cX4_firstTo 70 = .ok (.ifCond .eq 38, 3) := by decide +kernel
theorem dX4_firstTo_73 : decode cX4_firstTo 73 = .ok (.aload_n 0, 1) := by decide +kernel
theorem dX4_firstTo_74 : decode cX4_firstTo 74 = .ok (.getfield 21, 3) := by decide +kernel
theorem dX4_firstTo_77 : decode cX4_firstTo 77 = .ok (.iload_n 3, 1) := by decide +kernel
theorem dX4_firstTo_78 : decode cX4_firstTo 78 = .ok (.iconst 1, 1) := by decide +kernel
theorem dX4_firstTo_79 : decode cX4_firstTo 79 = .ok (.iload 4, 2) := by decide +kernel
theorem dX4_firstTo_81 : decode cX4_firstTo 81 = .ok (.ishl, 1) := by decide +kernel
theorem dX4_firstTo_82 : decode cX4_firstTo 82 = .ok (.ixor, 1) := by decide +kernel
theorem dX4_firstTo_83 : decode cX4_firstTo 83 = .ok (.dup2, 1) := by decide +kernel
theorem dX4_firstTo_84 : decode cX4_firstTo 84 = .ok (.iaload, 1) := by decide +kernel
theorem dX4_firstTo_85 : decode cX4_firstTo 85 = .ok (.iload_n 3, 1) := by decide +kernel
theorem dX4_firstTo_86 : decode cX4_firstTo 86 = .ok (.aload_n 0, 1) := by decide +kernel
theorem dX4_firstTo_87 : decode cX4_firstTo 87 = .ok (.getfield 76, 3) := by decide +kernel
theorem dX4_firstTo_90 : decode cX4_firstTo 90 = .ok (.if_icmp .ne 10, 3) := by decide +kernel
theorem dX4_firstTo_93 : decode cX4_firstTo 93 = .ok (.iconst 1, 1) := by decide +kernel
theorem dX4_firstTo_94 : decode cX4_firstTo 94 = .ok (.iload 4, 2) := by decide +kernel
theorem dX4_firstTo_96 : decode cX4_firstTo 96 = .ok (.ishl, 1) := by decide +kernel
theorem dX4_firstTo_97 : decode cX4_firstTo 97 = .ok (.goto 9, 3) := by decide +kernel
theorem dX4_firstTo_100 : decode cX4_firstTo 100 = .ok (.aload_n 0, 1) := by decide +kernel
theorem dX4_firstTo_101 : decode cX4_firstTo 101 = .ok (.getfield 21, 3) := by decide +kernel
theorem dX4_firstTo_104 : decode cX4_firstTo 104 = .ok (.iload_n 3, 1) := by decide +kernel
theorem dX4_firstTo_105 : decode cX4_firstTo 105 = .ok (.iaload, 1) := by decide +kernel
theorem dX4_firstTo_106 : decode cX4_firstTo 106 = .ok (.ior, 1) := by decide +kernel
theorem dX4_firstTo_107 : decode cX4_firstTo 107 = .ok (.iastore, 1) := by decide +kernel
theorem dX4_firstTo_108 : decode cX4_firstTo 108 = .ok (.iinc 4 1, 3) := by decide +kernel
theorem dX4_firstTo_111 : decode cX4_firstTo 111 = .ok (.goto (-57), 3) := by decide +kernel
theorem dX4_firstTo_114 : decode cX4_firstTo 114 = .ok (.iinc 2 1, 3) := by decide +kernel
theorem dX4_firstTo_117 : decode cX4_firstTo 117 = .ok (.goto (-88), 3) := by decide +kernel
theorem dX4_firstTo_120 : decode cX4_firstTo 120 = .ok (.iconst 0, 1) := by decide +kernel
theorem dX4_firstTo_121 : decode cX4_firstTo 121 = .ok (.istore_n 2, 1) := by decide +kernel
theorem dX4_firstTo_122 : decode cX4_firstTo 122 = .ok (.iload_n 2, 1) := by decide +kernel
theorem dX4_firstTo_123 : decode cX4_firstTo 123 = .ok (.aload_n 0, 1) := by decide +kernel
theorem dX4_firstTo_124 : decode cX4_firstTo 124 = .ok (.getfield 40, 3) := by decide +kernel
theorem dX4_firstTo_127 : decode cX4_firstTo 127 = .ok (.if_icmp .ge 24, 3) := by decide +kernel
theorem dX4_firstTo_130 : decode cX4_firstTo 130 = .ok (.aload_n 0, 1) := by decide +kernel
theorem dX4_firstTo_131 : decode cX4_firstTo 131 = .ok (.getfield 21, 3) := by decide +kernel
theorem dX4_firstTo_134 : decode cX4_firstTo 134 = .ok (.iload_n 1, 1) := by decide +kernel
theorem dX4_firstTo_135 : decode cX4_firstTo 135 = .ok (.iaload, 1) := by decide +kernel
theorem dX4_firstTo_136 : decode cX4_firstTo 136 = .ok (.iload_n 2, 1) := by decide +kernel
theorem dX4_firstTo_137 : decode cX4_firstTo 137 = .ok (.ishr, 1) := by decide +kernel
theorem dX4_firstTo_138 : decode cX4_firstTo 138 = .ok (.iconst 1, 1) := by decide +kernel
theorem dX4_firstTo_139 : decode cX4_firstTo 139 = .ok (.iand, 1) := by decide +kernel
theorem dX4_firstTo_140 : decode cX4_firstTo 140 = .ok (.ifCond .eq 5, 3) := by decide +kernel
theorem dX4_firstTo_143 : decode cX4_firstTo 143 = .ok (.iload_n 2, 1) := by decide +kernel
theorem dX4_firstTo_144 : decode cX4_firstTo 144 = .ok (.ireturn, 1) := by decide +kernel
theorem dX4_firstTo_145 : decode cX4_firstTo 145 = .ok (.iinc 2 1, 3) := by decide +kernel
theorem dX4_firstTo_148 : decode cX4_firstTo 148 = .ok (.goto (-26), 3) := by decide +kernel
theorem dX4_firstTo_151 : decode cX4_firstTo 151 = .ok (.bipush (-2), 2) := by decide +kernel
theorem dX4_firstTo_153 : decode cX4_firstTo 153 = .ok (.ireturn, 1) := by decide +kernel
theorem dX4_waysTo_0 : decode cX4_waysTo 0 = .ok (.aload_n 0, 1) := by decide +kernel
theorem dX4_waysTo_1 : decode cX4_waysTo 1 = .ok (.iload_n 1, 1) := by decide +kernel
theorem dX4_waysTo_2 : decode cX4_waysTo 2 = .ok (.invokevirtual 87, 3) := by decide +kernel
theorem dX4_waysTo_5 : decode cX4_waysTo 5 = .ok (.ifCond .ne 5, 3) := by decide +kernel
theorem dX4_waysTo_8 : decode cX4_waysTo 8 = .ok (.iconst 0, 1) := by decide +kernel
theorem dX4_waysTo_9 : decode cX4_waysTo 9 = .ok (.ireturn, 1) := by decide +kernel
theorem dX4_waysTo_10 : decode cX4_waysTo 10 = .ok (.aload_n 0, 1) := by decide +kernel
theorem dX4_waysTo_11 : decode cX4_waysTo 11 = .ok (.getfield 24, 3) := by decide +kernel
theorem dX4_waysTo_14 : decode cX4_waysTo 14 = .ok (.lconst 0, 1) := by decide +kernel
theorem dX4_waysTo_15 : decode cX4_waysTo 15 = .ok (.invokestatic 93, 3) := by decide +kernel
theorem dX4_waysTo_18 : decode cX4_waysTo 18 = .ok (.aload_n 0, 1) := by decide +kernel
theorem dX4_waysTo_19 : decode cX4_waysTo 19 = .ok (.getfield 24, 3) := by decide +kernel
theorem dX4_waysTo_22 : decode cX4_waysTo 22 = .ok (.aload_n 0, 1) := by decide +kernel
theorem dX4_waysTo_23 : decode cX4_waysTo 23 = .ok (.getfield 76, 3) := by decide +kernel
theorem dX4_waysTo_26 : decode cX4_waysTo 26 = .ok (.lconst 1, 1) := by decide +kernel
theorem dX4_waysTo_27 : decode cX4_waysTo 27 = .ok (.lastore, 1) := by decide +kernel
theorem dX4_waysTo_28 : decode cX4_waysTo 28 = .ok (.iconst 0, 1) := by decide +kernel
theorem dX4_waysTo_29 : decode cX4_waysTo 29 = .ok (.istore_n 2, 1) := by decide +kernel
theorem dX4_waysTo_30 : decode cX4_waysTo 30 = .ok (.iload_n 2, 1) := by decide +kernel
theorem dX4_waysTo_31 : decode cX4_waysTo 31 = .ok (.aload_n 0, 1) := by decide +kernel
theorem dX4_waysTo_32 : decode cX4_waysTo 32 = .ok (.getfield 73, 3) := by decide +kernel
theorem dX4_waysTo_35 : decode cX4_waysTo 35 = .ok (.if_icmp .ge 86, 3) := by decide +kernel
theorem dX4_waysTo_38 : decode cX4_waysTo 38 = .ok (.iload_n 2, 1) := by decide +kernel
theorem dX4_waysTo_39 : decode cX4_waysTo 39 = .ok (.sipush 256, 3) := by decide +kernel
theorem dX4_waysTo_42 : decode cX4_waysTo 42 = .ok (.if_icmp .ge 79, 3) := by decide +kernel
theorem dX4_waysTo_45 : decode cX4_waysTo 45 = .ok (.aload_n 0, 1) := by decide +kernel
theorem dX4_waysTo_46 : decode cX4_waysTo 46 = .ok (.getfield 18, 3) := by decide +kernel
theorem dX4_waysTo_49 : decode cX4_waysTo 49 = .ok (.iload_n 2, 1) := by decide +kernel
theorem dX4_waysTo_50 : decode cX4_waysTo 50 = .ok (.iaload, 1) := by decide +kernel
theorem dX4_waysTo_51 : decode cX4_waysTo 51 = .ok (.istore_n 3, 1) := by decide +kernel
theorem dX4_waysTo_52 : decode cX4_waysTo 52 = .ok (.iconst 0, 1) := by decide +kernel
theorem dX4_waysTo_53 : decode cX4_waysTo 53 = .ok (.istore 4, 2) := by decide +kernel
theorem dX4_waysTo_55 : decode cX4_waysTo 55 = .ok (.iload 4, 2) := by decide +kernel
theorem dX4_waysTo_57 : decode cX4_waysTo 57 = .ok (.aload_n 0, 1) := by decide +kernel
theorem dX4_waysTo_58 : decode cX4_waysTo 58 = .ok (.getfield 40, 3) := by decide +kernel
theorem dX4_waysTo_61 : decode cX4_waysTo 61 = .ok (.if_icmp .ge 54, 3) := by decide +kernel
theorem dX4_waysTo_64 : decode cX4_waysTo 64 = .ok (.aload_n 0, 1) := by decide +kernel
theorem dX4_waysTo_65 : decode cX4_waysTo 65 = .ok (.iload_n 3, 1) := by decide +kernel
theorem dX4_waysTo_66 : decode cX4_waysTo 66 = .ok (.iload 4, 2) := by decide +kernel
theorem dX4_waysTo_68 : decode cX4_waysTo 68 = .ok (.invokevirtual 90, 3) := by decide +kernel
theorem dX4_waysTo_71 : decode cX4_waysTo 71 = .ok (.ifCond .eq 38, 3) := by decide +kernel
theorem dX4_waysTo_74 : decode cX4_waysTo 74 = .ok (.iload_n 3, 1) := by decide +kernel
theorem dX4_waysTo_75 : decode cX4_waysTo 75 = .ok (.iconst 1, 1) := by decide +kernel
theorem dX4_waysTo_76 : decode cX4_waysTo 76 = .ok (.iload 4, 2) := by decide +kernel
theorem dX4_waysTo_78 : decode cX4_waysTo 78 = .ok (.ishl, 1) := by decide +kernel
theorem dX4_waysTo_79 : decode cX4_waysTo 79 = .ok (.ixor, 1) := by decide +kernel
theorem dX4_waysTo_80 : decode cX4_waysTo 80 = .ok (.istore 5, 2) := by decide +kernel
theorem dX4_waysTo_82 : decode cX4_waysTo 82 = .ok (.aload_n 0, 1) := by decide +kernel
theorem dX4_waysTo_83 : decode cX4_waysTo 83 = .ok (.getfield 24, 3) := by decide +kernel
theorem dX4_waysTo_86 : decode cX4_waysTo 86 = .ok (.iload 5, 2) := by decide +kernel
theorem dX4_waysTo_88 : decode cX4_waysTo 88 = .ok (.ldc2_w 96, 3) := by decide +kernel
theorem dX4_waysTo_91 : decode cX4_waysTo 91 = .ok (.aload_n 0, 1) := by decide +kernel
theorem dX4_waysTo_92 : decode cX4_waysTo 92 = .ok (.getfield 24, 3) := by decide +kernel
theorem dX4_waysTo_95 : decode cX4_waysTo 95 = .ok (.iload 5, 2) := by decide +kernel
theorem dX4_waysTo_97 : decode cX4_waysTo 97 = .ok (.laload, 1) := by decide +kernel
theorem dX4_waysTo_98 : decode cX4_waysTo 98 = .ok (.aload_n 0, 1) := by decide +kernel
theorem dX4_waysTo_99 : decode cX4_waysTo 99 = .ok (.getfield 24, 3) := by decide +kernel
theorem dX4_waysTo_102 : decode cX4_waysTo 102 = .ok (.iload_n 3, 1) := by decide +kernel
theorem dX4_waysTo_103 : decode cX4_waysTo 103 = .ok (.laload, 1) := by decide +kernel
theorem dX4_waysTo_104 : decode cX4_waysTo 104 = .ok (.ladd, 1) := by decide +kernel
theorem dX4_waysTo_105 : decode cX4_waysTo 105 = .ok (.invokestatic 98, 3) := by decide +kernel
theorem dX4_waysTo_108 : decode cX4_waysTo 108 = .ok (.lastore, 1) := by decide +kernel
theorem dX4_waysTo_109 : decode cX4_waysTo 109 = .ok (.iinc 4 1, 3) := by decide +kernel
theorem dX4_waysTo_112 : decode cX4_waysTo 112 = .ok (.goto (-57), 3) := by decide +kernel
theorem dX4_waysTo_115 : decode cX4_waysTo 115 = .ok (.iinc 2 1, 3) := by decide +kernel
theorem dX4_waysTo_118 : decode cX4_waysTo 118 = .ok (.goto (-88), 3) := by decide +kernel
theorem dX4_waysTo_121 : decode cX4_waysTo 121 = .ok (.aload_n 0, 1) := by decide +kernel
theorem dX4_waysTo_122 : decode cX4_waysTo 122 = .ok (.getfield 24, 3) := by decide +kernel
theorem dX4_waysTo_125 : decode cX4_waysTo 125 = .ok (.iload_n 1, 1) := by decide +kernel
theorem dX4_waysTo_126 : decode cX4_waysTo 126 = .ok (.laload, 1) := by decide +kernel
theorem dX4_waysTo_127 : decode cX4_waysTo 127 = .ok (.l2i, 1) := by decide +kernel
theorem dX4_waysTo_128 : decode cX4_waysTo 128 = .ok (.ireturn, 1) := by decide +kernel
theorem dX4_farthestRow_0 : decode cX4_farthestRow 0 = .ok (.aload_n 0, 1) := by decide +kernel
theorem dX4_farthestRow_1 : decode cX4_farthestRow 1 = .ok (.getfield 76, 3) := by decide +kernel
theorem dX4_farthestRow_4 : decode cX4_farthestRow 4 = .ok (.istore_n 1, 1) := by decide +kernel
theorem dX4_farthestRow_5 : decode cX4_farthestRow 5 = .ok (.iconst 0, 1) := by decide +kernel
theorem dX4_farthestRow_6 : decode cX4_farthestRow 6 = .ok (.istore_n 2, 1) := by decide +kernel
theorem dX4_farthestRow_7 : decode cX4_farthestRow 7 = .ok (.iload_n 2, 1) := by decide +kernel
theorem dX4_farthestRow_8 : decode cX4_farthestRow 8 = .ok (.aload_n 0, 1) := by decide +kernel
theorem dX4_farthestRow_9 : decode cX4_farthestRow 9 = .ok (.getfield 47, 3) := by decide +kernel
theorem dX4_farthestRow_12 : decode cX4_farthestRow 12 = .ok (.if_icmp .ge 46, 3) := by decide +kernel
theorem dX4_farthestRow_15 : decode cX4_farthestRow 15 = .ok (.aload_n 0, 1) := by decide +kernel
theorem dX4_farthestRow_16 : decode cX4_farthestRow 16 = .ok (.getfield 15, 3) := by decide +kernel
theorem dX4_farthestRow_19 : decode cX4_farthestRow 19 = .ok (.iload_n 2, 1) := by decide +kernel
theorem dX4_farthestRow_20 : decode cX4_farthestRow 20 = .ok (.iaload, 1) := by decide +kernel
theorem dX4_farthestRow_21 : decode cX4_farthestRow 21 = .ok (.aload_n 0, 1) := by decide +kernel
theorem dX4_farthestRow_22 : decode cX4_farthestRow 22 = .ok (.getfield 15, 3) := by decide +kernel
theorem dX4_farthestRow_25 : decode cX4_farthestRow 25 = .ok (.iload_n 1, 1) := by decide +kernel
theorem dX4_farthestRow_26 : decode cX4_farthestRow 26 = .ok (.iaload, 1) := by decide +kernel
theorem dX4_farthestRow_27 : decode cX4_farthestRow 27 = .ok (.if_icmp .gt 23, 3) := by decide +kernel
theorem dX4_farthestRow_30 : decode cX4_farthestRow 30 = .ok (.aload_n 0, 1) := by decide +kernel
theorem dX4_farthestRow_31 : decode cX4_farthestRow 31 = .ok (.getfield 15, 3) := by decide +kernel
theorem dX4_farthestRow_34 : decode cX4_farthestRow 34 = .ok (.iload_n 2, 1) := by decide +kernel
theorem dX4_farthestRow_35 : decode cX4_farthestRow 35 = .ok (.iaload, 1) := by decide +kernel
theorem dX4_farthestRow_36 : decode cX4_farthestRow 36 = .ok (.aload_n 0, 1) := by decide +kernel
theorem dX4_farthestRow_37 : decode cX4_farthestRow 37 = .ok (.getfield 15, 3) := by decide +kernel
theorem dX4_farthestRow_40 : decode cX4_farthestRow 40 = .ok (.iload_n 1, 1) := by decide +kernel
theorem dX4_farthestRow_41 : decode cX4_farthestRow 41 = .ok (.iaload, 1) := by decide +kernel
theorem dX4_farthestRow_42 : decode cX4_farthestRow 42 = .ok (.if_icmp .ne 10, 3) := by decide +kernel
theorem dX4_farthestRow_45 : decode cX4_farthestRow 45 = .ok (.iload_n 2, 1) := by decide +kernel
theorem dX4_farthestRow_46 : decode cX4_farthestRow 46 = .ok (.iload_n 1, 1) := by decide +kernel
theorem dX4_farthestRow_47 : decode cX4_farthestRow 47 = .ok (.if_icmp .ge 5, 3) := by decide +kernel
theorem dX4_farthestRow_50 : decode cX4_farthestRow 50 = .ok (.iload_n 2, 1) := by decide +kernel
theorem dX4_farthestRow_51 : decode cX4_farthestRow 51 = .ok (.istore_n 1, 1) := by decide +kernel
theorem dX4_farthestRow_52 : decode cX4_farthestRow 52 = .ok (.iinc 2 1, 3) := by decide +kernel
theorem dX4_farthestRow_55 : decode cX4_farthestRow 55 = .ok (.goto (-48), 3) := by decide +kernel
theorem dX4_farthestRow_58 : decode cX4_farthestRow 58 = .ok (.iload_n 1, 1) := by decide +kernel
theorem dX4_farthestRow_59 : decode cX4_farthestRow 59 = .ok (.ireturn, 1) := by decide +kernel
theorem dX4_width_0 : decode cX4_width 0 = .ok (.aload_n 0, 1) := by decide +kernel
theorem dX4_width_1 : decode cX4_width 1 = .ok (.iload_n 1, 1) := by decide +kernel
theorem dX4_width_2 : decode cX4_width 2 = .ok (.invokevirtual 101, 3) := by decide +kernel
theorem dX4_width_5 : decode cX4_width 5 = .ok (.aload_n 0, 1) := by decide +kernel
theorem dX4_width_6 : decode cX4_width 6 = .ok (.getfield 73, 3) := by decide +kernel
theorem dX4_width_9 : decode cX4_width 9 = .ok (.istore_n 2, 1) := by decide +kernel
theorem dX4_width_10 : decode cX4_width 10 = .ok (.aload_n 0, 1) := by decide +kernel
theorem dX4_width_11 : decode cX4_width 11 = .ok (.getfield 18, 3) := by decide +kernel
theorem dX4_width_14 : decode cX4_width 14 = .ok (.iconst 0, 1) := by decide +kernel
theorem dX4_width_15 : decode cX4_width 15 = .ok (.aload_n 0, 1) := by decide +kernel
theorem dX4_width_16 : decode cX4_width 16 = .ok (.getfield 21, 3) := by decide +kernel
theorem dX4_width_19 : decode cX4_width 19 = .ok (.iconst 0, 1) := by decide +kernel
theorem dX4_width_20 : decode cX4_width 20 = .ok (.sipush 256, 3) := by decide +kernel
theorem dX4_width_23 : decode cX4_width 23 = .ok (.invokestatic 105, 3) := by decide +kernel
theorem dX4_width_26 : decode cX4_width 26 = .ok (.iconst 0, 1) := by decide +kernel
theorem dX4_width_27 : decode cX4_width 27 = .ok (.istore_n 3, 1) := by decide +kernel
theorem dX4_width_28 : decode cX4_width 28 = .ok (.iconst 0, 1) := by decide +kernel
theorem dX4_width_29 : decode cX4_width 29 = .ok (.istore 4, 2) := by decide +kernel
theorem dX4_width_31 : decode cX4_width 31 = .ok (.iload 4, 2) := by decide +kernel
theorem dX4_width_33 : decode cX4_width 33 = .ok (.iload_n 2, 1) := by decide +kernel
theorem dX4_width_34 : decode cX4_width 34 = .ok (.if_icmp .ge 42, 3) := by decide +kernel
theorem dX4_width_37 : decode cX4_width 37 = .ok (.iload 4, 2) := by decide +kernel
theorem dX4_width_39 : decode cX4_width 39 = .ok (.sipush 256, 3) := by decide +kernel
theorem dX4_width_42 : decode cX4_width 42 = .ok (.if_icmp .ge 34, 3) := by decide +kernel
theorem dX4_width_45 : decode cX4_width 45 = .ok (.aload_n 0, 1) := by decide +kernel
theorem dX4_width_46 : decode cX4_width 46 = .ok (.aload_n 0, 1) := by decide +kernel
theorem dX4_width_47 : decode cX4_width 47 = .ok (.getfield 21, 3) := by decide +kernel
theorem dX4_width_50 : decode cX4_width 50 = .ok (.iload 4, 2) := by decide +kernel
theorem dX4_width_52 : decode cX4_width 52 = .ok (.iaload, 1) := by decide +kernel
theorem dX4_width_53 : decode cX4_width 53 = .ok (.invokevirtual 101, 3) := by decide +kernel
theorem dX4_width_56 : decode cX4_width 56 = .ok (.iload_n 3, 1) := by decide +kernel
theorem dX4_width_57 : decode cX4_width 57 = .ok (.aload_n 0, 1) := by decide +kernel
theorem dX4_width_58 : decode cX4_width 58 = .ok (.getfield 15, 3) := by decide +kernel
theorem dX4_width_61 : decode cX4_width 61 = .ok (.aload_n 0, 1) := by decide +kernel
theorem dX4_width_62 : decode cX4_width 62 = .ok (.invokevirtual 111, 3) := by decide +kernel
theorem dX4_width_65 : decode cX4_width 65 = .ok (.iaload, 1) := by decide +kernel
theorem dX4_width_66 : decode cX4_width 66 = .ok (.invokestatic 115, 3) := by decide +kernel
theorem dX4_width_69 : decode cX4_width 69 = .ok (.istore_n 3, 1) := by decide +kernel
theorem dX4_width_70 : decode cX4_width 70 = .ok (.iinc 4 1, 3) := by decide +kernel
theorem dX4_width_73 : decode cX4_width 73 = .ok (.goto (-42), 3) := by decide +kernel
theorem dX4_width_76 : decode cX4_width 76 = .ok (.iload_n 3, 1) := by decide +kernel
theorem dX4_width_77 : decode cX4_width 77 = .ok (.ireturn, 1) := by decide +kernel
theorem dX4_partsInAll_0 : decode cX4_partsInAll 0 = .ok (.aload_n 0, 1) := by decide +kernel
theorem dX4_partsInAll_1 : decode cX4_partsInAll 1 = .ok (.getfield 21, 3) := by decide +kernel
theorem dX4_partsInAll_4 : decode cX4_partsInAll 4 = .ok (.iconst 0, 1) := by decide +kernel
theorem dX4_partsInAll_5 : decode cX4_partsInAll 5 = .ok (.invokestatic 67, 3) := by decide +kernel
theorem dX4_partsInAll_8 : decode cX4_partsInAll 8 = .ok (.iconst 0, 1) := by decide +kernel
theorem dX4_partsInAll_9 : decode cX4_partsInAll 9 = .ok (.istore_n 1, 1) := by decide +kernel
theorem dX4_partsInAll_10 : decode cX4_partsInAll 10 = .ok (.iconst 0, 1) := by decide +kernel
theorem dX4_partsInAll_11 : decode cX4_partsInAll 11 = .ok (.istore_n 2, 1) := by decide +kernel
theorem dX4_partsInAll_12 : decode cX4_partsInAll 12 = .ok (.iload_n 2, 1) := by decide +kernel
theorem dX4_partsInAll_13 : decode cX4_partsInAll 13 = .ok (.aload_n 0, 1) := by decide +kernel
theorem dX4_partsInAll_14 : decode cX4_partsInAll 14 = .ok (.getfield 47, 3) := by decide +kernel
theorem dX4_partsInAll_17 : decode cX4_partsInAll 17 = .ok (.if_icmp .ge 30, 3) := by decide +kernel
theorem dX4_partsInAll_20 : decode cX4_partsInAll 20 = .ok (.aload_n 0, 1) := by decide +kernel
theorem dX4_partsInAll_21 : decode cX4_partsInAll 21 = .ok (.getfield 21, 3) := by decide +kernel
theorem dX4_partsInAll_24 : decode cX4_partsInAll 24 = .ok (.iload_n 2, 1) := by decide +kernel
theorem dX4_partsInAll_25 : decode cX4_partsInAll 25 = .ok (.iaload, 1) := by decide +kernel
theorem dX4_partsInAll_26 : decode cX4_partsInAll 26 = .ok (.ifCond .ne 15, 3) := by decide +kernel
theorem dX4_partsInAll_29 : decode cX4_partsInAll 29 = .ok (.iinc 1 1, 3) := by decide +kernel
theorem dX4_partsInAll_32 : decode cX4_partsInAll 32 = .ok (.aload_n 0, 1) := by decide +kernel
theorem dX4_partsInAll_33 : decode cX4_partsInAll 33 = .ok (.iload_n 2, 1) := by decide +kernel
theorem dX4_partsInAll_34 : decode cX4_partsInAll 34 = .ok (.invokevirtual 101, 3) := by decide +kernel
theorem dX4_partsInAll_37 : decode cX4_partsInAll 37 = .ok (.aload_n 0, 1) := by decide +kernel
theorem dX4_partsInAll_38 : decode cX4_partsInAll 38 = .ok (.invokevirtual 118, 3) := by decide +kernel
theorem dX4_partsInAll_41 : decode cX4_partsInAll 41 = .ok (.iinc 2 1, 3) := by decide +kernel
theorem dX4_partsInAll_44 : decode cX4_partsInAll 44 = .ok (.goto (-32), 3) := by decide +kernel
theorem dX4_partsInAll_47 : decode cX4_partsInAll 47 = .ok (.iload_n 1, 1) := by decide +kernel
theorem dX4_partsInAll_48 : decode cX4_partsInAll 48 = .ok (.ireturn, 1) := by decide +kernel
theorem dX4_markFound_0 : decode cX4_markFound 0 = .ok (.iconst 0, 1) := by decide +kernel
theorem dX4_markFound_1 : decode cX4_markFound 1 = .ok (.istore_n 1, 1) := by decide +kernel
theorem dX4_markFound_2 : decode cX4_markFound 2 = .ok (.iload_n 1, 1) := by decide +kernel
theorem dX4_markFound_3 : decode cX4_markFound 3 = .ok (.aload_n 0, 1) := by decide +kernel
theorem dX4_markFound_4 : decode cX4_markFound 4 = .ok (.getfield 73, 3) := by decide +kernel
theorem dX4_markFound_7 : decode cX4_markFound 7 = .ok (.if_icmp .ge 28, 3) := by decide +kernel
theorem dX4_markFound_10 : decode cX4_markFound 10 = .ok (.iload_n 1, 1) := by decide +kernel
theorem dX4_markFound_11 : decode cX4_markFound 11 = .ok (.sipush 256, 3) := by decide +kernel
theorem dX4_markFound_14 : decode cX4_markFound 14 = .ok (.if_icmp .ge 21, 3) := by decide +kernel
theorem dX4_markFound_17 : decode cX4_markFound 17 = .ok (.aload_n 0, 1) := by decide +kernel
theorem dX4_markFound_18 : decode cX4_markFound 18 = .ok (.getfield 21, 3) := by decide +kernel
theorem dX4_markFound_21 : decode cX4_markFound 21 = .ok (.aload_n 0, 1) := by decide +kernel
theorem dX4_markFound_22 : decode cX4_markFound 22 = .ok (.getfield 18, 3) := by decide +kernel
theorem dX4_markFound_25 : decode cX4_markFound 25 = .ok (.iload_n 1, 1) := by decide +kernel
theorem dX4_markFound_26 : decode cX4_markFound 26 = .ok (.iaload, 1) := by decide +kernel
theorem dX4_markFound_27 : decode cX4_markFound 27 = .ok (.iconst 1, 1) := by decide +kernel
theorem dX4_markFound_28 : decode cX4_markFound 28 = .ok (.iastore, 1) := by decide +kernel
theorem dX4_markFound_29 : decode cX4_markFound 29 = .ok (.iinc 1 1, 3) := by decide +kernel
theorem dX4_markFound_32 : decode cX4_markFound 32 = .ok (.goto (-30), 3) := by decide +kernel
theorem dX4_markFound_35 : decode cX4_markFound 35 = .ok (.return_, 1) := by decide +kernel
theorem dX4_narrow_0 : decode cX4_narrow 0 = .ok (.aload_n 0, 1) := by decide +kernel
theorem dX4_narrow_1 : decode cX4_narrow 1 = .ok (.iload_n 1, 1) := by decide +kernel
theorem dX4_narrow_2 : decode cX4_narrow 2 = .ok (.invokevirtual 101, 3) := by decide +kernel
theorem dX4_narrow_5 : decode cX4_narrow 5 = .ok (.aload_n 0, 1) := by decide +kernel
theorem dX4_narrow_6 : decode cX4_narrow 6 = .ok (.iload_n 2, 1) := by decide +kernel
theorem dX4_narrow_7 : decode cX4_narrow 7 = .ok (.invokevirtual 87, 3) := by decide +kernel
theorem dX4_narrow_10 : decode cX4_narrow 10 = .ok (.ifCond .ne 5, 3) := by decide +kernel
theorem dX4_narrow_13 : decode cX4_narrow 13 = .ok (.iconst (-1), 1) := by decide +kernel
theorem dX4_narrow_14 : decode cX4_narrow 14 = .ok (.ireturn, 1) := by decide +kernel
theorem dX4_narrow_15 : decode cX4_narrow 15 = .ok (.aload_n 0, 1) := by decide +kernel
theorem dX4_narrow_16 : decode cX4_narrow 16 = .ok (.getfield 15, 3) := by decide +kernel
theorem dX4_narrow_19 : decode cX4_narrow 19 = .ok (.iload_n 2, 1) := by decide +kernel
theorem dX4_narrow_20 : decode cX4_narrow 20 = .ok (.iaload, 1) := by decide +kernel
theorem dX4_narrow_21 : decode cX4_narrow 21 = .ok (.iconst 1, 1) := by decide +kernel
theorem dX4_narrow_22 : decode cX4_narrow 22 = .ok (.isub, 1) := by decide +kernel
theorem dX4_narrow_23 : decode cX4_narrow 23 = .ok (.istore 4, 2) := by decide +kernel
theorem dX4_narrow_25 : decode cX4_narrow 25 = .ok (.iload_n 2, 1) := by decide +kernel
theorem dX4_narrow_26 : decode cX4_narrow 26 = .ok (.istore 5, 2) := by decide +kernel
theorem dX4_narrow_28 : decode cX4_narrow 28 = .ok (.iload 4, 2) := by decide +kernel
theorem dX4_narrow_30 : decode cX4_narrow 30 = .ok (.istore 6, 2) := by decide +kernel
theorem dX4_narrow_32 : decode cX4_narrow 32 = .ok (.iload 6, 2) := by decide +kernel
theorem dX4_narrow_34 : decode cX4_narrow 34 = .ok (.ifCond .le 28, 3) := by decide +kernel
theorem dX4_narrow_37 : decode cX4_narrow 37 = .ok (.aload_n 0, 1) := by decide +kernel
theorem dX4_narrow_38 : decode cX4_narrow 38 = .ok (.iload 5, 2) := by decide +kernel
theorem dX4_narrow_40 : decode cX4_narrow 40 = .ok (.invokevirtual 121, 3) := by decide +kernel
theorem dX4_narrow_43 : decode cX4_narrow 43 = .ok (.istore 5, 2) := by decide +kernel
theorem dX4_narrow_45 : decode cX4_narrow 45 = .ok (.aload_n 0, 1) := by decide +kernel
theorem dX4_narrow_46 : decode cX4_narrow 46 = .ok (.getfield 21, 3) := by decide +kernel
theorem dX4_narrow_49 : decode cX4_narrow 49 = .ok (.iload 6, 2) := by decide +kernel
theorem dX4_narrow_51 : decode cX4_narrow 51 = .ok (.iconst 1, 1) := by decide +kernel
theorem dX4_narrow_52 : decode cX4_narrow 52 = .ok (.isub, 1) := by decide +kernel
theorem dX4_narrow_53 : decode cX4_narrow 53 = .ok (.iload 5, 2) := by decide +kernel
theorem dX4_narrow_55 : decode cX4_narrow 55 = .ok (.iastore, 1) := by decide +kernel
theorem dX4_narrow_56 : decode cX4_narrow 56 = .ok (.iinc 6 (-1), 3) := by decide +kernel
theorem dX4_narrow_59 : decode cX4_narrow 59 = .ok (.goto (-27), 3) := by decide +kernel
theorem dX4_narrow_62 : decode cX4_narrow 62 = .ok (.iload_n 3, 1) := by decide +kernel
theorem dX4_narrow_63 : decode cX4_narrow 63 = .ok (.istore 6, 2) := by decide +kernel
theorem dX4_narrow_65 : decode cX4_narrow 65 = .ok (.iconst 0, 1) := by decide +kernel
theorem dX4_narrow_66 : decode cX4_narrow 66 = .ok (.istore 7, 2) := by decide +kernel
theorem dX4_narrow_68 : decode cX4_narrow 68 = .ok (.iload 7, 2) := by decide +kernel
theorem dX4_narrow_70 : decode cX4_narrow 70 = .ok (.iload 4, 2) := by decide +kernel
theorem dX4_narrow_72 : decode cX4_narrow 72 = .ok (.if_icmp .ge 59, 3) := by decide +kernel
theorem dX4_narrow_75 : decode cX4_narrow 75 = .ok (.iload 7, 2) := by decide +kernel
theorem dX4_narrow_77 : decode cX4_narrow 77 = .ok (.sipush 256, 3) := by decide +kernel
theorem dX4_narrow_80 : decode cX4_narrow 80 = .ok (.if_icmp .ge 51, 3) := by decide +kernel
theorem dX4_narrow_83 : decode cX4_narrow 83 = .ok (.aload_n 0, 1) := by decide +kernel
theorem dX4_narrow_84 : decode cX4_narrow 84 = .ok (.aload_n 0, 1) := by decide +kernel
theorem dX4_narrow_85 : decode cX4_narrow 85 = .ok (.getfield 21, 3) := by decide +kernel
theorem dX4_narrow_88 : decode cX4_narrow 88 = .ok (.iload 7, 2) := by decide +kernel
theorem dX4_narrow_90 : decode cX4_narrow 90 = .ok (.iaload, 1) := by decide +kernel
theorem dX4_narrow_91 : decode cX4_narrow 91 = .ok (.iconst 0, 1) := by decide +kernel
theorem dX4_narrow_92 : decode cX4_narrow 92 = .ok (.iconst 0, 1) := by decide +kernel
theorem dX4_narrow_93 : decode cX4_narrow 93 = .ok (.invokevirtual 53, 3) := by decide +kernel
theorem dX4_narrow_96 : decode cX4_narrow 96 = .ok (.aload_n 0, 1) := by decide +kernel
theorem dX4_narrow_97 : decode cX4_narrow 97 = .ok (.iload_n 1, 1) := by decide +kernel
theorem dX4_narrow_98 : decode cX4_narrow 98 = .ok (.invokevirtual 101, 3) := by decide +kernel
theorem dX4_narrow_101 : decode cX4_narrow 101 = .ok (.aload_n 0, 1) := by decide +kernel
theorem dX4_narrow_102 : decode cX4_narrow 102 = .ok (.iload_n 2, 1) := by decide +kernel
theorem dX4_narrow_103 : decode cX4_narrow 103 = .ok (.invokevirtual 87, 3) := by decide +kernel
theorem dX4_narrow_106 : decode cX4_narrow 106 = .ok (.ifCond .ne 19, 3) := by decide +kernel
theorem dX4_narrow_109 : decode cX4_narrow 109 = .ok (.iload 6, 2) := by decide +kernel
theorem dX4_narrow_111 : decode cX4_narrow 111 = .ok (.ifCond .ne 11, 3) := by decide +kernel
theorem dX4_narrow_114 : decode cX4_narrow 114 = .ok (.aload_n 0, 1) := by decide +kernel
theorem dX4_narrow_115 : decode cX4_narrow 115 = .ok (.getfield 21, 3) := by decide +kernel
theorem dX4_narrow_118 : decode cX4_narrow 118 = .ok (.iload 7, 2) := by decide +kernel
theorem dX4_narrow_120 : decode cX4_narrow 120 = .ok (.iaload, 1) := by decide +kernel
theorem dX4_narrow_121 : decode cX4_narrow 121 = .ok (.ireturn, 1) := by decide +kernel
theorem dX4_narrow_122 : decode cX4_narrow 122 = .ok (.iinc 6 (-1), 3) := by decide +kernel
theorem dX4_narrow_125 : decode cX4_narrow 125 = .ok (.iinc 7 1, 3) := by decide +kernel
theorem dX4_narrow_128 : decode cX4_narrow 128 = .ok (.goto (-60), 3) := by decide +kernel
theorem dX4_narrow_131 : decode cX4_narrow 131 = .ok (.bipush (-2), 2) := by decide +kernel
theorem dX4_narrow_133 : decode cX4_narrow 133 = .ok (.ireturn, 1) := by decide +kernel
theorem dX4_oneBefore_0 : decode cX4_oneBefore 0 = .ok (.iconst 0, 1) := by decide +kernel
theorem dX4_oneBefore_1 : decode cX4_oneBefore 1 = .ok (.istore_n 2, 1) := by decide +kernel
theorem dX4_oneBefore_2 : decode cX4_oneBefore 2 = .ok (.iload_n 2, 1) := by decide +kernel
theorem dX4_oneBefore_3 : decode cX4_oneBefore 3 = .ok (.aload_n 0, 1) := by decide +kernel
theorem dX4_oneBefore_4 : decode cX4_oneBefore 4 = .ok (.getfield 40, 3) := by decide +kernel
theorem dX4_oneBefore_7 : decode cX4_oneBefore 7 = .ok (.if_icmp .ge 28, 3) := by decide +kernel
theorem dX4_oneBefore_10 : decode cX4_oneBefore 10 = .ok (.aload_n 0, 1) := by decide +kernel
theorem dX4_oneBefore_11 : decode cX4_oneBefore 11 = .ok (.iload_n 1, 1) := by decide +kernel
theorem dX4_oneBefore_12 : decode cX4_oneBefore 12 = .ok (.iconst 1, 1) := by decide +kernel
theorem dX4_oneBefore_13 : decode cX4_oneBefore 13 = .ok (.iload_n 2, 1) := by decide +kernel
theorem dX4_oneBefore_14 : decode cX4_oneBefore 14 = .ok (.ishl, 1) := by decide +kernel
theorem dX4_oneBefore_15 : decode cX4_oneBefore 15 = .ok (.ixor, 1) := by decide +kernel
theorem dX4_oneBefore_16 : decode cX4_oneBefore 16 = .ok (.iload_n 2, 1) := by decide +kernel
theorem dX4_oneBefore_17 : decode cX4_oneBefore 17 = .ok (.invokevirtual 90, 3) := by decide +kernel
theorem dX4_oneBefore_20 : decode cX4_oneBefore 20 = .ok (.ifCond .eq 9, 3) := by decide +kernel
theorem dX4_oneBefore_23 : decode cX4_oneBefore 23 = .ok (.iload_n 1, 1) := by decide +kernel
theorem dX4_oneBefore_24 : decode cX4_oneBefore 24 = .ok (.iconst 1, 1) := by decide +kernel
theorem dX4_oneBefore_25 : decode cX4_oneBefore 25 = .ok (.iload_n 2, 1) := by decide +kernel
theorem dX4_oneBefore_26 : decode cX4_oneBefore 26 = .ok (.ishl, 1) := by decide +kernel
theorem dX4_oneBefore_27 : decode cX4_oneBefore 27 = .ok (.ixor, 1) := by decide +kernel
theorem dX4_oneBefore_28 : decode cX4_oneBefore 28 = .ok (.ireturn, 1) := by decide +kernel
theorem dX4_oneBefore_29 : decode cX4_oneBefore 29 = .ok (.iinc 2 1, 3) := by decide +kernel
theorem dX4_oneBefore_32 : decode cX4_oneBefore 32 = .ok (.goto (-30), 3) := by decide +kernel
theorem dX4_oneBefore_35 : decode cX4_oneBefore 35 = .ok (.iload_n 1, 1) := by decide +kernel
theorem dX4_oneBefore_36 : decode cX4_oneBefore 36 = .ok (.ireturn, 1) := by decide +kernel
theorem dX4_needed_0 : decode cX4_needed 0 = .ok (.aload_n 0, 1) := by decide +kernel
theorem dX4_needed_1 : decode cX4_needed 1 = .ok (.iload_n 1, 1) := by decide +kernel
theorem dX4_needed_2 : decode cX4_needed 2 = .ok (.invokevirtual 101, 3) := by decide +kernel
theorem dX4_needed_5 : decode cX4_needed 5 = .ok (.aload_n 0, 1) := by decide +kernel
theorem dX4_needed_6 : decode cX4_needed 6 = .ok (.iload_n 2, 1) := by decide +kernel
theorem dX4_needed_7 : decode cX4_needed 7 = .ok (.invokevirtual 87, 3) := by decide +kernel
theorem dX4_needed_10 : decode cX4_needed 10 = .ok (.ifCond .ne 6, 3) := by decide +kernel
theorem dX4_needed_13 : decode cX4_needed 13 = .ok (.bipush (-2), 2) := by decide +kernel
theorem dX4_needed_15 : decode cX4_needed 15 = .ok (.ireturn, 1) := by decide +kernel
theorem dX4_needed_16 : decode cX4_needed 16 = .ok (.iconst 0, 1) := by decide +kernel
theorem dX4_needed_17 : decode cX4_needed 17 = .ok (.istore_n 3, 1) := by decide +kernel
theorem dX4_needed_18 : decode cX4_needed 18 = .ok (.iconst 0, 1) := by decide +kernel
theorem dX4_needed_19 : decode cX4_needed 19 = .ok (.istore 4, 2) := by decide +kernel
theorem dX4_needed_21 : decode cX4_needed 21 = .ok (.iload 4, 2) := by decide +kernel
theorem dX4_needed_23 : decode cX4_needed 23 = .ok (.aload_n 0, 1) := by decide +kernel
theorem dX4_needed_24 : decode cX4_needed 24 = .ok (.getfield 40, 3) := by decide +kernel
theorem dX4_needed_27 : decode cX4_needed 27 = .ok (.if_icmp .ge 39, 3) := by decide +kernel
theorem dX4_needed_30 : decode cX4_needed 30 = .ok (.aload_n 0, 1) := by decide +kernel
theorem dX4_needed_31 : decode cX4_needed 31 = .ok (.iconst (-1), 1) := by decide +kernel
theorem dX4_needed_32 : decode cX4_needed 32 = .ok (.iconst 1, 1) := by decide +kernel
theorem dX4_needed_33 : decode cX4_needed 33 = .ok (.iload 4, 2) := by decide +kernel
theorem dX4_needed_35 : decode cX4_needed 35 = .ok (.ishl, 1) := by decide +kernel
theorem dX4_needed_36 : decode cX4_needed 36 = .ok (.iconst 0, 1) := by decide +kernel
theorem dX4_needed_37 : decode cX4_needed 37 = .ok (.invokevirtual 53, 3) := by decide +kernel
theorem dX4_needed_40 : decode cX4_needed 40 = .ok (.aload_n 0, 1) := by decide +kernel
theorem dX4_needed_41 : decode cX4_needed 41 = .ok (.iload_n 1, 1) := by decide +kernel
theorem dX4_needed_42 : decode cX4_needed 42 = .ok (.invokevirtual 101, 3) := by decide +kernel
theorem dX4_needed_45 : decode cX4_needed 45 = .ok (.aload_n 0, 1) := by decide +kernel
theorem dX4_needed_46 : decode cX4_needed 46 = .ok (.iload_n 2, 1) := by decide +kernel
theorem dX4_needed_47 : decode cX4_needed 47 = .ok (.invokevirtual 87, 3) := by decide +kernel
theorem dX4_needed_50 : decode cX4_needed 50 = .ok (.ifCond .ne 10, 3) := by decide +kernel
theorem dX4_needed_53 : decode cX4_needed 53 = .ok (.iload_n 3, 1) := by decide +kernel
theorem dX4_needed_54 : decode cX4_needed 54 = .ok (.iconst 1, 1) := by decide +kernel
theorem dX4_needed_55 : decode cX4_needed 55 = .ok (.iload 4, 2) := by decide +kernel
theorem dX4_needed_57 : decode cX4_needed 57 = .ok (.ishl, 1) := by decide +kernel
theorem dX4_needed_58 : decode cX4_needed 58 = .ok (.ior, 1) := by decide +kernel
theorem dX4_needed_59 : decode cX4_needed 59 = .ok (.istore_n 3, 1) := by decide +kernel
theorem dX4_needed_60 : decode cX4_needed 60 = .ok (.iinc 4 1, 3) := by decide +kernel
theorem dX4_needed_63 : decode cX4_needed 63 = .ok (.goto (-42), 3) := by decide +kernel
theorem dX4_needed_66 : decode cX4_needed 66 = .ok (.iload_n 3, 1) := by decide +kernel
theorem dX4_needed_67 : decode cX4_needed 67 = .ok (.ireturn, 1) := by decide +kernel
theorem dX4_stepsToMove_0 : decode cX4_stepsToMove 0 = .ok (.iconst 0, 1) := by decide +kernel
theorem dX4_stepsToMove_1 : decode cX4_stepsToMove 1 = .ok (.istore_n 2, 1) := by decide +kernel
theorem dX4_stepsToMove_2 : decode cX4_stepsToMove 2 = .ok (.iload_n 2, 1) := by decide +kernel
theorem dX4_stepsToMove_3 : decode cX4_stepsToMove 3 = .ok (.aload_n 0, 1) := by decide +kernel
theorem dX4_stepsToMove_4 : decode cX4_stepsToMove 4 = .ok (.getfield 73, 3) := by decide +kernel
theorem dX4_stepsToMove_7 : decode cX4_stepsToMove 7 = .ok (.if_icmp .ge 44, 3) := by decide +kernel
theorem dX4_stepsToMove_10 : decode cX4_stepsToMove 10 = .ok (.iload_n 2, 1) := by decide +kernel
theorem dX4_stepsToMove_11 : decode cX4_stepsToMove 11 = .ok (.sipush 256, 3) := by decide +kernel
theorem dX4_stepsToMove_14 : decode cX4_stepsToMove 14 = .ok (.if_icmp .ge 37, 3) := by decide +kernel
theorem dX4_stepsToMove_17 : decode cX4_stepsToMove 17 = .ok (.aload_n 0, 1) := by decide +kernel
theorem dX4_stepsToMove_18 : decode cX4_stepsToMove 18 = .ok (.aload_n 0, 1) := by decide +kernel
theorem dX4_stepsToMove_19 : decode cX4_stepsToMove 19 = .ok (.getfield 18, 3) := by decide +kernel
theorem dX4_stepsToMove_22 : decode cX4_stepsToMove 22 = .ok (.iload_n 2, 1) := by decide +kernel
theorem dX4_stepsToMove_23 : decode cX4_stepsToMove 23 = .ok (.iaload, 1) := by decide +kernel
theorem dX4_stepsToMove_24 : decode cX4_stepsToMove 24 = .ok (.iload_n 1, 1) := by decide +kernel
theorem dX4_stepsToMove_25 : decode cX4_stepsToMove 25 = .ok (.invokevirtual 83, 3) := by decide +kernel
theorem dX4_stepsToMove_28 : decode cX4_stepsToMove 28 = .ok (.ifCond .eq 17, 3) := by decide +kernel
theorem dX4_stepsToMove_31 : decode cX4_stepsToMove 31 = .ok (.aload_n 0, 1) := by decide +kernel
theorem dX4_stepsToMove_32 : decode cX4_stepsToMove 32 = .ok (.getfield 15, 3) := by decide +kernel
theorem dX4_stepsToMove_35 : decode cX4_stepsToMove 35 = .ok (.aload_n 0, 1) := by decide +kernel
theorem dX4_stepsToMove_36 : decode cX4_stepsToMove 36 = .ok (.getfield 18, 3) := by decide +kernel
theorem dX4_stepsToMove_39 : decode cX4_stepsToMove 39 = .ok (.iload_n 2, 1) := by decide +kernel
theorem dX4_stepsToMove_40 : decode cX4_stepsToMove 40 = .ok (.iaload, 1) := by decide +kernel
theorem dX4_stepsToMove_41 : decode cX4_stepsToMove 41 = .ok (.iaload, 1) := by decide +kernel
theorem dX4_stepsToMove_42 : decode cX4_stepsToMove 42 = .ok (.iconst 1, 1) := by decide +kernel
theorem dX4_stepsToMove_43 : decode cX4_stepsToMove 43 = .ok (.iadd, 1) := by decide +kernel
theorem dX4_stepsToMove_44 : decode cX4_stepsToMove 44 = .ok (.ireturn, 1) := by decide +kernel
theorem dX4_stepsToMove_45 : decode cX4_stepsToMove 45 = .ok (.iinc 2 1, 3) := by decide +kernel
theorem dX4_stepsToMove_48 : decode cX4_stepsToMove 48 = .ok (.goto (-46), 3) := by decide +kernel
theorem dX4_stepsToMove_51 : decode cX4_stepsToMove 51 = .ok (.bipush (-2), 2) := by decide +kernel
theorem dX4_stepsToMove_53 : decode cX4_stepsToMove 53 = .ok (.ireturn, 1) := by decide +kernel
theorem dX4_eased_0 : decode cX4_eased 0 = .ok (.iconst 0, 1) := by decide +kernel
theorem dX4_eased_1 : decode cX4_eased 1 = .ok (.istore 5, 2) := by decide +kernel
theorem dX4_eased_3 : decode cX4_eased 3 = .ok (.iload 5, 2) := by decide +kernel
theorem dX4_eased_5 : decode cX4_eased 5 = .ok (.aload_n 0, 1) := by decide +kernel
theorem dX4_eased_6 : decode cX4_eased 6 = .ok (.getfield 40, 3) := by decide +kernel
theorem dX4_eased_9 : decode cX4_eased 9 = .ok (.if_icmp .gt 76, 3) := by decide +kernel
theorem dX4_eased_12 : decode cX4_eased 12 = .ok (.iconst 0, 1) := by decide +kernel
theorem dX4_eased_13 : decode cX4_eased 13 = .ok (.istore 6, 2) := by decide +kernel
theorem dX4_eased_15 : decode cX4_eased 15 = .ok (.iload 6, 2) := by decide +kernel
theorem dX4_eased_17 : decode cX4_eased 17 = .ok (.aload_n 0, 1) := by decide +kernel
theorem dX4_eased_18 : decode cX4_eased 18 = .ok (.getfield 47, 3) := by decide +kernel
theorem dX4_eased_21 : decode cX4_eased 21 = .ok (.if_icmp .ge 58, 3) := by decide +kernel
theorem dX4_eased_24 : decode cX4_eased 24 = .ok (.iload 6, 2) := by decide +kernel
theorem dX4_eased_26 : decode cX4_eased 26 = .ok (.iload 4, 2) := by decide +kernel
theorem dX4_eased_28 : decode cX4_eased 28 = .ok (.iconst (-1), 1) := by decide +kernel
theorem dX4_eased_29 : decode cX4_eased 29 = .ok (.ixor, 1) := by decide +kernel
theorem dX4_eased_30 : decode cX4_eased 30 = .ok (.iand, 1) := by decide +kernel
theorem dX4_eased_31 : decode cX4_eased 31 = .ok (.iload 6, 2) := by decide +kernel
theorem dX4_eased_33 : decode cX4_eased 33 = .ok (.iload_n 3, 1) := by decide +kernel
theorem dX4_eased_34 : decode cX4_eased 34 = .ok (.iand, 1) := by decide +kernel
theorem dX4_eased_35 : decode cX4_eased 35 = .ok (.ior, 1) := by decide +kernel
theorem dX4_eased_36 : decode cX4_eased 36 = .ok (.ifCond .ne 37, 3) := by decide +kernel
theorem dX4_eased_39 : decode cX4_eased 39 = .ok (.iload 6, 2) := by decide +kernel
theorem dX4_eased_41 : decode cX4_eased 41 = .ok (.invokestatic 125, 3) := by decide +kernel
theorem dX4_eased_44 : decode cX4_eased 44 = .ok (.iload 5, 2) := by decide +kernel
theorem dX4_eased_46 : decode cX4_eased 46 = .ok (.if_icmp .ne 27, 3) := by decide +kernel
theorem dX4_eased_49 : decode cX4_eased 49 = .ok (.aload_n 0, 1) := by decide +kernel
theorem dX4_eased_50 : decode cX4_eased 50 = .ok (.iconst (-1), 1) := by decide +kernel
theorem dX4_eased_51 : decode cX4_eased 51 = .ok (.iload_n 3, 1) := by decide +kernel
theorem dX4_eased_52 : decode cX4_eased 52 = .ok (.iload 6, 2) := by decide +kernel
theorem dX4_eased_54 : decode cX4_eased 54 = .ok (.invokevirtual 53, 3) := by decide +kernel
theorem dX4_eased_57 : decode cX4_eased 57 = .ok (.aload_n 0, 1) := by decide +kernel
theorem dX4_eased_58 : decode cX4_eased 58 = .ok (.iload_n 1, 1) := by decide +kernel
theorem dX4_eased_59 : decode cX4_eased 59 = .ok (.invokevirtual 101, 3) := by decide +kernel
theorem dX4_eased_62 : decode cX4_eased 62 = .ok (.aload_n 0, 1) := by decide +kernel
theorem dX4_eased_63 : decode cX4_eased 63 = .ok (.iload_n 2, 1) := by decide +kernel
theorem dX4_eased_64 : decode cX4_eased 64 = .ok (.invokevirtual 87, 3) := by decide +kernel
theorem dX4_eased_67 : decode cX4_eased 67 = .ok (.ifCond .eq 6, 3) := by decide +kernel
theorem dX4_eased_70 : decode cX4_eased 70 = .ok (.iload 6, 2) := by decide +kernel
theorem dX4_eased_72 : decode cX4_eased 72 = .ok (.ireturn, 1) := by decide +kernel
theorem dX4_eased_73 : decode cX4_eased 73 = .ok (.iinc 6 1, 3) := by decide +kernel
theorem dX4_eased_76 : decode cX4_eased 76 = .ok (.goto (-61), 3) := by decide +kernel
theorem dX4_eased_79 : decode cX4_eased 79 = .ok (.iinc 5 1, 3) := by decide +kernel
theorem dX4_eased_82 : decode cX4_eased 82 = .ok (.goto (-79), 3) := by decide +kernel
theorem dX4_eased_85 : decode cX4_eased 85 = .ok (.bipush (-2), 2) := by decide +kernel
theorem dX4_eased_87 : decode cX4_eased 87 = .ok (.ireturn, 1) := by decide +kernel
theorem dX4_winningLatch_0 : decode cX4_winningLatch 0 = .ok (.bipush (-2), 2) := by decide +kernel
theorem dX4_winningLatch_2 : decode cX4_winningLatch 2 = .ok (.istore_n 2, 1) := by decide +kernel
theorem dX4_winningLatch_3 : decode cX4_winningLatch 3 = .ok (.aload_n 0, 1) := by decide +kernel
theorem dX4_winningLatch_4 : decode cX4_winningLatch 4 = .ok (.getfield 47, 3) := by decide +kernel
theorem dX4_winningLatch_7 : decode cX4_winningLatch 7 = .ok (.iconst 1, 1) := by decide +kernel
theorem dX4_winningLatch_8 : decode cX4_winningLatch 8 = .ok (.isub, 1) := by decide +kernel
theorem dX4_winningLatch_9 : decode cX4_winningLatch 9 = .ok (.istore_n 3, 1) := by decide +kernel
theorem dX4_winningLatch_10 : decode cX4_winningLatch 10 = .ok (.iload_n 3, 1) := by decide +kernel
theorem dX4_winningLatch_11 : decode cX4_winningLatch 11 = .ok (.iload_n 1, 1) := by decide +kernel
theorem dX4_winningLatch_12 : decode cX4_winningLatch 12 = .ok (.if_icmp .lt 85, 3) := by decide +kernel
theorem dX4_winningLatch_15 : decode cX4_winningLatch 15 = .ok (.bipush (-2), 2) := by decide +kernel
theorem dX4_winningLatch_17 : decode cX4_winningLatch 17 = .ok (.istore_n 2, 1) := by decide +kernel
theorem dX4_winningLatch_18 : decode cX4_winningLatch 18 = .ok (.aload_n 0, 1) := by decide +kernel
theorem dX4_winningLatch_19 : decode cX4_winningLatch 19 = .ok (.getfield 40, 3) := by decide +kernel
theorem dX4_winningLatch_22 : decode cX4_winningLatch 22 = .ok (.iconst 1, 1) := by decide +kernel
theorem dX4_winningLatch_23 : decode cX4_winningLatch 23 = .ok (.isub, 1) := by decide +kernel
theorem dX4_winningLatch_24 : decode cX4_winningLatch 24 = .ok (.istore 4, 2) := by decide +kernel
theorem dX4_winningLatch_26 : decode cX4_winningLatch 26 = .ok (.iload 4, 2) := by decide +kernel
theorem dX4_winningLatch_28 : decode cX4_winningLatch 28 = .ok (.ifCond .lt 46, 3) := by decide +kernel
theorem dX4_winningLatch_31 : decode cX4_winningLatch 31 = .ok (.iload_n 3, 1) := by decide +kernel
theorem dX4_winningLatch_32 : decode cX4_winningLatch 32 = .ok (.iconst 1, 1) := by decide +kernel
theorem dX4_winningLatch_33 : decode cX4_winningLatch 33 = .ok (.iload 4, 2) := by decide +kernel
theorem dX4_winningLatch_35 : decode cX4_winningLatch 35 = .ok (.ishl, 1) := by decide +kernel
theorem dX4_winningLatch_36 : decode cX4_winningLatch 36 = .ok (.ior, 1) := by decide +kernel
theorem dX4_winningLatch_37 : decode cX4_winningLatch 37 = .ok (.istore 5, 2) := by decide +kernel
theorem dX4_winningLatch_39 : decode cX4_winningLatch 39 = .ok (.iload 5, 2) := by decide +kernel
theorem dX4_winningLatch_41 : decode cX4_winningLatch 41 = .ok (.iload_n 3, 1) := by decide +kernel
theorem dX4_winningLatch_42 : decode cX4_winningLatch 42 = .ok (.if_icmp .eq 26, 3) := by decide +kernel
theorem dX4_winningLatch_45 : decode cX4_winningLatch 45 = .ok (.aload_n 0, 1) := by decide +kernel
theorem dX4_winningLatch_46 : decode cX4_winningLatch 46 = .ok (.iload_n 3, 1) := by decide +kernel
theorem dX4_winningLatch_47 : decode cX4_winningLatch 47 = .ok (.iload 4, 2) := by decide +kernel
theorem dX4_winningLatch_49 : decode cX4_winningLatch 49 = .ok (.invokevirtual 83, 3) := by decide +kernel
theorem dX4_winningLatch_52 : decode cX4_winningLatch 52 = .ok (.ifCond .eq 16, 3) := by decide +kernel
theorem dX4_winningLatch_55 : decode cX4_winningLatch 55 = .ok (.aload_n 0, 1) := by decide +kernel
theorem dX4_winningLatch_56 : decode cX4_winningLatch 56 = .ok (.getfield 21, 3) := by decide +kernel
theorem dX4_winningLatch_59 : decode cX4_winningLatch 59 = .ok (.iload 5, 2) := by decide +kernel
theorem dX4_winningLatch_61 : decode cX4_winningLatch 61 = .ok (.iaload, 1) := by decide +kernel
theorem dX4_winningLatch_62 : decode cX4_winningLatch 62 = .ok (.ifCond .ne 6, 3) := by decide +kernel
theorem dX4_winningLatch_65 : decode cX4_winningLatch 65 = .ok (.iload 4, 2) := by decide +kernel
theorem dX4_winningLatch_67 : decode cX4_winningLatch 67 = .ok (.istore_n 2, 1) := by decide +kernel
theorem dX4_winningLatch_68 : decode cX4_winningLatch 68 = .ok (.iinc 4 (-1), 3) := by decide +kernel
theorem dX4_winningLatch_71 : decode cX4_winningLatch 71 = .ok (.goto (-45), 3) := by decide +kernel
theorem dX4_winningLatch_74 : decode cX4_winningLatch 74 = .ok (.aload_n 0, 1) := by decide +kernel
theorem dX4_winningLatch_75 : decode cX4_winningLatch 75 = .ok (.getfield 21, 3) := by decide +kernel
theorem dX4_winningLatch_78 : decode cX4_winningLatch 78 = .ok (.iload_n 3, 1) := by decide +kernel
theorem dX4_winningLatch_79 : decode cX4_winningLatch 79 = .ok (.iload_n 2, 1) := by decide +kernel
theorem dX4_winningLatch_80 : decode cX4_winningLatch 80 = .ok (.bipush (-2), 2) := by decide +kernel
theorem dX4_winningLatch_82 : decode cX4_winningLatch 82 = .ok (.if_icmp .ne 7, 3) := by decide +kernel
theorem dX4_winningLatch_85 : decode cX4_winningLatch 85 = .ok (.iconst 0, 1) := by decide +kernel
theorem dX4_winningLatch_86 : decode cX4_winningLatch 86 = .ok (.goto 4, 3) := by decide +kernel
theorem dX4_winningLatch_89 : decode cX4_winningLatch 89 = .ok (.iconst 1, 1) := by decide +kernel
theorem dX4_winningLatch_90 : decode cX4_winningLatch 90 = .ok (.iastore, 1) := by decide +kernel
theorem dX4_winningLatch_91 : decode cX4_winningLatch 91 = .ok (.iinc 3 (-1), 3) := by decide +kernel
theorem dX4_winningLatch_94 : decode cX4_winningLatch 94 = .ok (.goto (-84), 3) := by decide +kernel
theorem dX4_winningLatch_97 : decode cX4_winningLatch 97 = .ok (.iload_n 2, 1) := by decide +kernel
theorem dX4_winningLatch_98 : decode cX4_winningLatch 98 = .ok (.ireturn, 1) := by decide +kernel
theorem dX4_drunkTo_0 : decode cX4_drunkTo 0 = .ok (.aload_n 0, 1) := by decide +kernel
theorem dX4_drunkTo_1 : decode cX4_drunkTo 1 = .ok (.getfield 24, 3) := by decide +kernel
theorem dX4_drunkTo_4 : decode cX4_drunkTo 4 = .ok (.lconst 0, 1) := by decide +kernel
theorem dX4_drunkTo_5 : decode cX4_drunkTo 5 = .ok (.invokestatic 93, 3) := by decide +kernel
theorem dX4_drunkTo_8 : decode cX4_drunkTo 8 = .ok (.aload_n 0, 1) := by decide +kernel
theorem dX4_drunkTo_9 : decode cX4_drunkTo 9 = .ok (.getfield 24, 3) := by decide +kernel
theorem dX4_drunkTo_12 : decode cX4_drunkTo 12 = .ok (.iload_n 1, 1) := by decide +kernel
theorem dX4_drunkTo_13 : decode cX4_drunkTo 13 = .ok (.lconst 1, 1) := by decide +kernel
theorem dX4_drunkTo_14 : decode cX4_drunkTo 14 = .ok (.lastore, 1) := by decide +kernel
theorem dX4_drunkTo_15 : decode cX4_drunkTo 15 = .ok (.iconst 0, 1) := by decide +kernel
theorem dX4_drunkTo_16 : decode cX4_drunkTo 16 = .ok (.istore 4, 2) := by decide +kernel
theorem dX4_drunkTo_18 : decode cX4_drunkTo 18 = .ok (.iload 4, 2) := by decide +kernel
theorem dX4_drunkTo_20 : decode cX4_drunkTo 20 = .ok (.iload_n 3, 1) := by decide +kernel
theorem dX4_drunkTo_21 : decode cX4_drunkTo 21 = .ok (.if_icmp .ge 69, 3) := by decide +kernel
theorem dX4_drunkTo_24 : decode cX4_drunkTo 24 = .ok (.aload_n 0, 1) := by decide +kernel
theorem dX4_drunkTo_25 : decode cX4_drunkTo 25 = .ok (.getfield 28, 3) := by decide +kernel
theorem dX4_drunkTo_28 : decode cX4_drunkTo 28 = .ok (.lconst 0, 1) := by decide +kernel
theorem dX4_drunkTo_29 : decode cX4_drunkTo 29 = .ok (.invokestatic 93, 3) := by decide +kernel
theorem dX4_drunkTo_32 : decode cX4_drunkTo 32 = .ok (.iconst 0, 1) := by decide +kernel
theorem dX4_drunkTo_33 : decode cX4_drunkTo 33 = .ok (.istore 5, 2) := by decide +kernel
theorem dX4_drunkTo_35 : decode cX4_drunkTo 35 = .ok (.iload 5, 2) := by decide +kernel
theorem dX4_drunkTo_37 : decode cX4_drunkTo 37 = .ok (.aload_n 0, 1) := by decide +kernel
theorem dX4_drunkTo_38 : decode cX4_drunkTo 38 = .ok (.getfield 47, 3) := by decide +kernel
theorem dX4_drunkTo_41 : decode cX4_drunkTo 41 = .ok (.if_icmp .ge 27, 3) := by decide +kernel
theorem dX4_drunkTo_44 : decode cX4_drunkTo 44 = .ok (.aload_n 0, 1) := by decide +kernel
theorem dX4_drunkTo_45 : decode cX4_drunkTo 45 = .ok (.getfield 24, 3) := by decide +kernel
theorem dX4_drunkTo_48 : decode cX4_drunkTo 48 = .ok (.iload 5, 2) := by decide +kernel
theorem dX4_drunkTo_50 : decode cX4_drunkTo 50 = .ok (.laload, 1) := by decide +kernel
theorem dX4_drunkTo_51 : decode cX4_drunkTo 51 = .ok (.lconst 0, 1) := by decide +kernel
theorem dX4_drunkTo_52 : decode cX4_drunkTo 52 = .ok (.lcmp, 1) := by decide +kernel
theorem dX4_drunkTo_53 : decode cX4_drunkTo 53 = .ok (.ifCond .eq 9, 3) := by decide +kernel
theorem dX4_drunkTo_56 : decode cX4_drunkTo 56 = .ok (.aload_n 0, 1) := by decide +kernel
theorem dX4_drunkTo_57 : decode cX4_drunkTo 57 = .ok (.iload 5, 2) := by decide +kernel
theorem dX4_drunkTo_59 : decode cX4_drunkTo 59 = .ok (.invokevirtual 130, 3) := by decide +kernel
theorem dX4_drunkTo_62 : decode cX4_drunkTo 62 = .ok (.iinc 5 1, 3) := by decide +kernel
theorem dX4_drunkTo_65 : decode cX4_drunkTo 65 = .ok (.goto (-30), 3) := by decide +kernel
theorem dX4_drunkTo_68 : decode cX4_drunkTo 68 = .ok (.aload_n 0, 1) := by decide +kernel
theorem dX4_drunkTo_69 : decode cX4_drunkTo 69 = .ok (.getfield 28, 3) := by decide +kernel
theorem dX4_drunkTo_72 : decode cX4_drunkTo 72 = .ok (.iconst 0, 1) := by decide +kernel
theorem dX4_drunkTo_73 : decode cX4_drunkTo 73 = .ok (.aload_n 0, 1) := by decide +kernel
theorem dX4_drunkTo_74 : decode cX4_drunkTo 74 = .ok (.getfield 24, 3) := by decide +kernel
theorem dX4_drunkTo_77 : decode cX4_drunkTo 77 = .ok (.iconst 0, 1) := by decide +kernel
theorem dX4_drunkTo_78 : decode cX4_drunkTo 78 = .ok (.sipush 256, 3) := by decide +kernel
theorem dX4_drunkTo_81 : decode cX4_drunkTo 81 = .ok (.invokestatic 105, 3) := by decide +kernel
theorem dX4_drunkTo_84 : decode cX4_drunkTo 84 = .ok (.iinc 4 1, 3) := by decide +kernel
theorem dX4_drunkTo_87 : decode cX4_drunkTo 87 = .ok (.goto (-69), 3) := by decide +kernel
theorem dX4_drunkTo_90 : decode cX4_drunkTo 90 = .ok (.aload_n 0, 1) := by decide +kernel
theorem dX4_drunkTo_91 : decode cX4_drunkTo 91 = .ok (.getfield 24, 3) := by decide +kernel
theorem dX4_drunkTo_94 : decode cX4_drunkTo 94 = .ok (.iload_n 2, 1) := by decide +kernel
theorem dX4_drunkTo_95 : decode cX4_drunkTo 95 = .ok (.laload, 1) := by decide +kernel
theorem dX4_drunkTo_96 : decode cX4_drunkTo 96 = .ok (.lreturn, 1) := by decide +kernel
theorem dX4_spill_0 : decode cX4_spill 0 = .ok (.aload_n 0, 1) := by decide +kernel
theorem dX4_spill_1 : decode cX4_spill 1 = .ok (.getfield 9, 3) := by decide +kernel
theorem dX4_spill_4 : decode cX4_spill 4 = .ok (.iload_n 1, 1) := by decide +kernel
theorem dX4_spill_5 : decode cX4_spill 5 = .ok (.iaload, 1) := by decide +kernel
theorem dX4_spill_6 : decode cX4_spill 6 = .ok (.invokestatic 125, 3) := by decide +kernel
theorem dX4_spill_9 : decode cX4_spill 9 = .ok (.istore_n 2, 1) := by decide +kernel
theorem dX4_spill_10 : decode cX4_spill 10 = .ok (.iload_n 2, 1) := by decide +kernel
theorem dX4_spill_11 : decode cX4_spill 11 = .ok (.ifCond .ne 23, 3) := by decide +kernel
theorem dX4_spill_14 : decode cX4_spill 14 = .ok (.aload_n 0, 1) := by decide +kernel
theorem dX4_spill_15 : decode cX4_spill 15 = .ok (.getfield 28, 3) := by decide +kernel
theorem dX4_spill_18 : decode cX4_spill 18 = .ok (.iload_n 1, 1) := by decide +kernel
theorem dX4_spill_19 : decode cX4_spill 19 = .ok (.dup2, 1) := by decide +kernel
theorem dX4_spill_20 : decode cX4_spill 20 = .ok (.laload, 1) := by decide +kernel
theorem dX4_spill_21 : decode cX4_spill 21 = .ok (.aload_n 0, 1) := by decide +kernel
theorem dX4_spill_22 : decode cX4_spill 22 = .ok (.getfield 24, 3) := by decide +kernel
theorem dX4_spill_25 : decode cX4_spill 25 = .ok (.iload_n 1, 1) := by decide +kernel
theorem dX4_spill_26 : decode cX4_spill 26 = .ok (.laload, 1) := by decide +kernel
theorem dX4_spill_27 : decode cX4_spill 27 = .ok (.ldc2_w 133, 3) := by decide +kernel
theorem dX4_spill_30 : decode cX4_spill 30 = .ok (.lmul, 1) := by decide +kernel
theorem dX4_spill_31 : decode cX4_spill 31 = .ok (.ladd, 1) := by decide +kernel
theorem dX4_spill_32 : decode cX4_spill 32 = .ok (.lastore, 1) := by decide +kernel
theorem dX4_spill_33 : decode cX4_spill 33 = .ok (.return_, 1) := by decide +kernel
theorem dX4_spill_34 : decode cX4_spill 34 = .ok (.aload_n 0, 1) := by decide +kernel
theorem dX4_spill_35 : decode cX4_spill 35 = .ok (.getfield 24, 3) := by decide +kernel
theorem dX4_spill_38 : decode cX4_spill 38 = .ok (.iload_n 1, 1) := by decide +kernel
theorem dX4_spill_39 : decode cX4_spill 39 = .ok (.laload, 1) := by decide +kernel
theorem dX4_spill_40 : decode cX4_spill 40 = .ok (.sipush 840, 3) := by decide +kernel
theorem dX4_spill_43 : decode cX4_spill 43 = .ok (.iload_n 2, 1) := by decide +kernel
theorem dX4_spill_44 : decode cX4_spill 44 = .ok (.idiv, 1) := by decide +kernel
theorem dX4_spill_45 : decode cX4_spill 45 = .ok (.i2l, 1) := by decide +kernel
theorem dX4_spill_46 : decode cX4_spill 46 = .ok (.lmul, 1) := by decide +kernel
theorem dX4_spill_47 : decode cX4_spill 47 = .ok (.lstore_n 3, 1) := by decide +kernel
theorem dX4_spill_48 : decode cX4_spill 48 = .ok (.iconst 0, 1) := by decide +kernel
theorem dX4_spill_49 : decode cX4_spill 49 = .ok (.istore 5, 2) := by decide +kernel
theorem dX4_spill_51 : decode cX4_spill 51 = .ok (.iload 5, 2) := by decide +kernel
theorem dX4_spill_53 : decode cX4_spill 53 = .ok (.aload_n 0, 1) := by decide +kernel
theorem dX4_spill_54 : decode cX4_spill 54 = .ok (.getfield 40, 3) := by decide +kernel
theorem dX4_spill_57 : decode cX4_spill 57 = .ok (.if_icmp .ge 34, 3) := by decide +kernel
theorem dX4_spill_60 : decode cX4_spill 60 = .ok (.aload_n 0, 1) := by decide +kernel
theorem dX4_spill_61 : decode cX4_spill 61 = .ok (.iload_n 1, 1) := by decide +kernel
theorem dX4_spill_62 : decode cX4_spill 62 = .ok (.iload 5, 2) := by decide +kernel
theorem dX4_spill_64 : decode cX4_spill 64 = .ok (.invokevirtual 83, 3) := by decide +kernel
theorem dX4_spill_67 : decode cX4_spill 67 = .ok (.ifCond .eq 18, 3) := by decide +kernel
theorem dX4_spill_70 : decode cX4_spill 70 = .ok (.aload_n 0, 1) := by decide +kernel
theorem dX4_spill_71 : decode cX4_spill 71 = .ok (.getfield 28, 3) := by decide +kernel
theorem dX4_spill_74 : decode cX4_spill 74 = .ok (.iload_n 1, 1) := by decide +kernel
theorem dX4_spill_75 : decode cX4_spill 75 = .ok (.iconst 1, 1) := by decide +kernel
theorem dX4_spill_76 : decode cX4_spill 76 = .ok (.iload 5, 2) := by decide +kernel
theorem dX4_spill_78 : decode cX4_spill 78 = .ok (.ishl, 1) := by decide +kernel
theorem dX4_spill_79 : decode cX4_spill 79 = .ok (.ixor, 1) := by decide +kernel
theorem dX4_spill_80 : decode cX4_spill 80 = .ok (.dup2, 1) := by decide +kernel
theorem dX4_spill_81 : decode cX4_spill 81 = .ok (.laload, 1) := by decide +kernel
theorem dX4_spill_82 : decode cX4_spill 82 = .ok (.lload_n 3, 1) := by decide +kernel
theorem dX4_spill_83 : decode cX4_spill 83 = .ok (.ladd, 1) := by decide +kernel
theorem dX4_spill_84 : decode cX4_spill 84 = .ok (.lastore, 1) := by decide +kernel
theorem dX4_spill_85 : decode cX4_spill 85 = .ok (.iinc 5 1, 3) := by decide +kernel
theorem dX4_spill_88 : decode cX4_spill 88 = .ok (.goto (-37), 3) := by decide +kernel
theorem dX4_spill_91 : decode cX4_spill 91 = .ok (.return_, 1) := by decide +kernel
theorem dX5_init_0 : decode cX5_init 0 = .ok (.aload_n 0, 1) := by decide +kernel
theorem dX5_init_1 : decode cX5_init 1 = .ok (.invokespecial 3, 3) := by decide +kernel
theorem dX5_init_4 : decode cX5_init 4 = .ok (.aload_n 0, 1) := by decide +kernel
theorem dX5_init_5 : decode cX5_init 5 = .ok (.new 9, 3) := by decide +kernel
theorem dX5_init_8 : decode cX5_init 8 = .ok (.dup, 1) := by decide +kernel
theorem dX5_init_9 : decode cX5_init 9 = .ok (.invokespecial 11, 3) := by decide +kernel
theorem dX5_init_12 : decode cX5_init 12 = .ok (.putfield 12, 3) := by decide +kernel
theorem dX5_init_15 : decode cX5_init 15 = .ok (.aload_n 0, 1) := by decide +kernel
theorem dX5_init_16 : decode cX5_init 16 = .ok (.new 18, 3) := by decide +kernel
theorem dX5_init_19 : decode cX5_init 19 = .ok (.dup, 1) := by decide +kernel
theorem dX5_init_20 : decode cX5_init 20 = .ok (.invokespecial 20, 3) := by decide +kernel
theorem dX5_init_23 : decode cX5_init 23 = .ok (.putfield 21, 3) := by decide +kernel
theorem dX5_init_26 : decode cX5_init 26 = .ok (.aload_n 0, 1) := by decide +kernel
theorem dX5_init_27 : decode cX5_init 27 = .ok (.bipush 72, 2) := by decide +kernel
theorem dX5_init_29 : decode cX5_init 29 = .ok (.newarray .int, 2) := by decide +kernel
theorem dX5_init_31 : decode cX5_init 31 = .ok (.putfield 25, 3) := by decide +kernel
theorem dX5_init_34 : decode cX5_init 34 = .ok (.aload_n 0, 1) := by decide +kernel
theorem dX5_init_35 : decode cX5_init 35 = .ok (.iconst (-1), 1) := by decide +kernel
theorem dX5_init_36 : decode cX5_init 36 = .ok (.putfield 29, 3) := by decide +kernel
theorem dX5_init_39 : decode cX5_init 39 = .ok (.aload_n 0, 1) := by decide +kernel
theorem dX5_init_40 : decode cX5_init 40 = .ok (.iconst (-1), 1) := by decide +kernel
theorem dX5_init_41 : decode cX5_init 41 = .ok (.putfield 33, 3) := by decide +kernel
theorem dX5_init_44 : decode cX5_init 44 = .ok (.return_, 1) := by decide +kernel
theorem dX5_reads_0 : decode cX5_reads 0 = .ok (.aload_n 0, 1) := by decide +kernel
theorem dX5_reads_1 : decode cX5_reads 1 = .ok (.getfield 21, 3) := by decide +kernel
theorem dX5_reads_4 : decode cX5_reads 4 = .ok (.invokevirtual 36, 3) := by decide +kernel
theorem dX5_reads_7 : decode cX5_reads 7 = .ok (.aload_n 0, 1) := by decide +kernel
theorem dX5_reads_8 : decode cX5_reads 8 = .ok (.iconst 0, 1) := by decide +kernel
theorem dX5_reads_9 : decode cX5_reads 9 = .ok (.putfield 39, 3) := by decide +kernel
theorem dX5_reads_12 : decode cX5_reads 12 = .ok (.aload_n 0, 1) := by decide +kernel
theorem dX5_reads_13 : decode cX5_reads 13 = .ok (.iconst 0, 1) := by decide +kernel
theorem dX5_reads_14 : decode cX5_reads 14 = .ok (.putfield 42, 3) := by decide +kernel
theorem dX5_reads_17 : decode cX5_reads 17 = .ok (.aload_n 0, 1) := by decide +kernel
theorem dX5_reads_18 : decode cX5_reads 18 = .ok (.iconst 0, 1) := by decide +kernel
theorem dX5_reads_19 : decode cX5_reads 19 = .ok (.putfield 46, 3) := by decide +kernel
theorem dX5_reads_22 : decode cX5_reads 22 = .ok (.aload_n 0, 1) := by decide +kernel
theorem dX5_reads_23 : decode cX5_reads 23 = .ok (.iconst 0, 1) := by decide +kernel
theorem dX5_reads_24 : decode cX5_reads 24 = .ok (.putfield 49, 3) := by decide +kernel
theorem dX5_reads_27 : decode cX5_reads 27 = .ok (.aload_n 0, 1) := by decide +kernel
theorem dX5_reads_28 : decode cX5_reads 28 = .ok (.iconst (-1), 1) := by decide +kernel
theorem dX5_reads_29 : decode cX5_reads 29 = .ok (.putfield 33, 3) := by decide +kernel
theorem dX5_reads_32 : decode cX5_reads 32 = .ok (.aload_n 0, 1) := by decide +kernel
theorem dX5_reads_33 : decode cX5_reads 33 = .ok (.getfield 12, 3) := by decide +kernel
theorem dX5_reads_36 : decode cX5_reads 36 = .ok (.iload_n 1, 1) := by decide +kernel
theorem dX5_reads_37 : decode cX5_reads 37 = .ok (.invokevirtual 52, 3) := by decide +kernel
theorem dX5_reads_40 : decode cX5_reads 40 = .ok (.iconst 0, 1) := by decide +kernel
theorem dX5_reads_41 : decode cX5_reads 41 = .ok (.istore_n 2, 1) := by decide +kernel
theorem dX5_reads_42 : decode cX5_reads 42 = .ok (.iload_n 2, 1) := by decide +kernel
theorem dX5_reads_43 : decode cX5_reads 43 = .ok (.sipush 700, 3) := by decide +kernel
theorem dX5_reads_46 : decode cX5_reads 46 = .ok (.if_icmp .gt 50, 3) := by decide +kernel
theorem dX5_reads_49 : decode cX5_reads 49 = .ok (.aload_n 0, 1) := by decide +kernel
theorem dX5_reads_50 : decode cX5_reads 50 = .ok (.getfield 12, 3) := by decide +kernel
theorem dX5_reads_53 : decode cX5_reads 53 = .ok (.getfield 56, 3) := by decide +kernel
theorem dX5_reads_56 : decode cX5_reads 56 = .ok (.bipush 39, 2) := by decide +kernel
theorem dX5_reads_58 : decode cX5_reads 58 = .ok (.if_icmp .eq 38, 3) := by decide +kernel
theorem dX5_reads_61 : decode cX5_reads 61 = .ok (.aload_n 0, 1) := by decide +kernel
theorem dX5_reads_62 : decode cX5_reads 62 = .ok (.invokevirtual 59, 3) := by decide +kernel
theorem dX5_reads_65 : decode cX5_reads 65 = .ok (.ifCond .eq 10, 3) := by decide +kernel
theorem dX5_reads_68 : decode cX5_reads 68 = .ok (.aload_n 0, 1) := by decide +kernel
theorem dX5_reads_69 : decode cX5_reads 69 = .ok (.invokevirtual 63, 3) := by decide +kernel
theorem dX5_reads_72 : decode cX5_reads 72 = .ok (.ifCond .ne 5, 3) := by decide +kernel
theorem dX5_reads_75 : decode cX5_reads 75 = .ok (.iconst 0, 1) := by decide +kernel
theorem dX5_reads_76 : decode cX5_reads 76 = .ok (.ireturn, 1) := by decide +kernel
theorem dX5_reads_77 : decode cX5_reads 77 = .ok (.aload_n 0, 1) := by decide +kernel
theorem dX5_reads_78 : decode cX5_reads 78 = .ok (.getfield 21, 3) := by decide +kernel
theorem dX5_reads_81 : decode cX5_reads 81 = .ok (.dup, 1) := by decide +kernel
theorem dX5_reads_82 : decode cX5_reads 82 = .ok (.getfield 66, 3) := by decide +kernel
theorem dX5_reads_85 : decode cX5_reads 85 = .ok (.iconst 1, 1) := by decide +kernel
theorem dX5_reads_86 : decode cX5_reads 86 = .ok (.iadd, 1) := by decide +kernel
theorem dX5_reads_87 : decode cX5_reads 87 = .ok (.putfield 66, 3) := by decide +kernel
theorem dX5_reads_90 : decode cX5_reads 90 = .ok (.iinc 2 1, 3) := by decide +kernel
theorem dX5_reads_93 : decode cX5_reads 93 = .ok (.goto (-51), 3) := by decide +kernel
theorem dX5_reads_96 : decode cX5_reads 96 = .ok (.aload_n 0, 1) := by decide +kernel
theorem dX5_reads_97 : decode cX5_reads 97 = .ok (.getfield 21, 3) := by decide +kernel
theorem dX5_reads_100 : decode cX5_reads 100 = .ok (.invokevirtual 69, 3) := by decide +kernel
theorem dX5_reads_103 : decode cX5_reads 103 = .ok (.iconst 1, 1) := by decide +kernel
theorem dX5_reads_104 : decode cX5_reads 104 = .ok (.ireturn, 1) := by decide +kernel
theorem dX5_fails_0 : decode cX5_fails 0 = .ok (.aload_n 0, 1) := by decide +kernel
theorem dX5_fails_1 : decode cX5_fails 1 = .ok (.iload_n 1, 1) := by decide +kernel
theorem dX5_fails_2 : decode cX5_fails 2 = .ok (.putfield 49, 3) := by decide +kernel
theorem dX5_fails_5 : decode cX5_fails 5 = .ok (.aload_n 0, 1) := by decide +kernel
theorem dX5_fails_6 : decode cX5_fails 6 = .ok (.aload_n 0, 1) := by decide +kernel
theorem dX5_fails_7 : decode cX5_fails 7 = .ok (.getfield 12, 3) := by decide +kernel
theorem dX5_fails_10 : decode cX5_fails 10 = .ok (.getfield 72, 3) := by decide +kernel
theorem dX5_fails_13 : decode cX5_fails 13 = .ok (.putfield 33, 3) := by decide +kernel
theorem dX5_fails_16 : decode cX5_fails 16 = .ok (.iconst 0, 1) := by decide +kernel
theorem dX5_fails_17 : decode cX5_fails 17 = .ok (.ireturn, 1) := by decide +kernel
theorem dX5_ends_0 : decode cX5_ends 0 = .ok (.aload_n 0, 1) := by decide +kernel
theorem dX5_ends_1 : decode cX5_ends 1 = .ok (.getfield 12, 3) := by decide +kernel
theorem dX5_ends_4 : decode cX5_ends 4 = .ok (.getfield 56, 3) := by decide +kernel
theorem dX5_ends_7 : decode cX5_ends 7 = .ok (.bipush 24, 2) := by decide +kernel
theorem dX5_ends_9 : decode cX5_ends 9 = .ok (.if_icmp .eq 9, 3) := by decide +kernel
theorem dX5_ends_12 : decode cX5_ends 12 = .ok (.aload_n 0, 1) := by decide +kernel
theorem dX5_ends_13 : decode cX5_ends 13 = .ok (.iconst 1, 1) := by decide +kernel
theorem dX5_ends_14 : decode cX5_ends 14 = .ok (.invokevirtual 75, 3) := by decide +kernel
theorem dX5_ends_17 : decode cX5_ends 17 = .ok (.ireturn, 1) := by decide +kernel
theorem dX5_ends_18 : decode cX5_ends 18 = .ok (.aload_n 0, 1) := by decide +kernel
theorem dX5_ends_19 : decode cX5_ends 19 = .ok (.getfield 12, 3) := by decide +kernel
theorem dX5_ends_22 : decode cX5_ends 22 = .ok (.invokevirtual 79, 3) := by decide +kernel
theorem dX5_ends_25 : decode cX5_ends 25 = .ok (.iconst 1, 1) := by decide +kernel
theorem dX5_ends_26 : decode cX5_ends 26 = .ok (.ireturn, 1) := by decide +kernel
theorem dX5_line_0 : decode cX5_line 0 = .ok (.aload_n 0, 1) := by decide +kernel
theorem dX5_line_1 : decode cX5_line 1 = .ok (.getfield 12, 3) := by decide +kernel
theorem dX5_line_4 : decode cX5_line 4 = .ok (.getfield 56, 3) := by decide +kernel
theorem dX5_line_7 : decode cX5_line 7 = .ok (.tableswitch 76 0 6 #[41, 46, 51, 56, 61, 66, 71], 41) := by decide +kernel
theorem dX5_line_48 : decode cX5_line 48 = .ok (.aload_n 0, 1) := by decide +kernel
theorem dX5_line_49 : decode cX5_line 49 = .ok (.invokevirtual 82, 3) := by decide +kernel
theorem dX5_line_52 : decode cX5_line 52 = .ok (.ireturn, 1) := by decide +kernel
theorem dX5_line_53 : decode cX5_line 53 = .ok (.aload_n 0, 1) := by decide +kernel
theorem dX5_line_54 : decode cX5_line 54 = .ok (.invokevirtual 85, 3) := by decide +kernel
theorem dX5_line_57 : decode cX5_line 57 = .ok (.ireturn, 1) := by decide +kernel
theorem dX5_line_58 : decode cX5_line 58 = .ok (.aload_n 0, 1) := by decide +kernel
theorem dX5_line_59 : decode cX5_line 59 = .ok (.invokevirtual 88, 3) := by decide +kernel
theorem dX5_line_62 : decode cX5_line 62 = .ok (.ireturn, 1) := by decide +kernel
theorem dX5_line_63 : decode cX5_line 63 = .ok (.aload_n 0, 1) := by decide +kernel
theorem dX5_line_64 : decode cX5_line 64 = .ok (.invokevirtual 91, 3) := by decide +kernel
theorem dX5_line_67 : decode cX5_line 67 = .ok (.ireturn, 1) := by decide +kernel
theorem dX5_line_68 : decode cX5_line 68 = .ok (.aload_n 0, 1) := by decide +kernel
theorem dX5_line_69 : decode cX5_line 69 = .ok (.invokevirtual 94, 3) := by decide +kernel
theorem dX5_line_72 : decode cX5_line 72 = .ok (.ireturn, 1) := by decide +kernel
theorem dX5_line_73 : decode cX5_line 73 = .ok (.aload_n 0, 1) := by decide +kernel
theorem dX5_line_74 : decode cX5_line 74 = .ok (.invokevirtual 97, 3) := by decide +kernel
theorem dX5_line_77 : decode cX5_line 77 = .ok (.ireturn, 1) := by decide +kernel
theorem dX5_line_78 : decode cX5_line 78 = .ok (.aload_n 0, 1) := by decide +kernel
theorem dX5_line_79 : decode cX5_line 79 = .ok (.invokevirtual 100, 3) := by decide +kernel
theorem dX5_line_82 : decode cX5_line 82 = .ok (.ireturn, 1) := by decide +kernel
theorem dX5_line_83 : decode cX5_line 83 = .ok (.aload_n 0, 1) := by decide +kernel
theorem dX5_line_84 : decode cX5_line 84 = .ok (.iconst 1, 1) := by decide +kernel
theorem dX5_line_85 : decode cX5_line 85 = .ok (.invokevirtual 75, 3) := by decide +kernel
theorem dX5_line_88 : decode cX5_line 88 = .ok (.ireturn, 1) := by decide +kernel
theorem dX5_latchLine_0 : decode cX5_latchLine 0 = .ok (.aload_n 0, 1) := by decide +kernel
theorem dX5_latchLine_1 : decode cX5_latchLine 1 = .ok (.getfield 21, 3) := by decide +kernel
theorem dX5_latchLine_4 : decode cX5_latchLine 4 = .ok (.getfield 103, 3) := by decide +kernel
theorem dX5_latchLine_7 : decode cX5_latchLine 7 = .ok (.bipush 8, 2) := by decide +kernel
theorem dX5_latchLine_9 : decode cX5_latchLine 9 = .ok (.if_icmp .lt 9, 3) := by decide +kernel
theorem dX5_latchLine_12 : decode cX5_latchLine 12 = .ok (.aload_n 0, 1) := by decide +kernel
theorem dX5_latchLine_13 : decode cX5_latchLine 13 = .ok (.iconst 2, 1) := by decide +kernel
theorem dX5_latchLine_14 : decode cX5_latchLine 14 = .ok (.invokevirtual 75, 3) := by decide +kernel
theorem dX5_latchLine_17 : decode cX5_latchLine 17 = .ok (.ireturn, 1) := by decide +kernel
theorem dX5_latchLine_18 : decode cX5_latchLine 18 = .ok (.aload_n 0, 1) := by decide +kernel
theorem dX5_latchLine_19 : decode cX5_latchLine 19 = .ok (.getfield 12, 3) := by decide +kernel
theorem dX5_latchLine_22 : decode cX5_latchLine 22 = .ok (.invokevirtual 79, 3) := by decide +kernel
theorem dX5_latchLine_25 : decode cX5_latchLine 25 = .ok (.aload_n 0, 1) := by decide +kernel
theorem dX5_latchLine_26 : decode cX5_latchLine 26 = .ok (.getfield 12, 3) := by decide +kernel
theorem dX5_latchLine_29 : decode cX5_latchLine 29 = .ok (.getfield 56, 3) := by decide +kernel
theorem dX5_latchLine_32 : decode cX5_latchLine 32 = .ok (.bipush 38, 2) := by decide +kernel
theorem dX5_latchLine_34 : decode cX5_latchLine 34 = .ok (.if_icmp .eq 9, 3) := by decide +kernel
theorem dX5_latchLine_37 : decode cX5_latchLine 37 = .ok (.aload_n 0, 1) := by decide +kernel
theorem dX5_latchLine_38 : decode cX5_latchLine 38 = .ok (.iconst 1, 1) := by decide +kernel
theorem dX5_latchLine_39 : decode cX5_latchLine 39 = .ok (.invokevirtual 75, 3) := by decide +kernel
theorem dX5_latchLine_42 : decode cX5_latchLine 42 = .ok (.ireturn, 1) := by decide +kernel
theorem dX5_latchLine_43 : decode cX5_latchLine 43 = .ok (.aload_n 0, 1) := by decide +kernel
theorem dX5_latchLine_44 : decode cX5_latchLine 44 = .ok (.getfield 12, 3) := by decide +kernel
theorem dX5_latchLine_47 : decode cX5_latchLine 47 = .ok (.getfield 106, 3) := by decide +kernel
theorem dX5_latchLine_50 : decode cX5_latchLine 50 = .ok (.istore_n 1, 1) := by decide +kernel
theorem dX5_latchLine_51 : decode cX5_latchLine 51 = .ok (.aload_n 0, 1) := by decide +kernel
theorem dX5_latchLine_52 : decode cX5_latchLine 52 = .ok (.getfield 21, 3) := by decide +kernel
theorem dX5_latchLine_55 : decode cX5_latchLine 55 = .ok (.iload_n 1, 1) := by decide +kernel
theorem dX5_latchLine_56 : decode cX5_latchLine 56 = .ok (.invokevirtual 109, 3) := by decide +kernel
theorem dX5_latchLine_59 : decode cX5_latchLine 59 = .ok (.iconst (-1), 1) := by decide +kernel
theorem dX5_latchLine_60 : decode cX5_latchLine 60 = .ok (.if_icmp .eq 9, 3) := by decide +kernel
theorem dX5_latchLine_63 : decode cX5_latchLine 63 = .ok (.aload_n 0, 1) := by decide +kernel
theorem dX5_latchLine_64 : decode cX5_latchLine 64 = .ok (.iconst 3, 1) := by decide +kernel
theorem dX5_latchLine_65 : decode cX5_latchLine 65 = .ok (.invokevirtual 75, 3) := by decide +kernel
theorem dX5_latchLine_68 : decode cX5_latchLine 68 = .ok (.ireturn, 1) := by decide +kernel
theorem dX5_latchLine_69 : decode cX5_latchLine 69 = .ok (.aload_n 0, 1) := by decide +kernel
theorem dX5_latchLine_70 : decode cX5_latchLine 70 = .ok (.getfield 12, 3) := by decide +kernel
theorem dX5_latchLine_73 : decode cX5_latchLine 73 = .ok (.invokevirtual 79, 3) := by decide +kernel
theorem dX5_latchLine_76 : decode cX5_latchLine 76 = .ok (.aload_n 0, 1) := by decide +kernel
theorem dX5_latchLine_77 : decode cX5_latchLine 77 = .ok (.iconst 1, 1) := by decide +kernel
theorem dX5_latchLine_78 : decode cX5_latchLine 78 = .ok (.invokevirtual 113, 3) := by decide +kernel
theorem dX5_latchLine_81 : decode cX5_latchLine 81 = .ok (.ifCond .ne 5, 3) := by decide +kernel
theorem dX5_latchLine_84 : decode cX5_latchLine 84 = .ok (.iconst 0, 1) := by decide +kernel
theorem dX5_latchLine_85 : decode cX5_latchLine 85 = .ok (.ireturn, 1) := by decide +kernel
theorem dX5_latchLine_86 : decode cX5_latchLine 86 = .ok (.aload_n 0, 1) := by decide +kernel
theorem dX5_latchLine_87 : decode cX5_latchLine 87 = .ok (.getfield 21, 3) := by decide +kernel
theorem dX5_latchLine_90 : decode cX5_latchLine 90 = .ok (.iload_n 1, 1) := by decide +kernel
theorem dX5_latchLine_91 : decode cX5_latchLine 91 = .ok (.aload_n 0, 1) := by decide +kernel
theorem dX5_latchLine_92 : decode cX5_latchLine 92 = .ok (.getfield 12, 3) := by decide +kernel
theorem dX5_latchLine_95 : decode cX5_latchLine 95 = .ok (.getfield 106, 3) := by decide +kernel
theorem dX5_latchLine_98 : decode cX5_latchLine 98 = .ok (.invokevirtual 116, 3) := by decide +kernel
theorem dX5_latchLine_101 : decode cX5_latchLine 101 = .ok (.aload_n 0, 1) := by decide +kernel
theorem dX5_latchLine_102 : decode cX5_latchLine 102 = .ok (.getfield 12, 3) := by decide +kernel
theorem dX5_latchLine_105 : decode cX5_latchLine 105 = .ok (.invokevirtual 79, 3) := by decide +kernel
theorem dX5_latchLine_108 : decode cX5_latchLine 108 = .ok (.iconst 1, 1) := by decide +kernel
theorem dX5_latchLine_109 : decode cX5_latchLine 109 = .ok (.ireturn, 1) := by decide +kernel
theorem dX5_leanLine_0 : decode cX5_leanLine 0 = .ok (.aload_n 0, 1) := by decide +kernel
theorem dX5_leanLine_1 : decode cX5_leanLine 1 = .ok (.getfield 12, 3) := by decide +kernel
theorem dX5_leanLine_4 : decode cX5_leanLine 4 = .ok (.invokevirtual 79, 3) := by decide +kernel
theorem dX5_leanLine_7 : decode cX5_leanLine 7 = .ok (.aload_n 0, 1) := by decide +kernel
theorem dX5_leanLine_8 : decode cX5_leanLine 8 = .ok (.invokevirtual 120, 3) := by decide +kernel
theorem dX5_leanLine_11 : decode cX5_leanLine 11 = .ok (.ifCond .ne 5, 3) := by decide +kernel
theorem dX5_leanLine_14 : decode cX5_leanLine 14 = .ok (.iconst 0, 1) := by decide +kernel
theorem dX5_leanLine_15 : decode cX5_leanLine 15 = .ok (.ireturn, 1) := by decide +kernel
theorem dX5_leanLine_16 : decode cX5_leanLine 16 = .ok (.aload_n 0, 1) := by decide +kernel
theorem dX5_leanLine_17 : decode cX5_leanLine 17 = .ok (.getfield 21, 3) := by decide +kernel
theorem dX5_leanLine_20 : decode cX5_leanLine 20 = .ok (.aload_n 0, 1) := by decide +kernel
theorem dX5_leanLine_21 : decode cX5_leanLine 21 = .ok (.getfield 12, 3) := by decide +kernel
theorem dX5_leanLine_24 : decode cX5_leanLine 24 = .ok (.getfield 106, 3) := by decide +kernel
theorem dX5_leanLine_27 : decode cX5_leanLine 27 = .ok (.invokevirtual 109, 3) := by decide +kernel
theorem dX5_leanLine_30 : decode cX5_leanLine 30 = .ok (.istore_n 1, 1) := by decide +kernel
theorem dX5_leanLine_31 : decode cX5_leanLine 31 = .ok (.aload_n 0, 1) := by decide +kernel
theorem dX5_leanLine_32 : decode cX5_leanLine 32 = .ok (.getfield 21, 3) := by decide +kernel
theorem dX5_leanLine_35 : decode cX5_leanLine 35 = .ok (.iload_n 1, 1) := by decide +kernel
theorem dX5_leanLine_36 : decode cX5_leanLine 36 = .ok (.invokevirtual 123, 3) := by decide +kernel
theorem dX5_leanLine_39 : decode cX5_leanLine 39 = .ok (.ifCond .eq 9, 3) := by decide +kernel
theorem dX5_leanLine_42 : decode cX5_leanLine 42 = .ok (.aload_n 0, 1) := by decide +kernel
theorem dX5_leanLine_43 : decode cX5_leanLine 43 = .ok (.iconst 3, 1) := by decide +kernel
theorem dX5_leanLine_44 : decode cX5_leanLine 44 = .ok (.invokevirtual 75, 3) := by decide +kernel
theorem dX5_leanLine_47 : decode cX5_leanLine 47 = .ok (.ireturn, 1) := by decide +kernel
theorem dX5_leanLine_48 : decode cX5_leanLine 48 = .ok (.aload_n 0, 1) := by decide +kernel
theorem dX5_leanLine_49 : decode cX5_leanLine 49 = .ok (.getfield 12, 3) := by decide +kernel
theorem dX5_leanLine_52 : decode cX5_leanLine 52 = .ok (.invokevirtual 79, 3) := by decide +kernel
theorem dX5_leanLine_55 : decode cX5_leanLine 55 = .ok (.aload_n 0, 1) := by decide +kernel
theorem dX5_leanLine_56 : decode cX5_leanLine 56 = .ok (.getfield 21, 3) := by decide +kernel
theorem dX5_leanLine_59 : decode cX5_leanLine 59 = .ok (.getfield 126, 3) := by decide +kernel
theorem dX5_leanLine_62 : decode cX5_leanLine 62 = .ok (.getfield 130, 3) := by decide +kernel
theorem dX5_leanLine_65 : decode cX5_leanLine 65 = .ok (.istore_n 2, 1) := by decide +kernel
theorem dX5_leanLine_66 : decode cX5_leanLine 66 = .ok (.aload_n 0, 1) := by decide +kernel
theorem dX5_leanLine_67 : decode cX5_leanLine 67 = .ok (.iload_n 1, 1) := by decide +kernel
theorem dX5_leanLine_68 : decode cX5_leanLine 68 = .ok (.invokevirtual 135, 3) := by decide +kernel
theorem dX5_leanLine_71 : decode cX5_leanLine 71 = .ok (.ifCond .ne 5, 3) := by decide +kernel
theorem dX5_leanLine_74 : decode cX5_leanLine 74 = .ok (.iconst 0, 1) := by decide +kernel
theorem dX5_leanLine_75 : decode cX5_leanLine 75 = .ok (.ireturn, 1) := by decide +kernel
theorem dX5_leanLine_76 : decode cX5_leanLine 76 = .ok (.aload_n 0, 1) := by decide +kernel
theorem dX5_leanLine_77 : decode cX5_leanLine 77 = .ok (.getfield 21, 3) := by decide +kernel
theorem dX5_leanLine_80 : decode cX5_leanLine 80 = .ok (.iload_n 1, 1) := by decide +kernel
theorem dX5_leanLine_81 : decode cX5_leanLine 81 = .ok (.iload_n 2, 1) := by decide +kernel
theorem dX5_leanLine_82 : decode cX5_leanLine 82 = .ok (.invokevirtual 138, 3) := by decide +kernel
theorem dX5_leanLine_85 : decode cX5_leanLine 85 = .ok (.iconst 1, 1) := by decide +kernel
theorem dX5_leanLine_86 : decode cX5_leanLine 86 = .ok (.ireturn, 1) := by decide +kernel
theorem dX5_pushLine_0 : decode cX5_pushLine 0 = .ok (.aload_n 0, 1) := by decide +kernel
theorem dX5_pushLine_1 : decode cX5_pushLine 1 = .ok (.getfield 21, 3) := by decide +kernel
theorem dX5_pushLine_4 : decode cX5_pushLine 4 = .ok (.getfield 141, 3) := by decide +kernel
theorem dX5_pushLine_7 : decode cX5_pushLine 7 = .ok (.bipush 16, 2) := by decide +kernel
theorem dX5_pushLine_9 : decode cX5_pushLine 9 = .ok (.if_icmp .lt 9, 3) := by decide +kernel
theorem dX5_pushLine_12 : decode cX5_pushLine 12 = .ok (.aload_n 0, 1) := by decide +kernel
theorem dX5_pushLine_13 : decode cX5_pushLine 13 = .ok (.iconst 2, 1) := by decide +kernel
theorem dX5_pushLine_14 : decode cX5_pushLine 14 = .ok (.invokevirtual 75, 3) := by decide +kernel
theorem dX5_pushLine_17 : decode cX5_pushLine 17 = .ok (.ireturn, 1) := by decide +kernel
theorem dX5_pushLine_18 : decode cX5_pushLine 18 = .ok (.aload_n 0, 1) := by decide +kernel
theorem dX5_pushLine_19 : decode cX5_pushLine 19 = .ok (.getfield 12, 3) := by decide +kernel
theorem dX5_pushLine_22 : decode cX5_pushLine 22 = .ok (.invokevirtual 79, 3) := by decide +kernel
theorem dX5_pushLine_25 : decode cX5_pushLine 25 = .ok (.aload_n 0, 1) := by decide +kernel
theorem dX5_pushLine_26 : decode cX5_pushLine 26 = .ok (.invokevirtual 120, 3) := by decide +kernel
theorem dX5_pushLine_29 : decode cX5_pushLine 29 = .ok (.ifCond .ne 5, 3) := by decide +kernel
theorem dX5_pushLine_32 : decode cX5_pushLine 32 = .ok (.iconst 0, 1) := by decide +kernel
theorem dX5_pushLine_33 : decode cX5_pushLine 33 = .ok (.ireturn, 1) := by decide +kernel
theorem dX5_pushLine_34 : decode cX5_pushLine 34 = .ok (.aload_n 0, 1) := by decide +kernel
theorem dX5_pushLine_35 : decode cX5_pushLine 35 = .ok (.getfield 21, 3) := by decide +kernel
theorem dX5_pushLine_38 : decode cX5_pushLine 38 = .ok (.aload_n 0, 1) := by decide +kernel
theorem dX5_pushLine_39 : decode cX5_pushLine 39 = .ok (.getfield 12, 3) := by decide +kernel
theorem dX5_pushLine_42 : decode cX5_pushLine 42 = .ok (.getfield 106, 3) := by decide +kernel
theorem dX5_pushLine_45 : decode cX5_pushLine 45 = .ok (.invokevirtual 109, 3) := by decide +kernel
theorem dX5_pushLine_48 : decode cX5_pushLine 48 = .ok (.istore_n 1, 1) := by decide +kernel
theorem dX5_pushLine_49 : decode cX5_pushLine 49 = .ok (.aload_n 0, 1) := by decide +kernel
theorem dX5_pushLine_50 : decode cX5_pushLine 50 = .ok (.getfield 12, 3) := by decide +kernel
theorem dX5_pushLine_53 : decode cX5_pushLine 53 = .ok (.invokevirtual 79, 3) := by decide +kernel
theorem dX5_pushLine_56 : decode cX5_pushLine 56 = .ok (.aload_n 0, 1) := by decide +kernel
theorem dX5_pushLine_57 : decode cX5_pushLine 57 = .ok (.bipush 99, 2) := by decide +kernel
theorem dX5_pushLine_59 : decode cX5_pushLine 59 = .ok (.invokevirtual 113, 3) := by decide +kernel
theorem dX5_pushLine_62 : decode cX5_pushLine 62 = .ok (.ifCond .ne 5, 3) := by decide +kernel
theorem dX5_pushLine_65 : decode cX5_pushLine 65 = .ok (.iconst 0, 1) := by decide +kernel
theorem dX5_pushLine_66 : decode cX5_pushLine 66 = .ok (.ireturn, 1) := by decide +kernel
theorem dX5_pushLine_67 : decode cX5_pushLine 67 = .ok (.aload_n 0, 1) := by decide +kernel
theorem dX5_pushLine_68 : decode cX5_pushLine 68 = .ok (.getfield 21, 3) := by decide +kernel
theorem dX5_pushLine_71 : decode cX5_pushLine 71 = .ok (.iload_n 1, 1) := by decide +kernel
theorem dX5_pushLine_72 : decode cX5_pushLine 72 = .ok (.aload_n 0, 1) := by decide +kernel
theorem dX5_pushLine_73 : decode cX5_pushLine 73 = .ok (.getfield 12, 3) := by decide +kernel
theorem dX5_pushLine_76 : decode cX5_pushLine 76 = .ok (.getfield 106, 3) := by decide +kernel
theorem dX5_pushLine_79 : decode cX5_pushLine 79 = .ok (.invokevirtual 144, 3) := by decide +kernel
theorem dX5_pushLine_82 : decode cX5_pushLine 82 = .ok (.aload_n 0, 1) := by decide +kernel
theorem dX5_pushLine_83 : decode cX5_pushLine 83 = .ok (.getfield 12, 3) := by decide +kernel
theorem dX5_pushLine_86 : decode cX5_pushLine 86 = .ok (.invokevirtual 79, 3) := by decide +kernel
theorem dX5_pushLine_89 : decode cX5_pushLine 89 = .ok (.iconst 1, 1) := by decide +kernel
theorem dX5_pushLine_90 : decode cX5_pushLine 90 = .ok (.ireturn, 1) := by decide +kernel
theorem dX5_oilLine_0 : decode cX5_oilLine 0 = .ok (.aload_n 0, 1) := by decide +kernel
theorem dX5_oilLine_1 : decode cX5_oilLine 1 = .ok (.getfield 21, 3) := by decide +kernel
theorem dX5_oilLine_4 : decode cX5_oilLine 4 = .ok (.getfield 147, 3) := by decide +kernel
theorem dX5_oilLine_7 : decode cX5_oilLine 7 = .ok (.iconst 4, 1) := by decide +kernel
theorem dX5_oilLine_8 : decode cX5_oilLine 8 = .ok (.if_icmp .lt 9, 3) := by decide +kernel
theorem dX5_oilLine_11 : decode cX5_oilLine 11 = .ok (.aload_n 0, 1) := by decide +kernel
theorem dX5_oilLine_12 : decode cX5_oilLine 12 = .ok (.iconst 2, 1) := by decide +kernel
theorem dX5_oilLine_13 : decode cX5_oilLine 13 = .ok (.invokevirtual 75, 3) := by decide +kernel
theorem dX5_oilLine_16 : decode cX5_oilLine 16 = .ok (.ireturn, 1) := by decide +kernel
theorem dX5_oilLine_17 : decode cX5_oilLine 17 = .ok (.aload_n 0, 1) := by decide +kernel
theorem dX5_oilLine_18 : decode cX5_oilLine 18 = .ok (.getfield 12, 3) := by decide +kernel
theorem dX5_oilLine_21 : decode cX5_oilLine 21 = .ok (.invokevirtual 79, 3) := by decide +kernel
theorem dX5_oilLine_24 : decode cX5_oilLine 24 = .ok (.aload_n 0, 1) := by decide +kernel
theorem dX5_oilLine_25 : decode cX5_oilLine 25 = .ok (.bipush 99, 2) := by decide +kernel
theorem dX5_oilLine_27 : decode cX5_oilLine 27 = .ok (.invokevirtual 113, 3) := by decide +kernel
theorem dX5_oilLine_30 : decode cX5_oilLine 30 = .ok (.ifCond .ne 5, 3) := by decide +kernel
theorem dX5_oilLine_33 : decode cX5_oilLine 33 = .ok (.iconst 0, 1) := by decide +kernel
theorem dX5_oilLine_34 : decode cX5_oilLine 34 = .ok (.ireturn, 1) := by decide +kernel
theorem dX5_oilLine_35 : decode cX5_oilLine 35 = .ok (.aload_n 0, 1) := by decide +kernel
theorem dX5_oilLine_36 : decode cX5_oilLine 36 = .ok (.getfield 21, 3) := by decide +kernel
theorem dX5_oilLine_39 : decode cX5_oilLine 39 = .ok (.aload_n 0, 1) := by decide +kernel
theorem dX5_oilLine_40 : decode cX5_oilLine 40 = .ok (.getfield 12, 3) := by decide +kernel
theorem dX5_oilLine_43 : decode cX5_oilLine 43 = .ok (.getfield 106, 3) := by decide +kernel
theorem dX5_oilLine_46 : decode cX5_oilLine 46 = .ok (.invokevirtual 150, 3) := by decide +kernel
theorem dX5_oilLine_49 : decode cX5_oilLine 49 = .ok (.aload_n 0, 1) := by decide +kernel
theorem dX5_oilLine_50 : decode cX5_oilLine 50 = .ok (.getfield 12, 3) := by decide +kernel
theorem dX5_oilLine_53 : decode cX5_oilLine 53 = .ok (.invokevirtual 79, 3) := by decide +kernel
theorem dX5_oilLine_56 : decode cX5_oilLine 56 = .ok (.iconst 1, 1) := by decide +kernel
theorem dX5_oilLine_57 : decode cX5_oilLine 57 = .ok (.ireturn, 1) := by decide +kernel
theorem dX5_rustLine_0 : decode cX5_rustLine 0 = .ok (.aload_n 0, 1) := by decide +kernel
theorem dX5_rustLine_1 : decode cX5_rustLine 1 = .ok (.aload_n 0, 1) := by decide +kernel
theorem dX5_rustLine_2 : decode cX5_rustLine 2 = .ok (.getfield 42, 3) := by decide +kernel
theorem dX5_rustLine_5 : decode cX5_rustLine 5 = .ok (.bipush 100, 2) := by decide +kernel
theorem dX5_rustLine_7 : decode cX5_rustLine 7 = .ok (.invokevirtual 153, 3) := by decide +kernel
theorem dX5_rustLine_10 : decode cX5_rustLine 10 = .ok (.ifCond .ne 5, 3) := by decide +kernel
theorem dX5_rustLine_13 : decode cX5_rustLine 13 = .ok (.iconst 0, 1) := by decide +kernel
theorem dX5_rustLine_14 : decode cX5_rustLine 14 = .ok (.ireturn, 1) := by decide +kernel
theorem dX5_rustLine_15 : decode cX5_rustLine 15 = .ok (.aload_n 0, 1) := by decide +kernel
theorem dX5_rustLine_16 : decode cX5_rustLine 16 = .ok (.iconst 1, 1) := by decide +kernel
theorem dX5_rustLine_17 : decode cX5_rustLine 17 = .ok (.putfield 42, 3) := by decide +kernel
theorem dX5_rustLine_20 : decode cX5_rustLine 20 = .ok (.aload_n 0, 1) := by decide +kernel
theorem dX5_rustLine_21 : decode cX5_rustLine 21 = .ok (.getfield 21, 3) := by decide +kernel
theorem dX5_rustLine_24 : decode cX5_rustLine 24 = .ok (.aload_n 0, 1) := by decide +kernel
theorem dX5_rustLine_25 : decode cX5_rustLine 25 = .ok (.getfield 12, 3) := by decide +kernel
theorem dX5_rustLine_28 : decode cX5_rustLine 28 = .ok (.getfield 106, 3) := by decide +kernel
theorem dX5_rustLine_31 : decode cX5_rustLine 31 = .ok (.putfield 157, 3) := by decide +kernel
theorem dX5_rustLine_34 : decode cX5_rustLine 34 = .ok (.aload_n 0, 1) := by decide +kernel
theorem dX5_rustLine_35 : decode cX5_rustLine 35 = .ok (.getfield 12, 3) := by decide +kernel
theorem dX5_rustLine_38 : decode cX5_rustLine 38 = .ok (.invokevirtual 79, 3) := by decide +kernel
theorem dX5_rustLine_41 : decode cX5_rustLine 41 = .ok (.iconst 1, 1) := by decide +kernel
theorem dX5_rustLine_42 : decode cX5_rustLine 42 = .ok (.ireturn, 1) := by decide +kernel
theorem dX5_seedLine_0 : decode cX5_seedLine 0 = .ok (.aload_n 0, 1) := by decide +kernel
theorem dX5_seedLine_1 : decode cX5_seedLine 1 = .ok (.aload_n 0, 1) := by decide +kernel
theorem dX5_seedLine_2 : decode cX5_seedLine 2 = .ok (.getfield 46, 3) := by decide +kernel
theorem dX5_seedLine_5 : decode cX5_seedLine 5 = .ok (.ldc 160, 2) := by decide +kernel
theorem dX5_seedLine_7 : decode cX5_seedLine 7 = .ok (.invokevirtual 153, 3) := by decide +kernel
theorem dX5_seedLine_10 : decode cX5_seedLine 10 = .ok (.ifCond .ne 5, 3) := by decide +kernel
theorem dX5_seedLine_13 : decode cX5_seedLine 13 = .ok (.iconst 0, 1) := by decide +kernel
theorem dX5_seedLine_14 : decode cX5_seedLine 14 = .ok (.ireturn, 1) := by decide +kernel
theorem dX5_seedLine_15 : decode cX5_seedLine 15 = .ok (.aload_n 0, 1) := by decide +kernel
theorem dX5_seedLine_16 : decode cX5_seedLine 16 = .ok (.iconst 1, 1) := by decide +kernel
theorem dX5_seedLine_17 : decode cX5_seedLine 17 = .ok (.putfield 46, 3) := by decide +kernel
theorem dX5_seedLine_20 : decode cX5_seedLine 20 = .ok (.aload_n 0, 1) := by decide +kernel
theorem dX5_seedLine_21 : decode cX5_seedLine 21 = .ok (.getfield 21, 3) := by decide +kernel
theorem dX5_seedLine_24 : decode cX5_seedLine 24 = .ok (.aload_n 0, 1) := by decide +kernel
theorem dX5_seedLine_25 : decode cX5_seedLine 25 = .ok (.getfield 12, 3) := by decide +kernel
theorem dX5_seedLine_28 : decode cX5_seedLine 28 = .ok (.getfield 106, 3) := by decide +kernel
theorem dX5_seedLine_31 : decode cX5_seedLine 31 = .ok (.putfield 161, 3) := by decide +kernel
theorem dX5_seedLine_34 : decode cX5_seedLine 34 = .ok (.aload_n 0, 1) := by decide +kernel
theorem dX5_seedLine_35 : decode cX5_seedLine 35 = .ok (.getfield 12, 3) := by decide +kernel
theorem dX5_seedLine_38 : decode cX5_seedLine 38 = .ok (.invokevirtual 79, 3) := by decide +kernel
theorem dX5_seedLine_41 : decode cX5_seedLine 41 = .ok (.iconst 1, 1) := by decide +kernel
theorem dX5_seedLine_42 : decode cX5_seedLine 42 = .ok (.ireturn, 1) := by decide +kernel
theorem dX5_once_0 : decode cX5_once 0 = .ok (.iload_n 1, 1) := by decide +kernel
theorem dX5_once_1 : decode cX5_once 1 = .ok (.ifCond .eq 9, 3) := by decide +kernel
theorem dX5_once_4 : decode cX5_once 4 = .ok (.aload_n 0, 1) := by decide +kernel
theorem dX5_once_5 : decode cX5_once 5 = .ok (.iconst 3, 1) := by decide +kernel
theorem dX5_once_6 : decode cX5_once 6 = .ok (.invokevirtual 75, 3) := by decide +kernel
theorem dX5_once_9 : decode cX5_once 9 = .ok (.ireturn, 1) := by decide +kernel
theorem dX5_once_10 : decode cX5_once 10 = .ok (.aload_n 0, 1) := by decide +kernel
theorem dX5_once_11 : decode cX5_once 11 = .ok (.getfield 12, 3) := by decide +kernel
theorem dX5_once_14 : decode cX5_once 14 = .ok (.invokevirtual 79, 3) := by decide +kernel
theorem dX5_once_17 : decode cX5_once 17 = .ok (.aload_n 0, 1) := by decide +kernel
theorem dX5_once_18 : decode cX5_once 18 = .ok (.iload_n 2, 1) := by decide +kernel
theorem dX5_once_19 : decode cX5_once 19 = .ok (.invokevirtual 113, 3) := by decide +kernel
theorem dX5_once_22 : decode cX5_once 22 = .ok (.ireturn, 1) := by decide +kernel
theorem dX5_lawLine_0 : decode cX5_lawLine 0 = .ok (.aload_n 0, 1) := by decide +kernel
theorem dX5_lawLine_1 : decode cX5_lawLine 1 = .ok (.getfield 12, 3) := by decide +kernel
theorem dX5_lawLine_4 : decode cX5_lawLine 4 = .ok (.invokevirtual 79, 3) := by decide +kernel
theorem dX5_lawLine_7 : decode cX5_lawLine 7 = .ok (.aload_n 0, 1) := by decide +kernel
theorem dX5_lawLine_8 : decode cX5_lawLine 8 = .ok (.getfield 12, 3) := by decide +kernel
theorem dX5_lawLine_11 : decode cX5_lawLine 11 = .ok (.getfield 56, 3) := by decide +kernel
theorem dX5_lawLine_14 : decode cX5_lawLine 14 = .ok (.bipush 7, 2) := by decide +kernel
theorem dX5_lawLine_16 : decode cX5_lawLine 16 = .ok (.isub, 1) := by decide +kernel
theorem dX5_lawLine_17 : decode cX5_lawLine 17 = .ok (.istore_n 1, 1) := by decide +kernel
theorem dX5_lawLine_18 : decode cX5_lawLine 18 = .ok (.aload_n 0, 1) := by decide +kernel
theorem dX5_lawLine_19 : decode cX5_lawLine 19 = .ok (.getfield 12, 3) := by decide +kernel
theorem dX5_lawLine_22 : decode cX5_lawLine 22 = .ok (.getfield 56, 3) := by decide +kernel
theorem dX5_lawLine_25 : decode cX5_lawLine 25 = .ok (.bipush 7, 2) := by decide +kernel
theorem dX5_lawLine_27 : decode cX5_lawLine 27 = .ok (.if_icmp .lt 15, 3) := by decide +kernel
theorem dX5_lawLine_30 : decode cX5_lawLine 30 = .ok (.aload_n 0, 1) := by decide +kernel
theorem dX5_lawLine_31 : decode cX5_lawLine 31 = .ok (.getfield 12, 3) := by decide +kernel
theorem dX5_lawLine_34 : decode cX5_lawLine 34 = .ok (.getfield 56, 3) := by decide +kernel
theorem dX5_lawLine_37 : decode cX5_lawLine 37 = .ok (.bipush 9, 2) := by decide +kernel
theorem dX5_lawLine_39 : decode cX5_lawLine 39 = .ok (.if_icmp .le 9, 3) := by decide +kernel
theorem dX5_lawLine_42 : decode cX5_lawLine 42 = .ok (.aload_n 0, 1) := by decide +kernel
theorem dX5_lawLine_43 : decode cX5_lawLine 43 = .ok (.iconst 1, 1) := by decide +kernel
theorem dX5_lawLine_44 : decode cX5_lawLine 44 = .ok (.invokevirtual 75, 3) := by decide +kernel
theorem dX5_lawLine_47 : decode cX5_lawLine 47 = .ok (.ireturn, 1) := by decide +kernel
theorem dX5_lawLine_48 : decode cX5_lawLine 48 = .ok (.aload_n 0, 1) := by decide +kernel
theorem dX5_lawLine_49 : decode cX5_lawLine 49 = .ok (.getfield 21, 3) := by decide +kernel
theorem dX5_lawLine_52 : decode cX5_lawLine 52 = .ok (.iload_n 1, 1) := by decide +kernel
theorem dX5_lawLine_53 : decode cX5_lawLine 53 = .ok (.invokevirtual 164, 3) := by decide +kernel
theorem dX5_lawLine_56 : decode cX5_lawLine 56 = .ok (.ifCond .eq 9, 3) := by decide +kernel
theorem dX5_lawLine_59 : decode cX5_lawLine 59 = .ok (.aload_n 0, 1) := by decide +kernel
theorem dX5_lawLine_60 : decode cX5_lawLine 60 = .ok (.iconst 3, 1) := by decide +kernel
theorem dX5_lawLine_61 : decode cX5_lawLine 61 = .ok (.invokevirtual 75, 3) := by decide +kernel
theorem dX5_lawLine_64 : decode cX5_lawLine 64 = .ok (.ireturn, 1) := by decide +kernel
theorem dX5_lawLine_65 : decode cX5_lawLine 65 = .ok (.aload_n 0, 1) := by decide +kernel
theorem dX5_lawLine_66 : decode cX5_lawLine 66 = .ok (.getfield 12, 3) := by decide +kernel
theorem dX5_lawLine_69 : decode cX5_lawLine 69 = .ok (.invokevirtual 79, 3) := by decide +kernel
theorem dX5_lawLine_72 : decode cX5_lawLine 72 = .ok (.aload_n 0, 1) := by decide +kernel
theorem dX5_lawLine_73 : decode cX5_lawLine 73 = .ok (.getfield 21, 3) := by decide +kernel
theorem dX5_lawLine_76 : decode cX5_lawLine 76 = .ok (.getfield 126, 3) := by decide +kernel
theorem dX5_lawLine_79 : decode cX5_lawLine 79 = .ok (.getfield 130, 3) := by decide +kernel
theorem dX5_lawLine_82 : decode cX5_lawLine 82 = .ok (.istore_n 2, 1) := by decide +kernel
theorem dX5_lawLine_83 : decode cX5_lawLine 83 = .ok (.aload_n 0, 1) := by decide +kernel
theorem dX5_lawLine_84 : decode cX5_lawLine 84 = .ok (.iconst (-1), 1) := by decide +kernel
theorem dX5_lawLine_85 : decode cX5_lawLine 85 = .ok (.invokevirtual 135, 3) := by decide +kernel
theorem dX5_lawLine_88 : decode cX5_lawLine 88 = .ok (.ifCond .ne 5, 3) := by decide +kernel
theorem dX5_lawLine_91 : decode cX5_lawLine 91 = .ok (.iconst 0, 1) := by decide +kernel
theorem dX5_lawLine_92 : decode cX5_lawLine 92 = .ok (.ireturn, 1) := by decide +kernel
theorem dX5_lawLine_93 : decode cX5_lawLine 93 = .ok (.aload_n 0, 1) := by decide +kernel
theorem dX5_lawLine_94 : decode cX5_lawLine 94 = .ok (.getfield 21, 3) := by decide +kernel
theorem dX5_lawLine_97 : decode cX5_lawLine 97 = .ok (.iload_n 1, 1) := by decide +kernel
theorem dX5_lawLine_98 : decode cX5_lawLine 98 = .ok (.iload_n 2, 1) := by decide +kernel
theorem dX5_lawLine_99 : decode cX5_lawLine 99 = .ok (.invokevirtual 167, 3) := by decide +kernel
theorem dX5_lawLine_102 : decode cX5_lawLine 102 = .ok (.iconst 1, 1) := by decide +kernel
theorem dX5_lawLine_103 : decode cX5_lawLine 103 = .ok (.ireturn, 1) := by decide +kernel
theorem dX5_numberTo_0 : decode cX5_numberTo 0 = .ok (.aload_n 0, 1) := by decide +kernel
theorem dX5_numberTo_1 : decode cX5_numberTo 1 = .ok (.getfield 12, 3) := by decide +kernel
theorem dX5_numberTo_4 : decode cX5_numberTo 4 = .ok (.getfield 56, 3) := by decide +kernel
theorem dX5_numberTo_7 : decode cX5_numberTo 7 = .ok (.bipush 37, 2) := by decide +kernel
theorem dX5_numberTo_9 : decode cX5_numberTo 9 = .ok (.if_icmp .eq 9, 3) := by decide +kernel
theorem dX5_numberTo_12 : decode cX5_numberTo 12 = .ok (.aload_n 0, 1) := by decide +kernel
theorem dX5_numberTo_13 : decode cX5_numberTo 13 = .ok (.iconst 1, 1) := by decide +kernel
theorem dX5_numberTo_14 : decode cX5_numberTo 14 = .ok (.invokevirtual 75, 3) := by decide +kernel
theorem dX5_numberTo_17 : decode cX5_numberTo 17 = .ok (.ireturn, 1) := by decide +kernel
theorem dX5_numberTo_18 : decode cX5_numberTo 18 = .ok (.aload_n 0, 1) := by decide +kernel
theorem dX5_numberTo_19 : decode cX5_numberTo 19 = .ok (.getfield 12, 3) := by decide +kernel
theorem dX5_numberTo_22 : decode cX5_numberTo 22 = .ok (.getfield 106, 3) := by decide +kernel
theorem dX5_numberTo_25 : decode cX5_numberTo 25 = .ok (.iload_n 1, 1) := by decide +kernel
theorem dX5_numberTo_26 : decode cX5_numberTo 26 = .ok (.if_icmp .le 11, 3) := by decide +kernel
theorem dX5_numberTo_29 : decode cX5_numberTo 29 = .ok (.aload_n 0, 1) := by decide +kernel
theorem dX5_numberTo_30 : decode cX5_numberTo 30 = .ok (.iconst 2, 1) := by decide +kernel
theorem dX5_numberTo_31 : decode cX5_numberTo 31 = .ok (.invokevirtual 75, 3) := by decide +kernel
theorem dX5_numberTo_34 : decode cX5_numberTo 34 = .ok (.ifCond .eq 7, 3) := by decide +kernel
theorem dX5_numberTo_37 : decode cX5_numberTo 37 = .ok (.iconst 1, 1) := by decide +kernel
theorem dX5_numberTo_38 : decode cX5_numberTo 38 = .ok (.goto 4, 3) := by decide +kernel
theorem dX5_numberTo_41 : decode cX5_numberTo 41 = .ok (.iconst 0, 1) := by decide +kernel
theorem dX5_numberTo_42 : decode cX5_numberTo 42 = .ok (.ireturn, 1) := by decide +kernel
theorem dX5_toldLatch_0 : decode cX5_toldLatch 0 = .ok (.aload_n 0, 1) := by decide +kernel
theorem dX5_toldLatch_1 : decode cX5_toldLatch 1 = .ok (.getfield 12, 3) := by decide +kernel
theorem dX5_toldLatch_4 : decode cX5_toldLatch 4 = .ok (.getfield 56, 3) := by decide +kernel
theorem dX5_toldLatch_7 : decode cX5_toldLatch 7 = .ok (.bipush 38, 2) := by decide +kernel
theorem dX5_toldLatch_9 : decode cX5_toldLatch 9 = .ok (.if_icmp .eq 9, 3) := by decide +kernel
theorem dX5_toldLatch_12 : decode cX5_toldLatch 12 = .ok (.aload_n 0, 1) := by decide +kernel
theorem dX5_toldLatch_13 : decode cX5_toldLatch 13 = .ok (.iconst 1, 1) := by decide +kernel
theorem dX5_toldLatch_14 : decode cX5_toldLatch 14 = .ok (.invokevirtual 75, 3) := by decide +kernel
theorem dX5_toldLatch_17 : decode cX5_toldLatch 17 = .ok (.ireturn, 1) := by decide +kernel
theorem dX5_toldLatch_18 : decode cX5_toldLatch 18 = .ok (.aload_n 0, 1) := by decide +kernel
theorem dX5_toldLatch_19 : decode cX5_toldLatch 19 = .ok (.getfield 21, 3) := by decide +kernel
theorem dX5_toldLatch_22 : decode cX5_toldLatch 22 = .ok (.aload_n 0, 1) := by decide +kernel
theorem dX5_toldLatch_23 : decode cX5_toldLatch 23 = .ok (.getfield 12, 3) := by decide +kernel
theorem dX5_toldLatch_26 : decode cX5_toldLatch 26 = .ok (.getfield 106, 3) := by decide +kernel
theorem dX5_toldLatch_29 : decode cX5_toldLatch 29 = .ok (.invokevirtual 109, 3) := by decide +kernel
theorem dX5_toldLatch_32 : decode cX5_toldLatch 32 = .ok (.iconst (-1), 1) := by decide +kernel
theorem dX5_toldLatch_33 : decode cX5_toldLatch 33 = .ok (.if_icmp .ne 11, 3) := by decide +kernel
theorem dX5_toldLatch_36 : decode cX5_toldLatch 36 = .ok (.aload_n 0, 1) := by decide +kernel
theorem dX5_toldLatch_37 : decode cX5_toldLatch 37 = .ok (.iconst 4, 1) := by decide +kernel
theorem dX5_toldLatch_38 : decode cX5_toldLatch 38 = .ok (.invokevirtual 75, 3) := by decide +kernel
theorem dX5_toldLatch_41 : decode cX5_toldLatch 41 = .ok (.ifCond .eq 7, 3) := by decide +kernel
theorem dX5_toldLatch_44 : decode cX5_toldLatch 44 = .ok (.iconst 1, 1) := by decide +kernel
theorem dX5_toldLatch_45 : decode cX5_toldLatch 45 = .ok (.goto 4, 3) := by decide +kernel
theorem dX5_toldLatch_48 : decode cX5_toldLatch 48 = .ok (.iconst 0, 1) := by decide +kernel
theorem dX5_toldLatch_49 : decode cX5_toldLatch 49 = .ok (.ireturn, 1) := by decide +kernel
theorem dX5_formula_0 : decode cX5_formula 0 = .ok (.aload_n 0, 1) := by decide +kernel
theorem dX5_formula_1 : decode cX5_formula 1 = .ok (.iconst 0, 1) := by decide +kernel
theorem dX5_formula_2 : decode cX5_formula 2 = .ok (.putfield 170, 3) := by decide +kernel
theorem dX5_formula_5 : decode cX5_formula 5 = .ok (.aload_n 0, 1) := by decide +kernel
theorem dX5_formula_6 : decode cX5_formula 6 = .ok (.iconst 0, 1) := by decide +kernel
theorem dX5_formula_7 : decode cX5_formula 7 = .ok (.putfield 173, 3) := by decide +kernel
theorem dX5_formula_10 : decode cX5_formula 10 = .ok (.aload_n 0, 1) := by decide +kernel
theorem dX5_formula_11 : decode cX5_formula 11 = .ok (.iconst (-1), 1) := by decide +kernel
theorem dX5_formula_12 : decode cX5_formula 12 = .ok (.putfield 29, 3) := by decide +kernel
theorem dX5_formula_15 : decode cX5_formula 15 = .ok (.iconst 1, 1) := by decide +kernel
theorem dX5_formula_16 : decode cX5_formula 16 = .ok (.istore_n 2, 1) := by decide +kernel
theorem dX5_formula_17 : decode cX5_formula 17 = .ok (.iconst 0, 1) := by decide +kernel
theorem dX5_formula_18 : decode cX5_formula 18 = .ok (.istore_n 3, 1) := by decide +kernel
theorem dX5_formula_19 : decode cX5_formula 19 = .ok (.iload_n 3, 1) := by decide +kernel
theorem dX5_formula_20 : decode cX5_formula 20 = .ok (.sipush 700, 3) := by decide +kernel
theorem dX5_formula_23 : decode cX5_formula 23 = .ok (.if_icmp .gt 202, 3) := by decide +kernel
theorem dX5_formula_26 : decode cX5_formula 26 = .ok (.aload_n 0, 1) := by decide +kernel
theorem dX5_formula_27 : decode cX5_formula 27 = .ok (.getfield 29, 3) := by decide +kernel
theorem dX5_formula_30 : decode cX5_formula 30 = .ok (.iconst (-1), 1) := by decide +kernel
theorem dX5_formula_31 : decode cX5_formula 31 = .ok (.if_icmp .eq 13, 3) := by decide +kernel
theorem dX5_formula_34 : decode cX5_formula 34 = .ok (.aload_n 0, 1) := by decide +kernel
theorem dX5_formula_35 : decode cX5_formula 35 = .ok (.iload_n 1, 1) := by decide +kernel
theorem dX5_formula_36 : decode cX5_formula 36 = .ok (.invokevirtual 176, 3) := by decide +kernel
theorem dX5_formula_39 : decode cX5_formula 39 = .ok (.ifCond .ne 173, 3) := by decide +kernel
theorem dX5_formula_42 : decode cX5_formula 42 = .ok (.iconst 0, 1) := by decide +kernel
theorem dX5_formula_43 : decode cX5_formula 43 = .ok (.ireturn, 1) := by decide +kernel
theorem dX5_formula_44 : decode cX5_formula 44 = .ok (.iload_n 2, 1) := by decide +kernel
theorem dX5_formula_45 : decode cX5_formula 45 = .ok (.ifCond .ne 29, 3) := by decide +kernel
theorem dX5_formula_48 : decode cX5_formula 48 = .ok (.aload_n 0, 1) := by decide +kernel
theorem dX5_formula_49 : decode cX5_formula 49 = .ok (.getfield 12, 3) := by decide +kernel
theorem dX5_formula_52 : decode cX5_formula 52 = .ok (.getfield 56, 3) := by decide +kernel
theorem dX5_formula_55 : decode cX5_formula 55 = .ok (.bipush 24, 2) := by decide +kernel
theorem dX5_formula_57 : decode cX5_formula 57 = .ok (.if_icmp .ne 17, 3) := by decide +kernel
theorem dX5_formula_60 : decode cX5_formula 60 = .ok (.aload_n 0, 1) := by decide +kernel
theorem dX5_formula_61 : decode cX5_formula 61 = .ok (.getfield 173, 3) := by decide +kernel
theorem dX5_formula_64 : decode cX5_formula 64 = .ok (.ifCond .ne 10, 3) := by decide +kernel
theorem dX5_formula_67 : decode cX5_formula 67 = .ok (.aload_n 0, 1) := by decide +kernel
theorem dX5_formula_68 : decode cX5_formula 68 = .ok (.iconst 1, 1) := by decide +kernel
theorem dX5_formula_69 : decode cX5_formula 69 = .ok (.invokevirtual 179, 3) := by decide +kernel
theorem dX5_formula_72 : decode cX5_formula 72 = .ok (.iconst 1, 1) := by decide +kernel
theorem dX5_formula_73 : decode cX5_formula 73 = .ok (.ireturn, 1) := by decide +kernel
theorem dX5_formula_74 : decode cX5_formula 74 = .ok (.iload_n 2, 1) := by decide +kernel
theorem dX5_formula_75 : decode cX5_formula 75 = .ok (.ifCond .ne 50, 3) := by decide +kernel
theorem dX5_formula_78 : decode cX5_formula 78 = .ok (.aload_n 0, 1) := by decide +kernel
theorem dX5_formula_79 : decode cX5_formula 79 = .ok (.getfield 12, 3) := by decide +kernel
theorem dX5_formula_82 : decode cX5_formula 82 = .ok (.getfield 56, 3) := by decide +kernel
theorem dX5_formula_85 : decode cX5_formula 85 = .ok (.bipush 26, 2) := by decide +kernel
theorem dX5_formula_87 : decode cX5_formula 87 = .ok (.if_icmp .ne 38, 3) := by decide +kernel
theorem dX5_formula_90 : decode cX5_formula 90 = .ok (.aload_n 0, 1) := by decide +kernel
theorem dX5_formula_91 : decode cX5_formula 91 = .ok (.getfield 173, 3) := by decide +kernel
theorem dX5_formula_94 : decode cX5_formula 94 = .ok (.ifCond .le 31, 3) := by decide +kernel
theorem dX5_formula_97 : decode cX5_formula 97 = .ok (.aload_n 0, 1) := by decide +kernel
theorem dX5_formula_98 : decode cX5_formula 98 = .ok (.iconst 1, 1) := by decide +kernel
theorem dX5_formula_99 : decode cX5_formula 99 = .ok (.invokevirtual 179, 3) := by decide +kernel
theorem dX5_formula_102 : decode cX5_formula 102 = .ok (.aload_n 0, 1) := by decide +kernel
theorem dX5_formula_103 : decode cX5_formula 103 = .ok (.dup, 1) := by decide +kernel
theorem dX5_formula_104 : decode cX5_formula 104 = .ok (.getfield 170, 3) := by decide +kernel
theorem dX5_formula_107 : decode cX5_formula 107 = .ok (.iconst 1, 1) := by decide +kernel
theorem dX5_formula_108 : decode cX5_formula 108 = .ok (.isub, 1) := by decide +kernel
theorem dX5_formula_109 : decode cX5_formula 109 = .ok (.putfield 170, 3) := by decide +kernel
theorem dX5_formula_112 : decode cX5_formula 112 = .ok (.aload_n 0, 1) := by decide +kernel
theorem dX5_formula_113 : decode cX5_formula 113 = .ok (.dup, 1) := by decide +kernel
theorem dX5_formula_114 : decode cX5_formula 114 = .ok (.getfield 173, 3) := by decide +kernel
theorem dX5_formula_117 : decode cX5_formula 117 = .ok (.iconst 1, 1) := by decide +kernel
theorem dX5_formula_118 : decode cX5_formula 118 = .ok (.isub, 1) := by decide +kernel
theorem dX5_formula_119 : decode cX5_formula 119 = .ok (.putfield 173, 3) := by decide +kernel
theorem dX5_formula_122 : decode cX5_formula 122 = .ok (.goto 90, 3) := by decide +kernel
theorem dX5_formula_125 : decode cX5_formula 125 = .ok (.iload_n 2, 1) := by decide +kernel
theorem dX5_formula_126 : decode cX5_formula 126 = .ok (.ifCond .ne 27, 3) := by decide +kernel
theorem dX5_formula_129 : decode cX5_formula 129 = .ok (.aload_n 0, 1) := by decide +kernel
theorem dX5_formula_130 : decode cX5_formula 130 = .ok (.iload_n 1, 1) := by decide +kernel
theorem dX5_formula_131 : decode cX5_formula 131 = .ok (.iconst (-1), 1) := by decide +kernel
theorem dX5_formula_132 : decode cX5_formula 132 = .ok (.if_icmp .ne 7, 3) := by decide +kernel
theorem dX5_formula_135 : decode cX5_formula 135 = .ok (.iconst 1, 1) := by decide +kernel
theorem dX5_formula_136 : decode cX5_formula 136 = .ok (.goto 4, 3) := by decide +kernel
theorem dX5_formula_139 : decode cX5_formula 139 = .ok (.iconst 0, 1) := by decide +kernel
theorem dX5_formula_140 : decode cX5_formula 140 = .ok (.invokevirtual 182, 3) := by decide +kernel
theorem dX5_formula_143 : decode cX5_formula 143 = .ok (.ifCond .ne 5, 3) := by decide +kernel
theorem dX5_formula_146 : decode cX5_formula 146 = .ok (.iconst 0, 1) := by decide +kernel
theorem dX5_formula_147 : decode cX5_formula 147 = .ok (.ireturn, 1) := by decide +kernel
theorem dX5_formula_148 : decode cX5_formula 148 = .ok (.iconst 1, 1) := by decide +kernel
theorem dX5_formula_149 : decode cX5_formula 149 = .ok (.istore_n 2, 1) := by decide +kernel
theorem dX5_formula_150 : decode cX5_formula 150 = .ok (.goto 62, 3) := by decide +kernel
theorem dX5_formula_153 : decode cX5_formula 153 = .ok (.aload_n 0, 1) := by decide +kernel
theorem dX5_formula_154 : decode cX5_formula 154 = .ok (.getfield 12, 3) := by decide +kernel
theorem dX5_formula_157 : decode cX5_formula 157 = .ok (.getfield 56, 3) := by decide +kernel
theorem dX5_formula_160 : decode cX5_formula 160 = .ok (.bipush 25, 2) := by decide +kernel
theorem dX5_formula_162 : decode cX5_formula 162 = .ok (.if_icmp .eq 15, 3) := by decide +kernel
theorem dX5_formula_165 : decode cX5_formula 165 = .ok (.aload_n 0, 1) := by decide +kernel
theorem dX5_formula_166 : decode cX5_formula 166 = .ok (.getfield 12, 3) := by decide +kernel
theorem dX5_formula_169 : decode cX5_formula 169 = .ok (.getfield 56, 3) := by decide +kernel
theorem dX5_formula_172 : decode cX5_formula 172 = .ok (.bipush 12, 2) := by decide +kernel
theorem dX5_formula_174 : decode cX5_formula 174 = .ok (.if_icmp .ne 12, 3) := by decide +kernel
theorem dX5_formula_177 : decode cX5_formula 177 = .ok (.aload_n 0, 1) := by decide +kernel
theorem dX5_formula_178 : decode cX5_formula 178 = .ok (.invokevirtual 186, 3) := by decide +kernel
theorem dX5_formula_181 : decode cX5_formula 181 = .ok (.ifCond .ne 31, 3) := by decide +kernel
theorem dX5_formula_184 : decode cX5_formula 184 = .ok (.iconst 0, 1) := by decide +kernel
theorem dX5_formula_185 : decode cX5_formula 185 = .ok (.ireturn, 1) := by decide +kernel
theorem dX5_formula_186 : decode cX5_formula 186 = .ok (.iload_n 1, 1) := by decide +kernel
theorem dX5_formula_187 : decode cX5_formula 187 = .ok (.iconst (-1), 1) := by decide +kernel
theorem dX5_formula_188 : decode cX5_formula 188 = .ok (.if_icmp .ne 13, 3) := by decide +kernel
theorem dX5_formula_191 : decode cX5_formula 191 = .ok (.aload_n 0, 1) := by decide +kernel
theorem dX5_formula_192 : decode cX5_formula 192 = .ok (.invokevirtual 189, 3) := by decide +kernel
theorem dX5_formula_195 : decode cX5_formula 195 = .ok (.ifCond .ne 15, 3) := by decide +kernel
theorem dX5_formula_198 : decode cX5_formula 198 = .ok (.goto 10, 3) := by decide +kernel
theorem dX5_formula_201 : decode cX5_formula 201 = .ok (.aload_n 0, 1) := by decide +kernel
theorem dX5_formula_202 : decode cX5_formula 202 = .ok (.invokevirtual 192, 3) := by decide +kernel
theorem dX5_formula_205 : decode cX5_formula 205 = .ok (.ifCond .ne 5, 3) := by decide +kernel
theorem dX5_formula_208 : decode cX5_formula 208 = .ok (.iconst 0, 1) := by decide +kernel
theorem dX5_formula_209 : decode cX5_formula 209 = .ok (.ireturn, 1) := by decide +kernel
theorem dX5_formula_210 : decode cX5_formula 210 = .ok (.iconst 0, 1) := by decide +kernel
theorem dX5_formula_211 : decode cX5_formula 211 = .ok (.istore_n 2, 1) := by decide +kernel
theorem dX5_formula_212 : decode cX5_formula 212 = .ok (.aload_n 0, 1) := by decide +kernel
theorem dX5_formula_213 : decode cX5_formula 213 = .ok (.getfield 12, 3) := by decide +kernel
theorem dX5_formula_216 : decode cX5_formula 216 = .ok (.invokevirtual 79, 3) := by decide +kernel
theorem dX5_formula_219 : decode cX5_formula 219 = .ok (.iinc 3 1, 3) := by decide +kernel
theorem dX5_formula_222 : decode cX5_formula 222 = .ok (.goto (-203), 3) := by decide +kernel
theorem dX5_formula_225 : decode cX5_formula 225 = .ok (.aload_n 0, 1) := by decide +kernel
theorem dX5_formula_226 : decode cX5_formula 226 = .ok (.iconst 1, 1) := by decide +kernel
theorem dX5_formula_227 : decode cX5_formula 227 = .ok (.invokevirtual 75, 3) := by decide +kernel
theorem dX5_formula_230 : decode cX5_formula 230 = .ok (.ireturn, 1) := by decide +kernel
theorem dX5_prefix_0 : decode cX5_prefix 0 = .ok (.aload_n 0, 1) := by decide +kernel
theorem dX5_prefix_1 : decode cX5_prefix 1 = .ok (.getfield 12, 3) := by decide +kernel
theorem dX5_prefix_4 : decode cX5_prefix 4 = .ok (.getfield 56, 3) := by decide +kernel
theorem dX5_prefix_7 : decode cX5_prefix 7 = .ok (.bipush 25, 2) := by decide +kernel
theorem dX5_prefix_9 : decode cX5_prefix 9 = .ok (.if_icmp .ne 36, 3) := by decide +kernel
theorem dX5_prefix_12 : decode cX5_prefix 12 = .ok (.aload_n 0, 1) := by decide +kernel
theorem dX5_prefix_13 : decode cX5_prefix 13 = .ok (.getfield 173, 3) := by decide +kernel
theorem dX5_prefix_16 : decode cX5_prefix 16 = .ok (.bipush 8, 2) := by decide +kernel
theorem dX5_prefix_18 : decode cX5_prefix 18 = .ok (.if_icmp .lt 9, 3) := by decide +kernel
theorem dX5_prefix_21 : decode cX5_prefix 21 = .ok (.aload_n 0, 1) := by decide +kernel
theorem dX5_prefix_22 : decode cX5_prefix 22 = .ok (.iconst 2, 1) := by decide +kernel
theorem dX5_prefix_23 : decode cX5_prefix 23 = .ok (.invokevirtual 75, 3) := by decide +kernel
theorem dX5_prefix_26 : decode cX5_prefix 26 = .ok (.ireturn, 1) := by decide +kernel
theorem dX5_prefix_27 : decode cX5_prefix 27 = .ok (.aload_n 0, 1) := by decide +kernel
theorem dX5_prefix_28 : decode cX5_prefix 28 = .ok (.dup, 1) := by decide +kernel
theorem dX5_prefix_29 : decode cX5_prefix 29 = .ok (.getfield 173, 3) := by decide +kernel
theorem dX5_prefix_32 : decode cX5_prefix 32 = .ok (.iconst 1, 1) := by decide +kernel
theorem dX5_prefix_33 : decode cX5_prefix 33 = .ok (.iadd, 1) := by decide +kernel
theorem dX5_prefix_34 : decode cX5_prefix 34 = .ok (.putfield 173, 3) := by decide +kernel
theorem dX5_prefix_37 : decode cX5_prefix 37 = .ok (.aload_n 0, 1) := by decide +kernel
theorem dX5_prefix_38 : decode cX5_prefix 38 = .ok (.bipush 25, 2) := by decide +kernel
theorem dX5_prefix_40 : decode cX5_prefix 40 = .ok (.invokevirtual 195, 3) := by decide +kernel
theorem dX5_prefix_43 : decode cX5_prefix 43 = .ok (.iconst 1, 1) := by decide +kernel
theorem dX5_prefix_44 : decode cX5_prefix 44 = .ok (.ireturn, 1) := by decide +kernel
theorem dX5_prefix_45 : decode cX5_prefix 45 = .ok (.aload_n 0, 1) := by decide +kernel
theorem dX5_prefix_46 : decode cX5_prefix 46 = .ok (.getfield 170, 3) := by decide +kernel
theorem dX5_prefix_49 : decode cX5_prefix 49 = .ok (.ifCond .le 27, 3) := by decide +kernel
theorem dX5_prefix_52 : decode cX5_prefix 52 = .ok (.aload_n 0, 1) := by decide +kernel
theorem dX5_prefix_53 : decode cX5_prefix 53 = .ok (.getfield 25, 3) := by decide +kernel
theorem dX5_prefix_56 : decode cX5_prefix 56 = .ok (.aload_n 0, 1) := by decide +kernel
theorem dX5_prefix_57 : decode cX5_prefix 57 = .ok (.getfield 170, 3) := by decide +kernel
theorem dX5_prefix_60 : decode cX5_prefix 60 = .ok (.iconst 1, 1) := by decide +kernel
theorem dX5_prefix_61 : decode cX5_prefix 61 = .ok (.isub, 1) := by decide +kernel
theorem dX5_prefix_62 : decode cX5_prefix 62 = .ok (.iaload, 1) := by decide +kernel
theorem dX5_prefix_63 : decode cX5_prefix 63 = .ok (.invokestatic 198, 3) := by decide +kernel
theorem dX5_prefix_66 : decode cX5_prefix 66 = .ok (.iconst 3, 1) := by decide +kernel
theorem dX5_prefix_67 : decode cX5_prefix 67 = .ok (.if_icmp .le 9, 3) := by decide +kernel
theorem dX5_prefix_70 : decode cX5_prefix 70 = .ok (.aload_n 0, 1) := by decide +kernel
theorem dX5_prefix_71 : decode cX5_prefix 71 = .ok (.iconst 1, 1) := by decide +kernel
theorem dX5_prefix_72 : decode cX5_prefix 72 = .ok (.invokevirtual 75, 3) := by decide +kernel
theorem dX5_prefix_75 : decode cX5_prefix 75 = .ok (.ireturn, 1) := by decide +kernel
theorem dX5_prefix_76 : decode cX5_prefix 76 = .ok (.aload_n 0, 1) := by decide +kernel
theorem dX5_prefix_77 : decode cX5_prefix 77 = .ok (.invokevirtual 201, 3) := by decide +kernel
theorem dX5_prefix_80 : decode cX5_prefix 80 = .ok (.ifCond .ne 5, 3) := by decide +kernel
theorem dX5_prefix_83 : decode cX5_prefix 83 = .ok (.iconst 0, 1) := by decide +kernel
theorem dX5_prefix_84 : decode cX5_prefix 84 = .ok (.ireturn, 1) := by decide +kernel
theorem dX5_prefix_85 : decode cX5_prefix 85 = .ok (.aload_n 0, 1) := by decide +kernel
theorem dX5_prefix_86 : decode cX5_prefix 86 = .ok (.bipush 12, 2) := by decide +kernel
theorem dX5_prefix_88 : decode cX5_prefix 88 = .ok (.invokevirtual 195, 3) := by decide +kernel
theorem dX5_prefix_91 : decode cX5_prefix 91 = .ok (.iconst 1, 1) := by decide +kernel
theorem dX5_prefix_92 : decode cX5_prefix 92 = .ok (.ireturn, 1) := by decide +kernel
theorem dX5_joins_0 : decode cX5_joins 0 = .ok (.aload_n 0, 1) := by decide +kernel
theorem dX5_joins_1 : decode cX5_joins 1 = .ok (.getfield 12, 3) := by decide +kernel
theorem dX5_joins_4 : decode cX5_joins 4 = .ok (.getfield 56, 3) := by decide +kernel
theorem dX5_joins_7 : decode cX5_joins 7 = .ok (.istore_n 2, 1) := by decide +kernel
theorem dX5_joins_8 : decode cX5_joins 8 = .ok (.iload_n 2, 1) := by decide +kernel
theorem dX5_joins_9 : decode cX5_joins 9 = .ok (.invokestatic 198, 3) := by decide +kernel
theorem dX5_joins_12 : decode cX5_joins 12 = .ok (.istore_n 3, 1) := by decide +kernel
theorem dX5_joins_13 : decode cX5_joins 13 = .ok (.iload_n 3, 1) := by decide +kernel
theorem dX5_joins_14 : decode cX5_joins 14 = .ok (.ifCond .eq 18, 3) := by decide +kernel
theorem dX5_joins_17 : decode cX5_joins 17 = .ok (.iload_n 2, 1) := by decide +kernel
theorem dX5_joins_18 : decode cX5_joins 18 = .ok (.bipush 12, 2) := by decide +kernel
theorem dX5_joins_20 : decode cX5_joins 20 = .ok (.if_icmp .eq 12, 3) := by decide +kernel
theorem dX5_joins_23 : decode cX5_joins 23 = .ok (.iload_n 1, 1) := by decide +kernel
theorem dX5_joins_24 : decode cX5_joins 24 = .ok (.ifCond .ne 14, 3) := by decide +kernel
theorem dX5_joins_27 : decode cX5_joins 27 = .ok (.iload_n 3, 1) := by decide +kernel
theorem dX5_joins_28 : decode cX5_joins 28 = .ok (.iconst 4, 1) := by decide +kernel
theorem dX5_joins_29 : decode cX5_joins 29 = .ok (.if_icmp .lt 9, 3) := by decide +kernel
theorem dX5_joins_32 : decode cX5_joins 32 = .ok (.aload_n 0, 1) := by decide +kernel
theorem dX5_joins_33 : decode cX5_joins 33 = .ok (.iconst 1, 1) := by decide +kernel
theorem dX5_joins_34 : decode cX5_joins 34 = .ok (.invokevirtual 75, 3) := by decide +kernel
theorem dX5_joins_37 : decode cX5_joins 37 = .ok (.ireturn, 1) := by decide +kernel
theorem dX5_joins_38 : decode cX5_joins 38 = .ok (.aload_n 0, 1) := by decide +kernel
theorem dX5_joins_39 : decode cX5_joins 39 = .ok (.iload_n 3, 1) := by decide +kernel
theorem dX5_joins_40 : decode cX5_joins 40 = .ok (.iconst 4, 1) := by decide +kernel
theorem dX5_joins_41 : decode cX5_joins 41 = .ok (.if_icmp .ne 9, 3) := by decide +kernel
theorem dX5_joins_44 : decode cX5_joins 44 = .ok (.iload_n 3, 1) := by decide +kernel
theorem dX5_joins_45 : decode cX5_joins 45 = .ok (.iconst 1, 1) := by decide +kernel
theorem dX5_joins_46 : decode cX5_joins 46 = .ok (.iadd, 1) := by decide +kernel
theorem dX5_joins_47 : decode cX5_joins 47 = .ok (.goto 4, 3) := by decide +kernel
theorem dX5_joins_50 : decode cX5_joins 50 = .ok (.iload_n 3, 1) := by decide +kernel
theorem dX5_joins_51 : decode cX5_joins 51 = .ok (.invokevirtual 179, 3) := by decide +kernel
theorem dX5_joins_54 : decode cX5_joins 54 = .ok (.iload_n 3, 1) := by decide +kernel
theorem dX5_joins_55 : decode cX5_joins 55 = .ok (.iconst 4, 1) := by decide +kernel
theorem dX5_joins_56 : decode cX5_joins 56 = .ok (.if_icmp .ne 34, 3) := by decide +kernel
theorem dX5_joins_59 : decode cX5_joins 59 = .ok (.aload_n 0, 1) := by decide +kernel
theorem dX5_joins_60 : decode cX5_joins 60 = .ok (.getfield 170, 3) := by decide +kernel
theorem dX5_joins_63 : decode cX5_joins 63 = .ok (.ifCond .le 27, 3) := by decide +kernel
theorem dX5_joins_66 : decode cX5_joins 66 = .ok (.aload_n 0, 1) := by decide +kernel
theorem dX5_joins_67 : decode cX5_joins 67 = .ok (.getfield 25, 3) := by decide +kernel
theorem dX5_joins_70 : decode cX5_joins 70 = .ok (.aload_n 0, 1) := by decide +kernel
theorem dX5_joins_71 : decode cX5_joins 71 = .ok (.getfield 170, 3) := by decide +kernel
theorem dX5_joins_74 : decode cX5_joins 74 = .ok (.iconst 1, 1) := by decide +kernel
theorem dX5_joins_75 : decode cX5_joins 75 = .ok (.isub, 1) := by decide +kernel
theorem dX5_joins_76 : decode cX5_joins 76 = .ok (.iaload, 1) := by decide +kernel
theorem dX5_joins_77 : decode cX5_joins 77 = .ok (.invokestatic 198, 3) := by decide +kernel
theorem dX5_joins_80 : decode cX5_joins 80 = .ok (.iconst 4, 1) := by decide +kernel
theorem dX5_joins_81 : decode cX5_joins 81 = .ok (.if_icmp .ne 9, 3) := by decide +kernel
theorem dX5_joins_84 : decode cX5_joins 84 = .ok (.aload_n 0, 1) := by decide +kernel
theorem dX5_joins_85 : decode cX5_joins 85 = .ok (.iconst 1, 1) := by decide +kernel
theorem dX5_joins_86 : decode cX5_joins 86 = .ok (.invokevirtual 75, 3) := by decide +kernel
theorem dX5_joins_89 : decode cX5_joins 89 = .ok (.ireturn, 1) := by decide +kernel
theorem dX5_joins_90 : decode cX5_joins 90 = .ok (.aload_n 0, 1) := by decide +kernel
theorem dX5_joins_91 : decode cX5_joins 91 = .ok (.invokevirtual 201, 3) := by decide +kernel
theorem dX5_joins_94 : decode cX5_joins 94 = .ok (.ifCond .ne 5, 3) := by decide +kernel
theorem dX5_joins_97 : decode cX5_joins 97 = .ok (.iconst 0, 1) := by decide +kernel
theorem dX5_joins_98 : decode cX5_joins 98 = .ok (.ireturn, 1) := by decide +kernel
theorem dX5_joins_99 : decode cX5_joins 99 = .ok (.aload_n 0, 1) := by decide +kernel
theorem dX5_joins_100 : decode cX5_joins 100 = .ok (.iload_n 2, 1) := by decide +kernel
theorem dX5_joins_101 : decode cX5_joins 101 = .ok (.invokevirtual 195, 3) := by decide +kernel
theorem dX5_joins_104 : decode cX5_joins 104 = .ok (.iconst 1, 1) := by decide +kernel
theorem dX5_joins_105 : decode cX5_joins 105 = .ok (.ireturn, 1) := by decide +kernel
theorem dX5_counts_0 : decode cX5_counts 0 = .ok (.aload_n 0, 1) := by decide +kernel
theorem dX5_counts_1 : decode cX5_counts 1 = .ok (.getfield 39, 3) := by decide +kernel
theorem dX5_counts_4 : decode cX5_counts 4 = .ok (.bipush 64, 2) := by decide +kernel
theorem dX5_counts_6 : decode cX5_counts 6 = .ok (.if_icmp .lt 9, 3) := by decide +kernel
theorem dX5_counts_9 : decode cX5_counts 9 = .ok (.aload_n 0, 1) := by decide +kernel
theorem dX5_counts_10 : decode cX5_counts 10 = .ok (.iconst 2, 1) := by decide +kernel
theorem dX5_counts_11 : decode cX5_counts 11 = .ok (.invokevirtual 75, 3) := by decide +kernel
theorem dX5_counts_14 : decode cX5_counts 14 = .ok (.ireturn, 1) := by decide +kernel
theorem dX5_counts_15 : decode cX5_counts 15 = .ok (.aload_n 0, 1) := by decide +kernel
theorem dX5_counts_16 : decode cX5_counts 16 = .ok (.dup, 1) := by decide +kernel
theorem dX5_counts_17 : decode cX5_counts 17 = .ok (.getfield 39, 3) := by decide +kernel
theorem dX5_counts_20 : decode cX5_counts 20 = .ok (.iconst 1, 1) := by decide +kernel
theorem dX5_counts_21 : decode cX5_counts 21 = .ok (.iadd, 1) := by decide +kernel
theorem dX5_counts_22 : decode cX5_counts 22 = .ok (.putfield 39, 3) := by decide +kernel
theorem dX5_counts_25 : decode cX5_counts 25 = .ok (.iconst 1, 1) := by decide +kernel
theorem dX5_counts_26 : decode cX5_counts 26 = .ok (.ireturn, 1) := by decide +kernel
theorem dX5_addPending_0 : decode cX5_addPending 0 = .ok (.aload_n 0, 1) := by decide +kernel
theorem dX5_addPending_1 : decode cX5_addPending 1 = .ok (.getfield 170, 3) := by decide +kernel
theorem dX5_addPending_4 : decode cX5_addPending 4 = .ok (.aload_n 0, 1) := by decide +kernel
theorem dX5_addPending_5 : decode cX5_addPending 5 = .ok (.getfield 25, 3) := by decide +kernel
theorem dX5_addPending_8 : decode cX5_addPending 8 = .ok (.arraylength, 1) := by decide +kernel
theorem dX5_addPending_9 : decode cX5_addPending 9 = .ok (.if_icmp .ge 23, 3) := by decide +kernel
theorem dX5_addPending_12 : decode cX5_addPending 12 = .ok (.aload_n 0, 1) := by decide +kernel
theorem dX5_addPending_13 : decode cX5_addPending 13 = .ok (.getfield 25, 3) := by decide +kernel
theorem dX5_addPending_16 : decode cX5_addPending 16 = .ok (.aload_n 0, 1) := by decide +kernel
theorem dX5_addPending_17 : decode cX5_addPending 17 = .ok (.getfield 170, 3) := by decide +kernel
theorem dX5_addPending_20 : decode cX5_addPending 20 = .ok (.iload_n 1, 1) := by decide +kernel
theorem dX5_addPending_21 : decode cX5_addPending 21 = .ok (.iastore, 1) := by decide +kernel
theorem dX5_addPending_22 : decode cX5_addPending 22 = .ok (.aload_n 0, 1) := by decide +kernel
theorem dX5_addPending_23 : decode cX5_addPending 23 = .ok (.dup, 1) := by decide +kernel
theorem dX5_addPending_24 : decode cX5_addPending 24 = .ok (.getfield 170, 3) := by decide +kernel
theorem dX5_addPending_27 : decode cX5_addPending 27 = .ok (.iconst 1, 1) := by decide +kernel
theorem dX5_addPending_28 : decode cX5_addPending 28 = .ok (.iadd, 1) := by decide +kernel
theorem dX5_addPending_29 : decode cX5_addPending 29 = .ok (.putfield 170, 3) := by decide +kernel
theorem dX5_addPending_32 : decode cX5_addPending 32 = .ok (.return_, 1) := by decide +kernel
theorem dX5_settlePending_0 : decode cX5_settlePending 0 = .ok (.aload_n 0, 1) := by decide +kernel
theorem dX5_settlePending_1 : decode cX5_settlePending 1 = .ok (.getfield 170, 3) := by decide +kernel
theorem dX5_settlePending_4 : decode cX5_settlePending 4 = .ok (.ifCond .le 54, 3) := by decide +kernel
theorem dX5_settlePending_7 : decode cX5_settlePending 7 = .ok (.aload_n 0, 1) := by decide +kernel
theorem dX5_settlePending_8 : decode cX5_settlePending 8 = .ok (.getfield 25, 3) := by decide +kernel
theorem dX5_settlePending_11 : decode cX5_settlePending 11 = .ok (.aload_n 0, 1) := by decide +kernel
theorem dX5_settlePending_12 : decode cX5_settlePending 12 = .ok (.getfield 170, 3) := by decide +kernel
theorem dX5_settlePending_15 : decode cX5_settlePending 15 = .ok (.iconst 1, 1) := by decide +kernel
theorem dX5_settlePending_16 : decode cX5_settlePending 16 = .ok (.isub, 1) := by decide +kernel
theorem dX5_settlePending_17 : decode cX5_settlePending 17 = .ok (.iaload, 1) := by decide +kernel
theorem dX5_settlePending_18 : decode cX5_settlePending 18 = .ok (.invokestatic 198, 3) := by decide +kernel
theorem dX5_settlePending_21 : decode cX5_settlePending 21 = .ok (.iload_n 1, 1) := by decide +kernel
theorem dX5_settlePending_22 : decode cX5_settlePending 22 = .ok (.if_icmp .lt 36, 3) := by decide +kernel
theorem dX5_settlePending_25 : decode cX5_settlePending 25 = .ok (.aload_n 0, 1) := by decide +kernel
theorem dX5_settlePending_26 : decode cX5_settlePending 26 = .ok (.dup, 1) := by decide +kernel
theorem dX5_settlePending_27 : decode cX5_settlePending 27 = .ok (.getfield 170, 3) := by decide +kernel
theorem dX5_settlePending_30 : decode cX5_settlePending 30 = .ok (.iconst 1, 1) := by decide +kernel
theorem dX5_settlePending_31 : decode cX5_settlePending 31 = .ok (.isub, 1) := by decide +kernel
theorem dX5_settlePending_32 : decode cX5_settlePending 32 = .ok (.putfield 170, 3) := by decide +kernel
theorem dX5_settlePending_35 : decode cX5_settlePending 35 = .ok (.aload_n 0, 1) := by decide +kernel
theorem dX5_settlePending_36 : decode cX5_settlePending 36 = .ok (.getfield 21, 3) := by decide +kernel
theorem dX5_settlePending_39 : decode cX5_settlePending 39 = .ok (.getfield 126, 3) := by decide +kernel
theorem dX5_settlePending_42 : decode cX5_settlePending 42 = .ok (.aload_n 0, 1) := by decide +kernel
theorem dX5_settlePending_43 : decode cX5_settlePending 43 = .ok (.getfield 25, 3) := by decide +kernel
theorem dX5_settlePending_46 : decode cX5_settlePending 46 = .ok (.aload_n 0, 1) := by decide +kernel
theorem dX5_settlePending_47 : decode cX5_settlePending 47 = .ok (.getfield 170, 3) := by decide +kernel
theorem dX5_settlePending_50 : decode cX5_settlePending 50 = .ok (.iaload, 1) := by decide +kernel
theorem dX5_settlePending_51 : decode cX5_settlePending 51 = .ok (.iconst 0, 1) := by decide +kernel
theorem dX5_settlePending_52 : decode cX5_settlePending 52 = .ok (.invokevirtual 204, 3) := by decide +kernel
theorem dX5_settlePending_55 : decode cX5_settlePending 55 = .ok (.goto (-55), 3) := by decide +kernel
theorem dX5_settlePending_58 : decode cX5_settlePending 58 = .ok (.return_, 1) := by decide +kernel
theorem dX5_lawLeaf_0 : decode cX5_lawLeaf 0 = .ok (.aload_n 0, 1) := by decide +kernel
theorem dX5_lawLeaf_1 : decode cX5_lawLeaf 1 = .ok (.getfield 12, 3) := by decide +kernel
theorem dX5_lawLeaf_4 : decode cX5_lawLeaf 4 = .ok (.getfield 56, 3) := by decide +kernel
theorem dX5_lawLeaf_7 : decode cX5_lawLeaf 7 = .ok (.bipush 37, 2) := by decide +kernel
theorem dX5_lawLeaf_9 : decode cX5_lawLeaf 9 = .ok (.if_icmp .eq 33, 3) := by decide +kernel
theorem dX5_lawLeaf_12 : decode cX5_lawLeaf 12 = .ok (.aload_n 0, 1) := by decide +kernel
theorem dX5_lawLeaf_13 : decode cX5_lawLeaf 13 = .ok (.getfield 12, 3) := by decide +kernel
theorem dX5_lawLeaf_16 : decode cX5_lawLeaf 16 = .ok (.getfield 56, 3) := by decide +kernel
theorem dX5_lawLeaf_19 : decode cX5_lawLeaf 19 = .ok (.bipush 17, 2) := by decide +kernel
theorem dX5_lawLeaf_21 : decode cX5_lawLeaf 21 = .ok (.if_icmp .lt 15, 3) := by decide +kernel
theorem dX5_lawLeaf_24 : decode cX5_lawLeaf 24 = .ok (.aload_n 0, 1) := by decide +kernel
theorem dX5_lawLeaf_25 : decode cX5_lawLeaf 25 = .ok (.getfield 12, 3) := by decide +kernel
theorem dX5_lawLeaf_28 : decode cX5_lawLeaf 28 = .ok (.getfield 56, 3) := by decide +kernel
theorem dX5_lawLeaf_31 : decode cX5_lawLeaf 31 = .ok (.bipush 23, 2) := by decide +kernel
theorem dX5_lawLeaf_33 : decode cX5_lawLeaf 33 = .ok (.if_icmp .le 9, 3) := by decide +kernel
theorem dX5_lawLeaf_36 : decode cX5_lawLeaf 36 = .ok (.aload_n 0, 1) := by decide +kernel
theorem dX5_lawLeaf_37 : decode cX5_lawLeaf 37 = .ok (.iconst 1, 1) := by decide +kernel
theorem dX5_lawLeaf_38 : decode cX5_lawLeaf 38 = .ok (.invokevirtual 75, 3) := by decide +kernel
theorem dX5_lawLeaf_41 : decode cX5_lawLeaf 41 = .ok (.ireturn, 1) := by decide +kernel
theorem dX5_lawLeaf_42 : decode cX5_lawLeaf 42 = .ok (.aload_n 0, 1) := by decide +kernel
theorem dX5_lawLeaf_43 : decode cX5_lawLeaf 43 = .ok (.invokevirtual 201, 3) := by decide +kernel
theorem dX5_lawLeaf_46 : decode cX5_lawLeaf 46 = .ok (.ifCond .eq 25, 3) := by decide +kernel
theorem dX5_lawLeaf_49 : decode cX5_lawLeaf 49 = .ok (.aload_n 0, 1) := by decide +kernel
theorem dX5_lawLeaf_50 : decode cX5_lawLeaf 50 = .ok (.getfield 12, 3) := by decide +kernel
theorem dX5_lawLeaf_53 : decode cX5_lawLeaf 53 = .ok (.getfield 56, 3) := by decide +kernel
theorem dX5_lawLeaf_56 : decode cX5_lawLeaf 56 = .ok (.bipush 37, 2) := by decide +kernel
theorem dX5_lawLeaf_58 : decode cX5_lawLeaf 58 = .ok (.if_icmp .ne 15, 3) := by decide +kernel
theorem dX5_lawLeaf_61 : decode cX5_lawLeaf 61 = .ok (.aload_n 0, 1) := by decide +kernel
theorem dX5_lawLeaf_62 : decode cX5_lawLeaf 62 = .ok (.sipush 9999, 3) := by decide +kernel
theorem dX5_lawLeaf_65 : decode cX5_lawLeaf 65 = .ok (.invokevirtual 113, 3) := by decide +kernel
theorem dX5_lawLeaf_68 : decode cX5_lawLeaf 68 = .ok (.ifCond .ne 5, 3) := by decide +kernel
theorem dX5_lawLeaf_71 : decode cX5_lawLeaf 71 = .ok (.iconst 0, 1) := by decide +kernel
theorem dX5_lawLeaf_72 : decode cX5_lawLeaf 72 = .ok (.ireturn, 1) := by decide +kernel
theorem dX5_lawLeaf_73 : decode cX5_lawLeaf 73 = .ok (.aload_n 0, 1) := by decide +kernel
theorem dX5_lawLeaf_74 : decode cX5_lawLeaf 74 = .ok (.getfield 21, 3) := by decide +kernel
theorem dX5_lawLeaf_77 : decode cX5_lawLeaf 77 = .ok (.getfield 126, 3) := by decide +kernel
theorem dX5_lawLeaf_80 : decode cX5_lawLeaf 80 = .ok (.aload_n 0, 1) := by decide +kernel
theorem dX5_lawLeaf_81 : decode cX5_lawLeaf 81 = .ok (.getfield 12, 3) := by decide +kernel
theorem dX5_lawLeaf_84 : decode cX5_lawLeaf 84 = .ok (.getfield 56, 3) := by decide +kernel
theorem dX5_lawLeaf_87 : decode cX5_lawLeaf 87 = .ok (.aload_n 0, 1) := by decide +kernel
theorem dX5_lawLeaf_88 : decode cX5_lawLeaf 88 = .ok (.getfield 12, 3) := by decide +kernel
theorem dX5_lawLeaf_91 : decode cX5_lawLeaf 91 = .ok (.getfield 106, 3) := by decide +kernel
theorem dX5_lawLeaf_94 : decode cX5_lawLeaf 94 = .ok (.invokevirtual 204, 3) := by decide +kernel
theorem dX5_lawLeaf_97 : decode cX5_lawLeaf 97 = .ok (.iconst 1, 1) := by decide +kernel
theorem dX5_lawLeaf_98 : decode cX5_lawLeaf 98 = .ok (.ireturn, 1) := by decide +kernel
theorem dX5_leanLeaf_0 : decode cX5_leanLeaf 0 = .ok (.aload_n 0, 1) := by decide +kernel
theorem dX5_leanLeaf_1 : decode cX5_leanLeaf 1 = .ok (.getfield 12, 3) := by decide +kernel
theorem dX5_leanLeaf_4 : decode cX5_leanLeaf 4 = .ok (.getfield 56, 3) := by decide +kernel
theorem dX5_leanLeaf_7 : decode cX5_leanLeaf 7 = .ok (.bipush 13, 2) := by decide +kernel
theorem dX5_leanLeaf_9 : decode cX5_leanLeaf 9 = .ok (.if_icmp .lt 15, 3) := by decide +kernel
theorem dX5_leanLeaf_12 : decode cX5_leanLeaf 12 = .ok (.aload_n 0, 1) := by decide +kernel
theorem dX5_leanLeaf_13 : decode cX5_leanLeaf 13 = .ok (.getfield 12, 3) := by decide +kernel
theorem dX5_leanLeaf_16 : decode cX5_leanLeaf 16 = .ok (.getfield 56, 3) := by decide +kernel
theorem dX5_leanLeaf_19 : decode cX5_leanLeaf 19 = .ok (.bipush 16, 2) := by decide +kernel
theorem dX5_leanLeaf_21 : decode cX5_leanLeaf 21 = .ok (.if_icmp .le 9, 3) := by decide +kernel
theorem dX5_leanLeaf_24 : decode cX5_leanLeaf 24 = .ok (.aload_n 0, 1) := by decide +kernel
theorem dX5_leanLeaf_25 : decode cX5_leanLeaf 25 = .ok (.iconst 1, 1) := by decide +kernel
theorem dX5_leanLeaf_26 : decode cX5_leanLeaf 26 = .ok (.invokevirtual 75, 3) := by decide +kernel
theorem dX5_leanLeaf_29 : decode cX5_leanLeaf 29 = .ok (.ireturn, 1) := by decide +kernel
theorem dX5_leanLeaf_30 : decode cX5_leanLeaf 30 = .ok (.aload_n 0, 1) := by decide +kernel
theorem dX5_leanLeaf_31 : decode cX5_leanLeaf 31 = .ok (.aload_n 0, 1) := by decide +kernel
