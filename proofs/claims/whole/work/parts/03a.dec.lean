theorem dX0_init_0 : decode cX0_init 0 = .ok (.aload_n 0, 1) := by decide +kernel
theorem dX0_init_1 : decode cX0_init 1 = .ok (.invokespecial 3, 3) := by decide +kernel
theorem dX0_init_4 : decode cX0_init 4 = .ok (.aload_n 0, 1) := by decide +kernel
theorem dX0_init_5 : decode cX0_init 5 = .ok (.new 9, 3) := by decide +kernel
theorem dX0_init_8 : decode cX0_init 8 = .ok (.dup, 1) := by decide +kernel
theorem dX0_init_9 : decode cX0_init 9 = .ok (.invokespecial 11, 3) := by decide +kernel
theorem dX0_init_12 : decode cX0_init 12 = .ok (.putfield 12, 3) := by decide +kernel
theorem dX0_init_15 : decode cX0_init 15 = .ok (.aload_n 0, 1) := by decide +kernel
theorem dX0_init_16 : decode cX0_init 16 = .ok (.iconst (-1), 1) := by decide +kernel
theorem dX0_init_17 : decode cX0_init 17 = .ok (.putfield 18, 3) := by decide +kernel
theorem dX0_init_20 : decode cX0_init 20 = .ok (.aload_n 0, 1) := by decide +kernel
theorem dX0_init_21 : decode cX0_init 21 = .ok (.iconst (-1), 1) := by decide +kernel
theorem dX0_init_22 : decode cX0_init 22 = .ok (.putfield 22, 3) := by decide +kernel
theorem dX0_init_25 : decode cX0_init 25 = .ok (.return_, 1) := by decide +kernel
theorem dX0_asItGoes_0 : decode cX0_asItGoes 0 = .ok (.aload_n 0, 1) := by decide +kernel
theorem dX0_asItGoes_1 : decode cX0_asItGoes 1 = .ok (.iconst 0, 1) := by decide +kernel
theorem dX0_asItGoes_2 : decode cX0_asItGoes 2 = .ok (.putfield 25, 3) := by decide +kernel
theorem dX0_asItGoes_5 : decode cX0_asItGoes 5 = .ok (.aload_n 0, 1) := by decide +kernel
theorem dX0_asItGoes_6 : decode cX0_asItGoes 6 = .ok (.iconst (-1), 1) := by decide +kernel
theorem dX0_asItGoes_7 : decode cX0_asItGoes 7 = .ok (.putfield 18, 3) := by decide +kernel
theorem dX0_asItGoes_10 : decode cX0_asItGoes 10 = .ok (.aload_n 0, 1) := by decide +kernel
theorem dX0_asItGoes_11 : decode cX0_asItGoes 11 = .ok (.iconst (-1), 1) := by decide +kernel
theorem dX0_asItGoes_12 : decode cX0_asItGoes 12 = .ok (.putfield 22, 3) := by decide +kernel
theorem dX0_asItGoes_15 : decode cX0_asItGoes 15 = .ok (.return_, 1) := by decide +kernel
theorem dX0_drawn_0 : decode cX0_drawn 0 = .ok (.aload_n 0, 1) := by decide +kernel
theorem dX0_drawn_1 : decode cX0_drawn 1 = .ok (.invokevirtual 29, 3) := by decide +kernel
theorem dX0_drawn_4 : decode cX0_drawn 4 = .ok (.aload_n 0, 1) := by decide +kernel
theorem dX0_drawn_5 : decode cX0_drawn 5 = .ok (.iconst 1, 1) := by decide +kernel
theorem dX0_drawn_6 : decode cX0_drawn 6 = .ok (.putfield 25, 3) := by decide +kernel
theorem dX0_drawn_9 : decode cX0_drawn 9 = .ok (.return_, 1) := by decide +kernel
theorem dX0_otherwise_0 : decode cX0_otherwise 0 = .ok (.aload_n 0, 1) := by decide +kernel
theorem dX0_otherwise_1 : decode cX0_otherwise 1 = .ok (.invokevirtual 29, 3) := by decide +kernel
theorem dX0_otherwise_4 : decode cX0_otherwise 4 = .ok (.aload_n 0, 1) := by decide +kernel
theorem dX0_otherwise_5 : decode cX0_otherwise 5 = .ok (.iload_n 1, 1) := by decide +kernel
theorem dX0_otherwise_6 : decode cX0_otherwise 6 = .ok (.putfield 18, 3) := by decide +kernel
theorem dX0_otherwise_9 : decode cX0_otherwise 9 = .ok (.aload_n 0, 1) := by decide +kernel
theorem dX0_otherwise_10 : decode cX0_otherwise 10 = .ok (.iload_n 1, 1) := by decide +kernel
theorem dX0_otherwise_11 : decode cX0_otherwise 11 = .ok (.iconst 2, 1) := by decide +kernel
theorem dX0_otherwise_12 : decode cX0_otherwise 12 = .ok (.if_icmp .ne 7, 3) := by decide +kernel
theorem dX0_otherwise_15 : decode cX0_otherwise 15 = .ok (.iload_n 2, 1) := by decide +kernel
theorem dX0_otherwise_16 : decode cX0_otherwise 16 = .ok (.goto 4, 3) := by decide +kernel
theorem dX0_otherwise_19 : decode cX0_otherwise 19 = .ok (.iconst (-1), 1) := by decide +kernel
theorem dX0_otherwise_20 : decode cX0_otherwise 20 = .ok (.putfield 22, 3) := by decide +kernel
theorem dX0_otherwise_23 : decode cX0_otherwise 23 = .ok (.return_, 1) := by decide +kernel
theorem dX0_pass_0 : decode cX0_pass 0 = .ok (.iconst 0, 1) := by decide +kernel
theorem dX0_pass_1 : decode cX0_pass 1 = .ok (.istore 4, 2) := by decide +kernel
theorem dX0_pass_3 : decode cX0_pass 3 = .ok (.iload 4, 2) := by decide +kernel
theorem dX0_pass_5 : decode cX0_pass 5 = .ok (.iload_n 3, 1) := by decide +kernel
theorem dX0_pass_6 : decode cX0_pass 6 = .ok (.if_icmp .ge 34, 3) := by decide +kernel
theorem dX0_pass_9 : decode cX0_pass 9 = .ok (.aload_n 2, 1) := by decide +kernel
theorem dX0_pass_10 : decode cX0_pass 10 = .ok (.getfield 32, 3) := by decide +kernel
theorem dX0_pass_13 : decode cX0_pass 13 = .ok (.bipush 99, 2) := by decide +kernel
theorem dX0_pass_15 : decode cX0_pass 15 = .ok (.if_icmp .gt 9, 3) := by decide +kernel
theorem dX0_pass_18 : decode cX0_pass 18 = .ok (.aload_n 0, 1) := by decide +kernel
theorem dX0_pass_19 : decode cX0_pass 19 = .ok (.aload_n 1, 1) := by decide +kernel
theorem dX0_pass_20 : decode cX0_pass 20 = .ok (.aload_n 2, 1) := by decide +kernel
theorem dX0_pass_21 : decode cX0_pass 21 = .ok (.invokevirtual 37, 3) := by decide +kernel
theorem dX0_pass_24 : decode cX0_pass 24 = .ok (.aload_n 2, 1) := by decide +kernel
theorem dX0_pass_25 : decode cX0_pass 25 = .ok (.dup, 1) := by decide +kernel
theorem dX0_pass_26 : decode cX0_pass 26 = .ok (.getfield 32, 3) := by decide +kernel
theorem dX0_pass_29 : decode cX0_pass 29 = .ok (.iconst 1, 1) := by decide +kernel
theorem dX0_pass_30 : decode cX0_pass 30 = .ok (.iadd, 1) := by decide +kernel
theorem dX0_pass_31 : decode cX0_pass 31 = .ok (.putfield 32, 3) := by decide +kernel
theorem dX0_pass_34 : decode cX0_pass 34 = .ok (.iinc 4 1, 3) := by decide +kernel
theorem dX0_pass_37 : decode cX0_pass 37 = .ok (.goto (-34), 3) := by decide +kernel
theorem dX0_pass_40 : decode cX0_pass 40 = .ok (.return_, 1) := by decide +kernel
theorem dX0_passOne_0 : decode cX0_passOne 0 = .ok (.aload_n 0, 1) := by decide +kernel
theorem dX0_passOne_1 : decode cX0_passOne 1 = .ok (.getfield 18, 3) := by decide +kernel
theorem dX0_passOne_4 : decode cX0_passOne 4 = .ok (.iconst 3, 1) := by decide +kernel
theorem dX0_passOne_5 : decode cX0_passOne 5 = .ok (.if_icmp .eq 19, 3) := by decide +kernel
theorem dX0_passOne_8 : decode cX0_passOne 8 = .ok (.aload_n 1, 1) := by decide +kernel
theorem dX0_passOne_9 : decode cX0_passOne 9 = .ok (.aload_n 2, 1) := by decide +kernel
theorem dX0_passOne_10 : decode cX0_passOne 10 = .ok (.getfield 32, 3) := by decide +kernel
theorem dX0_passOne_13 : decode cX0_passOne 13 = .ok (.invokevirtual 41, 3) := by decide +kernel
theorem dX0_passOne_16 : decode cX0_passOne 16 = .ok (.ifCond .eq 8, 3) := by decide +kernel
theorem dX0_passOne_19 : decode cX0_passOne 19 = .ok (.aload_n 2, 1) := by decide +kernel
theorem dX0_passOne_20 : decode cX0_passOne 20 = .ok (.iconst 0, 1) := by decide +kernel
theorem dX0_passOne_21 : decode cX0_passOne 21 = .ok (.putfield 47, 3) := by decide +kernel
theorem dX0_passOne_24 : decode cX0_passOne 24 = .ok (.aload_n 0, 1) := by decide +kernel
theorem dX0_passOne_25 : decode cX0_passOne 25 = .ok (.getfield 18, 3) := by decide +kernel
theorem dX0_passOne_28 : decode cX0_passOne 28 = .ok (.iconst 4, 1) := by decide +kernel
theorem dX0_passOne_29 : decode cX0_passOne 29 = .ok (.if_icmp .ne 7, 3) := by decide +kernel
theorem dX0_passOne_32 : decode cX0_passOne 32 = .ok (.iconst 2, 1) := by decide +kernel
theorem dX0_passOne_33 : decode cX0_passOne 33 = .ok (.goto 4, 3) := by decide +kernel
theorem dX0_passOne_36 : decode cX0_passOne 36 = .ok (.iconst 1, 1) := by decide +kernel
theorem dX0_passOne_37 : decode cX0_passOne 37 = .ok (.istore_n 3, 1) := by decide +kernel
theorem dX0_passOne_38 : decode cX0_passOne 38 = .ok (.iconst 0, 1) := by decide +kernel
theorem dX0_passOne_39 : decode cX0_passOne 39 = .ok (.istore 4, 2) := by decide +kernel
theorem dX0_passOne_41 : decode cX0_passOne 41 = .ok (.iload 4, 2) := by decide +kernel
theorem dX0_passOne_43 : decode cX0_passOne 43 = .ok (.aload_n 1, 1) := by decide +kernel
theorem dX0_passOne_44 : decode cX0_passOne 44 = .ok (.getfield 50, 3) := by decide +kernel
theorem dX0_passOne_47 : decode cX0_passOne 47 = .ok (.if_icmp .ge 87, 3) := by decide +kernel
theorem dX0_passOne_50 : decode cX0_passOne 50 = .ok (.iload 4, 2) := by decide +kernel
theorem dX0_passOne_52 : decode cX0_passOne 52 = .ok (.bipush 16, 2) := by decide +kernel
theorem dX0_passOne_54 : decode cX0_passOne 54 = .ok (.if_icmp .ge 80, 3) := by decide +kernel
theorem dX0_passOne_57 : decode cX0_passOne 57 = .ok (.aload_n 1, 1) := by decide +kernel
theorem dX0_passOne_58 : decode cX0_passOne 58 = .ok (.getfield 53, 3) := by decide +kernel
theorem dX0_passOne_61 : decode cX0_passOne 61 = .ok (.iload 4, 2) := by decide +kernel
theorem dX0_passOne_63 : decode cX0_passOne 63 = .ok (.iaload, 1) := by decide +kernel
theorem dX0_passOne_64 : decode cX0_passOne 64 = .ok (.istore 5, 2) := by decide +kernel
theorem dX0_passOne_66 : decode cX0_passOne 66 = .ok (.aload_n 1, 1) := by decide +kernel
theorem dX0_passOne_67 : decode cX0_passOne 67 = .ok (.getfield 57, 3) := by decide +kernel
theorem dX0_passOne_70 : decode cX0_passOne 70 = .ok (.iload 4, 2) := by decide +kernel
theorem dX0_passOne_72 : decode cX0_passOne 72 = .ok (.iaload, 1) := by decide +kernel
theorem dX0_passOne_73 : decode cX0_passOne 73 = .ok (.aload_n 2, 1) := by decide +kernel
theorem dX0_passOne_74 : decode cX0_passOne 74 = .ok (.getfield 32, 3) := by decide +kernel
theorem dX0_passOne_77 : decode cX0_passOne 77 = .ok (.if_icmp .ne 51, 3) := by decide +kernel
theorem dX0_passOne_80 : decode cX0_passOne 80 = .ok (.iload 5, 2) := by decide +kernel
theorem dX0_passOne_82 : decode cX0_passOne 82 = .ok (.aload_n 0, 1) := by decide +kernel
theorem dX0_passOne_83 : decode cX0_passOne 83 = .ok (.getfield 22, 3) := by decide +kernel
theorem dX0_passOne_86 : decode cX0_passOne 86 = .ok (.if_icmp .ne 6, 3) := by decide +kernel
theorem dX0_passOne_89 : decode cX0_passOne 89 = .ok (.goto 39, 3) := by decide +kernel
theorem dX0_passOne_92 : decode cX0_passOne 92 = .ok (.iconst 0, 1) := by decide +kernel
theorem dX0_passOne_93 : decode cX0_passOne 93 = .ok (.istore 6, 2) := by decide +kernel
theorem dX0_passOne_95 : decode cX0_passOne 95 = .ok (.iload 6, 2) := by decide +kernel
theorem dX0_passOne_97 : decode cX0_passOne 97 = .ok (.iload_n 3, 1) := by decide +kernel
theorem dX0_passOne_98 : decode cX0_passOne 98 = .ok (.if_icmp .ge 30, 3) := by decide +kernel
theorem dX0_passOne_101 : decode cX0_passOne 101 = .ok (.aload_n 0, 1) := by decide +kernel
theorem dX0_passOne_102 : decode cX0_passOne 102 = .ok (.aload_n 1, 1) := by decide +kernel
theorem dX0_passOne_103 : decode cX0_passOne 103 = .ok (.aload_n 2, 1) := by decide +kernel
theorem dX0_passOne_104 : decode cX0_passOne 104 = .ok (.iload 5, 2) := by decide +kernel
theorem dX0_passOne_106 : decode cX0_passOne 106 = .ok (.invokevirtual 60, 3) := by decide +kernel
theorem dX0_passOne_109 : decode cX0_passOne 109 = .ok (.ifCond .ne 13, 3) := by decide +kernel
theorem dX0_passOne_112 : decode cX0_passOne 112 = .ok (.aload_n 2, 1) := by decide +kernel
theorem dX0_passOne_113 : decode cX0_passOne 113 = .ok (.dup, 1) := by decide +kernel
theorem dX0_passOne_114 : decode cX0_passOne 114 = .ok (.getfield 63, 3) := by decide +kernel
theorem dX0_passOne_117 : decode cX0_passOne 117 = .ok (.iconst 1, 1) := by decide +kernel
theorem dX0_passOne_118 : decode cX0_passOne 118 = .ok (.iadd, 1) := by decide +kernel
theorem dX0_passOne_119 : decode cX0_passOne 119 = .ok (.putfield 63, 3) := by decide +kernel
theorem dX0_passOne_122 : decode cX0_passOne 122 = .ok (.iinc 6 1, 3) := by decide +kernel
theorem dX0_passOne_125 : decode cX0_passOne 125 = .ok (.goto (-30), 3) := by decide +kernel
theorem dX0_passOne_128 : decode cX0_passOne 128 = .ok (.iinc 4 1, 3) := by decide +kernel
theorem dX0_passOne_131 : decode cX0_passOne 131 = .ok (.goto (-90), 3) := by decide +kernel
theorem dX0_passOne_134 : decode cX0_passOne 134 = .ok (.return_, 1) := by decide +kernel
theorem dX0_pushes_0 : decode cX0_pushes 0 = .ok (.aload_n 0, 1) := by decide +kernel
theorem dX0_pushes_1 : decode cX0_pushes 1 = .ok (.getfield 18, 3) := by decide +kernel
theorem dX0_pushes_4 : decode cX0_pushes 4 = .ok (.iconst 1, 1) := by decide +kernel
theorem dX0_pushes_5 : decode cX0_pushes 5 = .ok (.if_icmp .ne 17, 3) := by decide +kernel
theorem dX0_pushes_8 : decode cX0_pushes 8 = .ok (.aload_n 1, 1) := by decide +kernel
theorem dX0_pushes_9 : decode cX0_pushes 9 = .ok (.invokevirtual 66, 3) := by decide +kernel
theorem dX0_pushes_12 : decode cX0_pushes 12 = .ok (.aload_n 2, 1) := by decide +kernel
theorem dX0_pushes_13 : decode cX0_pushes 13 = .ok (.getfield 47, 3) := by decide +kernel
theorem dX0_pushes_16 : decode cX0_pushes 16 = .ok (.iconst (-1), 1) := by decide +kernel
theorem dX0_pushes_17 : decode cX0_pushes 17 = .ok (.ixor, 1) := by decide +kernel
theorem dX0_pushes_18 : decode cX0_pushes 18 = .ok (.iand, 1) := by decide +kernel
theorem dX0_pushes_19 : decode cX0_pushes 19 = .ok (.goto 15, 3) := by decide +kernel
theorem dX0_pushes_22 : decode cX0_pushes 22 = .ok (.aload_n 1, 1) := by decide +kernel
theorem dX0_pushes_23 : decode cX0_pushes 23 = .ok (.aload_n 2, 1) := by decide +kernel
theorem dX0_pushes_24 : decode cX0_pushes 24 = .ok (.getfield 70, 3) := by decide +kernel
theorem dX0_pushes_27 : decode cX0_pushes 27 = .ok (.aload_n 2, 1) := by decide +kernel
theorem dX0_pushes_28 : decode cX0_pushes 28 = .ok (.getfield 47, 3) := by decide +kernel
theorem dX0_pushes_31 : decode cX0_pushes 31 = .ok (.invokevirtual 73, 3) := by decide +kernel
theorem dX0_pushes_34 : decode cX0_pushes 34 = .ok (.istore 4, 2) := by decide +kernel
theorem dX0_pushes_36 : decode cX0_pushes 36 = .ok (.aload_n 1, 1) := by decide +kernel
theorem dX0_pushes_37 : decode cX0_pushes 37 = .ok (.iload_n 3, 1) := by decide +kernel
theorem dX0_pushes_38 : decode cX0_pushes 38 = .ok (.invokevirtual 77, 3) := by decide +kernel
theorem dX0_pushes_41 : decode cX0_pushes 41 = .ok (.ifCond .eq 12, 3) := by decide +kernel
theorem dX0_pushes_44 : decode cX0_pushes 44 = .ok (.iload 4, 2) := by decide +kernel
theorem dX0_pushes_46 : decode cX0_pushes 46 = .ok (.iload_n 3, 1) := by decide +kernel
theorem dX0_pushes_47 : decode cX0_pushes 47 = .ok (.ishr, 1) := by decide +kernel
theorem dX0_pushes_48 : decode cX0_pushes 48 = .ok (.iconst 1, 1) := by decide +kernel
theorem dX0_pushes_49 : decode cX0_pushes 49 = .ok (.iand, 1) := by decide +kernel
theorem dX0_pushes_50 : decode cX0_pushes 50 = .ok (.ifCond .ne 5, 3) := by decide +kernel
theorem dX0_pushes_53 : decode cX0_pushes 53 = .ok (.iconst 0, 1) := by decide +kernel
theorem dX0_pushes_54 : decode cX0_pushes 54 = .ok (.ireturn, 1) := by decide +kernel
theorem dX0_pushes_55 : decode cX0_pushes 55 = .ok (.aload_n 0, 1) := by decide +kernel
theorem dX0_pushes_56 : decode cX0_pushes 56 = .ok (.aload_n 1, 1) := by decide +kernel
theorem dX0_pushes_57 : decode cX0_pushes 57 = .ok (.aload_n 2, 1) := by decide +kernel
theorem dX0_pushes_58 : decode cX0_pushes 58 = .ok (.iconst 0, 1) := by decide +kernel
theorem dX0_pushes_59 : decode cX0_pushes 59 = .ok (.iload_n 3, 1) := by decide +kernel
theorem dX0_pushes_60 : decode cX0_pushes 60 = .ok (.invokevirtual 80, 3) := by decide +kernel
theorem dX0_pushes_63 : decode cX0_pushes 63 = .ok (.ldc2_w 84, 3) := by decide +kernel
theorem dX0_pushes_66 : decode cX0_pushes 66 = .ok (.lconst 1, 1) := by decide +kernel
theorem dX0_pushes_67 : decode cX0_pushes 67 = .ok (.invokestatic 86, 3) := by decide +kernel
theorem dX0_pushes_70 : decode cX0_pushes 70 = .ok (.lstore 5, 2) := by decide +kernel
theorem dX0_pushes_72 : decode cX0_pushes 72 = .ok (.aload_n 2, 1) := by decide +kernel
theorem dX0_pushes_73 : decode cX0_pushes 73 = .ok (.dup, 1) := by decide +kernel
theorem dX0_pushes_74 : decode cX0_pushes 74 = .ok (.getfield 70, 3) := by decide +kernel
theorem dX0_pushes_77 : decode cX0_pushes 77 = .ok (.iconst 1, 1) := by decide +kernel
theorem dX0_pushes_78 : decode cX0_pushes 78 = .ok (.iload_n 3, 1) := by decide +kernel
theorem dX0_pushes_79 : decode cX0_pushes 79 = .ok (.ishl, 1) := by decide +kernel
theorem dX0_pushes_80 : decode cX0_pushes 80 = .ok (.ixor, 1) := by decide +kernel
theorem dX0_pushes_81 : decode cX0_pushes 81 = .ok (.putfield 70, 3) := by decide +kernel
theorem dX0_pushes_84 : decode cX0_pushes 84 = .ok (.aload_n 2, 1) := by decide +kernel
theorem dX0_pushes_85 : decode cX0_pushes 85 = .ok (.ldc2_w 90, 3) := by decide +kernel
theorem dX0_pushes_88 : decode cX0_pushes 88 = .ok (.aload_n 2, 1) := by decide +kernel
theorem dX0_pushes_89 : decode cX0_pushes 89 = .ok (.getfield 92, 3) := by decide +kernel
theorem dX0_pushes_92 : decode cX0_pushes 92 = .ok (.i2l, 1) := by decide +kernel
theorem dX0_pushes_93 : decode cX0_pushes 93 = .ok (.lload 5, 2) := by decide +kernel
theorem dX0_pushes_95 : decode cX0_pushes 95 = .ok (.ladd, 1) := by decide +kernel
theorem dX0_pushes_96 : decode cX0_pushes 96 = .ok (.invokestatic 95, 3) := by decide +kernel
theorem dX0_pushes_99 : decode cX0_pushes 99 = .ok (.l2i, 1) := by decide +kernel
theorem dX0_pushes_100 : decode cX0_pushes 100 = .ok (.putfield 92, 3) := by decide +kernel
theorem dX0_pushes_103 : decode cX0_pushes 103 = .ok (.aload_n 2, 1) := by decide +kernel
theorem dX0_pushes_104 : decode cX0_pushes 104 = .ok (.getfield 101, 3) := by decide +kernel
theorem dX0_pushes_107 : decode cX0_pushes 107 = .ok (.iload_n 3, 1) := by decide +kernel
theorem dX0_pushes_108 : decode cX0_pushes 108 = .ok (.sipush 999, 3) := by decide +kernel
theorem dX0_pushes_111 : decode cX0_pushes 111 = .ok (.aload_n 2, 1) := by decide +kernel
theorem dX0_pushes_112 : decode cX0_pushes 112 = .ok (.getfield 101, 3) := by decide +kernel
theorem dX0_pushes_115 : decode cX0_pushes 115 = .ok (.iload_n 3, 1) := by decide +kernel
theorem dX0_pushes_116 : decode cX0_pushes 116 = .ok (.iaload, 1) := by decide +kernel
theorem dX0_pushes_117 : decode cX0_pushes 117 = .ok (.iconst 1, 1) := by decide +kernel
theorem dX0_pushes_118 : decode cX0_pushes 118 = .ok (.iadd, 1) := by decide +kernel
theorem dX0_pushes_119 : decode cX0_pushes 119 = .ok (.invokestatic 104, 3) := by decide +kernel
theorem dX0_pushes_122 : decode cX0_pushes 122 = .ok (.iastore, 1) := by decide +kernel
theorem dX0_pushes_123 : decode cX0_pushes 123 = .ok (.aload_n 0, 1) := by decide +kernel
theorem dX0_pushes_124 : decode cX0_pushes 124 = .ok (.getfield 18, 3) := by decide +kernel
theorem dX0_pushes_127 : decode cX0_pushes 127 = .ok (.ifCond .eq 72, 3) := by decide +kernel
theorem dX0_pushes_130 : decode cX0_pushes 130 = .ok (.aload_n 0, 1) := by decide +kernel
theorem dX0_pushes_131 : decode cX0_pushes 131 = .ok (.aload_n 1, 1) := by decide +kernel
theorem dX0_pushes_132 : decode cX0_pushes 132 = .ok (.aload_n 2, 1) := by decide +kernel
theorem dX0_pushes_133 : decode cX0_pushes 133 = .ok (.iconst 1, 1) := by decide +kernel
theorem dX0_pushes_134 : decode cX0_pushes 134 = .ok (.iload_n 3, 1) := by decide +kernel
theorem dX0_pushes_135 : decode cX0_pushes 135 = .ok (.invokevirtual 80, 3) := by decide +kernel
theorem dX0_pushes_138 : decode cX0_pushes 138 = .ok (.lstore 7, 2) := by decide +kernel
theorem dX0_pushes_140 : decode cX0_pushes 140 = .ok (.aload_n 0, 1) := by decide +kernel
theorem dX0_pushes_141 : decode cX0_pushes 141 = .ok (.aload_n 1, 1) := by decide +kernel
theorem dX0_pushes_142 : decode cX0_pushes 142 = .ok (.aload_n 2, 1) := by decide +kernel
theorem dX0_pushes_143 : decode cX0_pushes 143 = .ok (.iconst 2, 1) := by decide +kernel
theorem dX0_pushes_144 : decode cX0_pushes 144 = .ok (.iload_n 3, 1) := by decide +kernel
theorem dX0_pushes_145 : decode cX0_pushes 145 = .ok (.invokevirtual 80, 3) := by decide +kernel
theorem dX0_pushes_148 : decode cX0_pushes 148 = .ok (.ldc2_w 106, 3) := by decide +kernel
theorem dX0_pushes_151 : decode cX0_pushes 151 = .ok (.aload_n 1, 1) := by decide +kernel
theorem dX0_pushes_152 : decode cX0_pushes 152 = .ok (.getfield 108, 3) := by decide +kernel
theorem dX0_pushes_155 : decode cX0_pushes 155 = .ok (.i2l, 1) := by decide +kernel
theorem dX0_pushes_156 : decode cX0_pushes 156 = .ok (.invokestatic 86, 3) := by decide +kernel
theorem dX0_pushes_159 : decode cX0_pushes 159 = .ok (.lstore 9, 2) := by decide +kernel
theorem dX0_pushes_161 : decode cX0_pushes 161 = .ok (.aload_n 0, 1) := by decide +kernel
theorem dX0_pushes_162 : decode cX0_pushes 162 = .ok (.aload_n 2, 1) := by decide +kernel
theorem dX0_pushes_163 : decode cX0_pushes 163 = .ok (.lload 9, 2) := by decide +kernel
theorem dX0_pushes_165 : decode cX0_pushes 165 = .ok (.invokevirtual 111, 3) := by decide +kernel
theorem dX0_pushes_168 : decode cX0_pushes 168 = .ok (.ifCond .ne 19, 3) := by decide +kernel
theorem dX0_pushes_171 : decode cX0_pushes 171 = .ok (.lload 7, 2) := by decide +kernel
theorem dX0_pushes_173 : decode cX0_pushes 173 = .ok (.lconst 0, 1) := by decide +kernel
theorem dX0_pushes_174 : decode cX0_pushes 174 = .ok (.lcmp, 1) := by decide +kernel
theorem dX0_pushes_175 : decode cX0_pushes 175 = .ok (.ifCond .eq 24, 3) := by decide +kernel
theorem dX0_pushes_178 : decode cX0_pushes 178 = .ok (.lload 7, 2) := by decide +kernel
theorem dX0_pushes_180 : decode cX0_pushes 180 = .ok (.ldc2_w 115, 3) := by decide +kernel
theorem dX0_pushes_183 : decode cX0_pushes 183 = .ok (.lcmp, 1) := by decide +kernel
theorem dX0_pushes_184 : decode cX0_pushes 184 = .ok (.ifCond .eq 15, 3) := by decide +kernel
theorem dX0_pushes_187 : decode cX0_pushes 187 = .ok (.aload_n 2, 1) := by decide +kernel
theorem dX0_pushes_188 : decode cX0_pushes 188 = .ok (.dup, 1) := by decide +kernel
theorem dX0_pushes_189 : decode cX0_pushes 189 = .ok (.getfield 47, 3) := by decide +kernel
theorem dX0_pushes_192 : decode cX0_pushes 192 = .ok (.iconst 1, 1) := by decide +kernel
theorem dX0_pushes_193 : decode cX0_pushes 193 = .ok (.iload_n 3, 1) := by decide +kernel
theorem dX0_pushes_194 : decode cX0_pushes 194 = .ok (.ishl, 1) := by decide +kernel
theorem dX0_pushes_195 : decode cX0_pushes 195 = .ok (.ior, 1) := by decide +kernel
theorem dX0_pushes_196 : decode cX0_pushes 196 = .ok (.putfield 47, 3) := by decide +kernel
theorem dX0_pushes_199 : decode cX0_pushes 199 = .ok (.iconst 1, 1) := by decide +kernel
theorem dX0_pushes_200 : decode cX0_pushes 200 = .ok (.ireturn, 1) := by decide +kernel
theorem dX0_rusts_0 : decode cX0_rusts 0 = .ok (.lload_n 2, 1) := by decide +kernel
theorem dX0_rusts_1 : decode cX0_rusts 1 = .ok (.lconst 0, 1) := by decide +kernel
theorem dX0_rusts_2 : decode cX0_rusts 2 = .ok (.lcmp, 1) := by decide +kernel
theorem dX0_rusts_3 : decode cX0_rusts 3 = .ok (.ifCond .le 11, 3) := by decide +kernel
theorem dX0_rusts_6 : decode cX0_rusts 6 = .ok (.lload_n 2, 1) := by decide +kernel
theorem dX0_rusts_7 : decode cX0_rusts 7 = .ok (.ldc2_w 106, 3) := by decide +kernel
theorem dX0_rusts_10 : decode cX0_rusts 10 = .ok (.lcmp, 1) := by decide +kernel
theorem dX0_rusts_11 : decode cX0_rusts 11 = .ok (.ifCond .lt 17, 3) := by decide +kernel
theorem dX0_rusts_14 : decode cX0_rusts 14 = .ok (.lload_n 2, 1) := by decide +kernel
theorem dX0_rusts_15 : decode cX0_rusts 15 = .ok (.ldc2_w 106, 3) := by decide +kernel
theorem dX0_rusts_18 : decode cX0_rusts 18 = .ok (.lcmp, 1) := by decide +kernel
theorem dX0_rusts_19 : decode cX0_rusts 19 = .ok (.ifCond .lt 7, 3) := by decide +kernel
theorem dX0_rusts_22 : decode cX0_rusts 22 = .ok (.iconst 1, 1) := by decide +kernel
theorem dX0_rusts_23 : decode cX0_rusts 23 = .ok (.goto 4, 3) := by decide +kernel
theorem dX0_rusts_26 : decode cX0_rusts 26 = .ok (.iconst 0, 1) := by decide +kernel
theorem dX0_rusts_27 : decode cX0_rusts 27 = .ok (.ireturn, 1) := by decide +kernel
theorem dX0_rusts_28 : decode cX0_rusts 28 = .ok (.aload_n 0, 1) := by decide +kernel
theorem dX0_rusts_29 : decode cX0_rusts 29 = .ok (.getfield 25, 3) := by decide +kernel
theorem dX0_rusts_32 : decode cX0_rusts 32 = .ok (.ifCond .ne 17, 3) := by decide +kernel
theorem dX0_rusts_35 : decode cX0_rusts 35 = .ok (.lload_n 2, 1) := by decide +kernel
theorem dX0_rusts_36 : decode cX0_rusts 36 = .ok (.ldc2_w 117, 3) := by decide +kernel
theorem dX0_rusts_39 : decode cX0_rusts 39 = .ok (.lcmp, 1) := by decide +kernel
theorem dX0_rusts_40 : decode cX0_rusts 40 = .ok (.ifCond .lt 7, 3) := by decide +kernel
theorem dX0_rusts_43 : decode cX0_rusts 43 = .ok (.iconst 1, 1) := by decide +kernel
theorem dX0_rusts_44 : decode cX0_rusts 44 = .ok (.goto 4, 3) := by decide +kernel
theorem dX0_rusts_47 : decode cX0_rusts 47 = .ok (.iconst 0, 1) := by decide +kernel
theorem dX0_rusts_48 : decode cX0_rusts 48 = .ok (.ireturn, 1) := by decide +kernel
theorem dX0_rusts_49 : decode cX0_rusts 49 = .ok (.aload_n 1, 1) := by decide +kernel
theorem dX0_rusts_50 : decode cX0_rusts 50 = .ok (.aload_n 1, 1) := by decide +kernel
theorem dX0_rusts_51 : decode cX0_rusts 51 = .ok (.getfield 119, 3) := by decide +kernel
theorem dX0_rusts_54 : decode cX0_rusts 54 = .ok (.ldc2_w 123, 3) := by decide +kernel
theorem dX0_rusts_57 : decode cX0_rusts 57 = .ok (.lmul, 1) := by decide +kernel
theorem dX0_rusts_58 : decode cX0_rusts 58 = .ok (.ldc2_w 125, 3) := by decide +kernel
theorem dX0_rusts_61 : decode cX0_rusts 61 = .ok (.ladd, 1) := by decide +kernel
theorem dX0_rusts_62 : decode cX0_rusts 62 = .ok (.ldc2_w 127, 3) := by decide +kernel
theorem dX0_rusts_65 : decode cX0_rusts 65 = .ok (.land, 1) := by decide +kernel
theorem dX0_rusts_66 : decode cX0_rusts 66 = .ok (.putfield 119, 3) := by decide +kernel
theorem dX0_rusts_69 : decode cX0_rusts 69 = .ok (.aload_n 1, 1) := by decide +kernel
theorem dX0_rusts_70 : decode cX0_rusts 70 = .ok (.getfield 119, 3) := by decide +kernel
theorem dX0_rusts_73 : decode cX0_rusts 73 = .ok (.ldc2_w 129, 3) := by decide +kernel
theorem dX0_rusts_76 : decode cX0_rusts 76 = .ok (.ldiv, 1) := by decide +kernel
theorem dX0_rusts_77 : decode cX0_rusts 77 = .ok (.ldc2_w 106, 3) := by decide +kernel
theorem dX0_rusts_80 : decode cX0_rusts 80 = .ok (.lrem, 1) := by decide +kernel
theorem dX0_rusts_81 : decode cX0_rusts 81 = .ok (.lload_n 2, 1) := by decide +kernel
theorem dX0_rusts_82 : decode cX0_rusts 82 = .ok (.lcmp, 1) := by decide +kernel
theorem dX0_rusts_83 : decode cX0_rusts 83 = .ok (.ifCond .ge 7, 3) := by decide +kernel
theorem dX0_rusts_86 : decode cX0_rusts 86 = .ok (.iconst 1, 1) := by decide +kernel
theorem dX0_rusts_87 : decode cX0_rusts 87 = .ok (.goto 4, 3) := by decide +kernel
theorem dX0_rusts_90 : decode cX0_rusts 90 = .ok (.iconst 0, 1) := by decide +kernel
theorem dX0_rusts_91 : decode cX0_rusts 91 = .ok (.ireturn, 1) := by decide +kernel
theorem dX0_limited_0 : decode cX0_limited 0 = .ok (.lload_n 0, 1) := by decide +kernel
theorem dX0_limited_1 : decode cX0_limited 1 = .ok (.ldc2_w 115, 3) := by decide +kernel
theorem dX0_limited_4 : decode cX0_limited 4 = .ok (.lcmp, 1) := by decide +kernel
theorem dX0_limited_5 : decode cX0_limited 5 = .ok (.ifCond .ne 6, 3) := by decide +kernel
theorem dX0_limited_8 : decode cX0_limited 8 = .ok (.lload 4, 2) := by decide +kernel
theorem dX0_limited_10 : decode cX0_limited 10 = .ok (.lreturn, 1) := by decide +kernel
theorem dX0_limited_11 : decode cX0_limited 11 = .ok (.lconst 0, 1) := by decide +kernel
theorem dX0_limited_12 : decode cX0_limited 12 = .ok (.lload_n 2, 1) := by decide +kernel
theorem dX0_limited_13 : decode cX0_limited 13 = .ok (.lload_n 0, 1) := by decide +kernel
theorem dX0_limited_14 : decode cX0_limited 14 = .ok (.invokestatic 95, 3) := by decide +kernel
theorem dX0_limited_17 : decode cX0_limited 17 = .ok (.invokestatic 131, 3) := by decide +kernel
theorem dX0_limited_20 : decode cX0_limited 20 = .ok (.lreturn, 1) := by decide +kernel
theorem dX0_worthOf_0 : decode cX0_worthOf 0 = .ok (.aload_n 1, 1) := by decide +kernel
theorem dX0_worthOf_1 : decode cX0_worthOf 1 = .ok (.iload_n 3, 1) := by decide +kernel
theorem dX0_worthOf_2 : decode cX0_worthOf 2 = .ok (.invokevirtual 134, 3) := by decide +kernel
theorem dX0_worthOf_5 : decode cX0_worthOf 5 = .ok (.ifCond .ne 7, 3) := by decide +kernel
theorem dX0_worthOf_8 : decode cX0_worthOf 8 = .ok (.ldc2_w 115, 3) := by decide +kernel
theorem dX0_worthOf_11 : decode cX0_worthOf 11 = .ok (.lreturn, 1) := by decide +kernel
theorem dX0_worthOf_12 : decode cX0_worthOf 12 = .ok (.aload_n 0, 1) := by decide +kernel
theorem dX0_worthOf_13 : decode cX0_worthOf 13 = .ok (.getfield 12, 3) := by decide +kernel
theorem dX0_worthOf_16 : decode cX0_worthOf 16 = .ok (.aload_n 2, 1) := by decide +kernel
theorem dX0_worthOf_17 : decode cX0_worthOf 17 = .ok (.iload 4, 2) := by decide +kernel
theorem dX0_worthOf_19 : decode cX0_worthOf 19 = .ok (.invokevirtual 137, 3) := by decide +kernel
theorem dX0_worthOf_22 : decode cX0_worthOf 22 = .ok (.aload_n 1, 1) := by decide +kernel
theorem dX0_worthOf_23 : decode cX0_worthOf 23 = .ok (.getfield 141, 3) := by decide +kernel
theorem dX0_worthOf_26 : decode cX0_worthOf 26 = .ok (.aload_n 1, 1) := by decide +kernel
theorem dX0_worthOf_27 : decode cX0_worthOf 27 = .ok (.getfield 145, 3) := by decide +kernel
theorem dX0_worthOf_30 : decode cX0_worthOf 30 = .ok (.iconst 2, 1) := by decide +kernel
theorem dX0_worthOf_31 : decode cX0_worthOf 31 = .ok (.iload_n 3, 1) := by decide +kernel
theorem dX0_worthOf_32 : decode cX0_worthOf 32 = .ok (.imul, 1) := by decide +kernel
theorem dX0_worthOf_33 : decode cX0_worthOf 33 = .ok (.iaload, 1) := by decide +kernel
theorem dX0_worthOf_34 : decode cX0_worthOf 34 = .ok (.aload_n 1, 1) := by decide +kernel
theorem dX0_worthOf_35 : decode cX0_worthOf 35 = .ok (.getfield 145, 3) := by decide +kernel
theorem dX0_worthOf_38 : decode cX0_worthOf 38 = .ok (.iconst 2, 1) := by decide +kernel
theorem dX0_worthOf_39 : decode cX0_worthOf 39 = .ok (.iload_n 3, 1) := by decide +kernel
theorem dX0_worthOf_40 : decode cX0_worthOf 40 = .ok (.imul, 1) := by decide +kernel
theorem dX0_worthOf_41 : decode cX0_worthOf 41 = .ok (.iconst 1, 1) := by decide +kernel
theorem dX0_worthOf_42 : decode cX0_worthOf 42 = .ok (.iadd, 1) := by decide +kernel
theorem dX0_worthOf_43 : decode cX0_worthOf 43 = .ok (.iaload, 1) := by decide +kernel
theorem dX0_worthOf_44 : decode cX0_worthOf 44 = .ok (.aload_n 0, 1) := by decide +kernel
theorem dX0_worthOf_45 : decode cX0_worthOf 45 = .ok (.getfield 12, 3) := by decide +kernel
theorem dX0_worthOf_48 : decode cX0_worthOf 48 = .ok (.invokevirtual 148, 3) := by decide +kernel
theorem dX0_worthOf_51 : decode cX0_worthOf 51 = .ok (.lreturn, 1) := by decide +kernel
theorem dX1_init_0 : decode cX1_init 0 = .ok (.aload_n 0, 1) := by decide +kernel
theorem dX1_init_1 : decode cX1_init 1 = .ok (.invokespecial 3, 3) := by decide +kernel
theorem dX1_init_4 : decode cX1_init 4 = .ok (.aload_n 0, 1) := by decide +kernel
theorem dX1_init_5 : decode cX1_init 5 = .ok (.bipush 8, 2) := by decide +kernel
theorem dX1_init_7 : decode cX1_init 7 = .ok (.newarray .int, 2) := by decide +kernel
theorem dX1_init_9 : decode cX1_init 9 = .ok (.putfield 9, 3) := by decide +kernel
theorem dX1_init_12 : decode cX1_init 12 = .ok (.aload_n 0, 1) := by decide +kernel
theorem dX1_init_13 : decode cX1_init 13 = .ok (.bipush 8, 2) := by decide +kernel
theorem dX1_init_15 : decode cX1_init 15 = .ok (.newarray .int, 2) := by decide +kernel
theorem dX1_init_17 : decode cX1_init 17 = .ok (.putfield 15, 3) := by decide +kernel
theorem dX1_init_20 : decode cX1_init 20 = .ok (.aload_n 0, 1) := by decide +kernel
theorem dX1_init_21 : decode cX1_init 21 = .ok (.bipush 16, 2) := by decide +kernel
theorem dX1_init_23 : decode cX1_init 23 = .ok (.newarray .int, 2) := by decide +kernel
theorem dX1_init_25 : decode cX1_init 25 = .ok (.putfield 18, 3) := by decide +kernel
theorem dX1_init_28 : decode cX1_init 28 = .ok (.aload_n 0, 1) := by decide +kernel
theorem dX1_init_29 : decode cX1_init 29 = .ok (.bipush 8, 2) := by decide +kernel
theorem dX1_init_31 : decode cX1_init 31 = .ok (.newarray .int, 2) := by decide +kernel
theorem dX1_init_33 : decode cX1_init 33 = .ok (.putfield 21, 3) := by decide +kernel
theorem dX1_init_36 : decode cX1_init 36 = .ok (.aload_n 0, 1) := by decide +kernel
theorem dX1_init_37 : decode cX1_init 37 = .ok (.sipush 256, 3) := by decide +kernel
theorem dX1_init_40 : decode cX1_init 40 = .ok (.newarray .int, 2) := by decide +kernel
theorem dX1_init_42 : decode cX1_init 42 = .ok (.putfield 24, 3) := by decide +kernel
theorem dX1_init_45 : decode cX1_init 45 = .ok (.aload_n 0, 1) := by decide +kernel
theorem dX1_init_46 : decode cX1_init 46 = .ok (.bipush 16, 2) := by decide +kernel
theorem dX1_init_48 : decode cX1_init 48 = .ok (.newarray .int, 2) := by decide +kernel
theorem dX1_init_50 : decode cX1_init 50 = .ok (.putfield 27, 3) := by decide +kernel
theorem dX1_init_53 : decode cX1_init 53 = .ok (.aload_n 0, 1) := by decide +kernel
theorem dX1_init_54 : decode cX1_init 54 = .ok (.bipush 16, 2) := by decide +kernel
theorem dX1_init_56 : decode cX1_init 56 = .ok (.newarray .int, 2) := by decide +kernel
theorem dX1_init_58 : decode cX1_init 58 = .ok (.putfield 30, 3) := by decide +kernel
theorem dX1_init_61 : decode cX1_init 61 = .ok (.aload_n 0, 1) := by decide +kernel
theorem dX1_init_62 : decode cX1_init 62 = .ok (.iconst 4, 1) := by decide +kernel
theorem dX1_init_63 : decode cX1_init 63 = .ok (.newarray .int, 2) := by decide +kernel
theorem dX1_init_65 : decode cX1_init 65 = .ok (.putfield 33, 3) := by decide +kernel
theorem dX1_init_68 : decode cX1_init 68 = .ok (.aload_n 0, 1) := by decide +kernel
theorem dX1_init_69 : decode cX1_init 69 = .ok (.bipush 6, 2) := by decide +kernel
theorem dX1_init_71 : decode cX1_init 71 = .ok (.newarray .int, 2) := by decide +kernel
theorem dX1_init_73 : decode cX1_init 73 = .ok (.putfield 36, 3) := by decide +kernel
theorem dX1_init_76 : decode cX1_init 76 = .ok (.aload_n 0, 1) := by decide +kernel
theorem dX1_init_77 : decode cX1_init 77 = .ok (.new 39, 3) := by decide +kernel
theorem dX1_init_80 : decode cX1_init 80 = .ok (.dup, 1) := by decide +kernel
theorem dX1_init_81 : decode cX1_init 81 = .ok (.invokespecial 41, 3) := by decide +kernel
theorem dX1_init_84 : decode cX1_init 84 = .ok (.putfield 42, 3) := by decide +kernel
theorem dX1_init_87 : decode cX1_init 87 = .ok (.aload_n 0, 1) := by decide +kernel
theorem dX1_init_88 : decode cX1_init 88 = .ok (.new 46, 3) := by decide +kernel
theorem dX1_init_91 : decode cX1_init 91 = .ok (.dup, 1) := by decide +kernel
theorem dX1_init_92 : decode cX1_init 92 = .ok (.invokespecial 48, 3) := by decide +kernel
theorem dX1_init_95 : decode cX1_init 95 = .ok (.putfield 49, 3) := by decide +kernel
theorem dX1_init_98 : decode cX1_init 98 = .ok (.return_, 1) := by decide +kernel
theorem dX1_clear_0 : decode cX1_clear 0 = .ok (.aload_n 0, 1) := by decide +kernel
theorem dX1_clear_1 : decode cX1_clear 1 = .ok (.iconst 0, 1) := by decide +kernel
theorem dX1_clear_2 : decode cX1_clear 2 = .ok (.putfield 53, 3) := by decide +kernel
theorem dX1_clear_5 : decode cX1_clear 5 = .ok (.aload_n 0, 1) := by decide +kernel
theorem dX1_clear_6 : decode cX1_clear 6 = .ok (.iconst 0, 1) := by decide +kernel
theorem dX1_clear_7 : decode cX1_clear 7 = .ok (.putfield 57, 3) := by decide +kernel
theorem dX1_clear_10 : decode cX1_clear 10 = .ok (.aload_n 0, 1) := by decide +kernel
theorem dX1_clear_11 : decode cX1_clear 11 = .ok (.iconst 0, 1) := by decide +kernel
theorem dX1_clear_12 : decode cX1_clear 12 = .ok (.putfield 60, 3) := by decide +kernel
theorem dX1_clear_15 : decode cX1_clear 15 = .ok (.aload_n 0, 1) := by decide +kernel
theorem dX1_clear_16 : decode cX1_clear 16 = .ok (.iconst 0, 1) := by decide +kernel
theorem dX1_clear_17 : decode cX1_clear 17 = .ok (.putfield 63, 3) := by decide +kernel
theorem dX1_clear_20 : decode cX1_clear 20 = .ok (.aload_n 0, 1) := by decide +kernel
theorem dX1_clear_21 : decode cX1_clear 21 = .ok (.iconst 0, 1) := by decide +kernel
theorem dX1_clear_22 : decode cX1_clear 22 = .ok (.putfield 66, 3) := by decide +kernel
theorem dX1_clear_25 : decode cX1_clear 25 = .ok (.aload_n 0, 1) := by decide +kernel
theorem dX1_clear_26 : decode cX1_clear 26 = .ok (.getfield 21, 3) := by decide +kernel
theorem dX1_clear_29 : decode cX1_clear 29 = .ok (.iconst 0, 1) := by decide +kernel
theorem dX1_clear_30 : decode cX1_clear 30 = .ok (.invokestatic 69, 3) := by decide +kernel
theorem dX1_clear_33 : decode cX1_clear 33 = .ok (.aload_n 0, 1) := by decide +kernel
theorem dX1_clear_34 : decode cX1_clear 34 = .ok (.iconst 0, 1) := by decide +kernel
theorem dX1_clear_35 : decode cX1_clear 35 = .ok (.putfield 75, 3) := by decide +kernel
theorem dX1_clear_38 : decode cX1_clear 38 = .ok (.aload_n 0, 1) := by decide +kernel
theorem dX1_clear_39 : decode cX1_clear 39 = .ok (.iconst 0, 1) := by decide +kernel
theorem dX1_clear_40 : decode cX1_clear 40 = .ok (.putfield 78, 3) := by decide +kernel
theorem dX1_clear_43 : decode cX1_clear 43 = .ok (.aload_n 0, 1) := by decide +kernel
theorem dX1_clear_44 : decode cX1_clear 44 = .ok (.iconst 0, 1) := by decide +kernel
theorem dX1_clear_45 : decode cX1_clear 45 = .ok (.putfield 81, 3) := by decide +kernel
theorem dX1_clear_48 : decode cX1_clear 48 = .ok (.aload_n 0, 1) := by decide +kernel
theorem dX1_clear_49 : decode cX1_clear 49 = .ok (.iconst 0, 1) := by decide +kernel
theorem dX1_clear_50 : decode cX1_clear 50 = .ok (.putfield 84, 3) := by decide +kernel
theorem dX1_clear_53 : decode cX1_clear 53 = .ok (.aload_n 0, 1) := by decide +kernel
theorem dX1_clear_54 : decode cX1_clear 54 = .ok (.getfield 36, 3) := by decide +kernel
theorem dX1_clear_57 : decode cX1_clear 57 = .ok (.iconst 0, 1) := by decide +kernel
theorem dX1_clear_58 : decode cX1_clear 58 = .ok (.invokestatic 69, 3) := by decide +kernel
theorem dX1_clear_61 : decode cX1_clear 61 = .ok (.aload_n 0, 1) := by decide +kernel
theorem dX1_clear_62 : decode cX1_clear 62 = .ok (.getfield 42, 3) := by decide +kernel
theorem dX1_clear_65 : decode cX1_clear 65 = .ok (.iconst 0, 1) := by decide +kernel
theorem dX1_clear_66 : decode cX1_clear 66 = .ok (.putfield 87, 3) := by decide +kernel
theorem dX1_clear_69 : decode cX1_clear 69 = .ok (.return_, 1) := by decide +kernel
theorem dX1_has_0 : decode cX1_has 0 = .ok (.iload_n 1, 1) := by decide +kernel
theorem dX1_has_1 : decode cX1_has 1 = .ok (.ifCond .lt 21, 3) := by decide +kernel
theorem dX1_has_4 : decode cX1_has 4 = .ok (.iload_n 1, 1) := by decide +kernel
theorem dX1_has_5 : decode cX1_has 5 = .ok (.aload_n 0, 1) := by decide +kernel
theorem dX1_has_6 : decode cX1_has 6 = .ok (.getfield 57, 3) := by decide +kernel
theorem dX1_has_9 : decode cX1_has 9 = .ok (.if_icmp .ge 13, 3) := by decide +kernel
theorem dX1_has_12 : decode cX1_has 12 = .ok (.iload_n 1, 1) := by decide +kernel
theorem dX1_has_13 : decode cX1_has 13 = .ok (.bipush 8, 2) := by decide +kernel
theorem dX1_has_15 : decode cX1_has 15 = .ok (.if_icmp .ge 7, 3) := by decide +kernel
theorem dX1_has_18 : decode cX1_has 18 = .ok (.iconst 1, 1) := by decide +kernel
theorem dX1_has_19 : decode cX1_has 19 = .ok (.goto 4, 3) := by decide +kernel
theorem dX1_has_22 : decode cX1_has 22 = .ok (.iconst 0, 1) := by decide +kernel
theorem dX1_has_23 : decode cX1_has 23 = .ok (.ireturn, 1) := by decide +kernel
theorem dX1_hasRow_0 : decode cX1_hasRow 0 = .ok (.iload_n 1, 1) := by decide +kernel
theorem dX1_hasRow_1 : decode cX1_hasRow 1 = .ok (.ifCond .lt 24, 3) := by decide +kernel
theorem dX1_hasRow_4 : decode cX1_hasRow 4 = .ok (.iload_n 1, 1) := by decide +kernel
theorem dX1_hasRow_5 : decode cX1_hasRow 5 = .ok (.iconst 1, 1) := by decide +kernel
theorem dX1_hasRow_6 : decode cX1_hasRow 6 = .ok (.aload_n 0, 1) := by decide +kernel
theorem dX1_hasRow_7 : decode cX1_hasRow 7 = .ok (.getfield 57, 3) := by decide +kernel
theorem dX1_hasRow_10 : decode cX1_hasRow 10 = .ok (.ishl, 1) := by decide +kernel
theorem dX1_hasRow_11 : decode cX1_hasRow 11 = .ok (.if_icmp .ge 14, 3) := by decide +kernel
theorem dX1_hasRow_14 : decode cX1_hasRow 14 = .ok (.iload_n 1, 1) := by decide +kernel
theorem dX1_hasRow_15 : decode cX1_hasRow 15 = .ok (.sipush 256, 3) := by decide +kernel
theorem dX1_hasRow_18 : decode cX1_hasRow 18 = .ok (.if_icmp .ge 7, 3) := by decide +kernel
theorem dX1_hasRow_21 : decode cX1_hasRow 21 = .ok (.iconst 1, 1) := by decide +kernel
theorem dX1_hasRow_22 : decode cX1_hasRow 22 = .ok (.goto 4, 3) := by decide +kernel
theorem dX1_hasRow_25 : decode cX1_hasRow 25 = .ok (.iconst 0, 1) := by decide +kernel
theorem dX1_hasRow_26 : decode cX1_hasRow 26 = .ok (.ireturn, 1) := by decide +kernel
theorem dX1_numberOf_0 : decode cX1_numberOf 0 = .ok (.iconst 0, 1) := by decide +kernel
theorem dX1_numberOf_1 : decode cX1_numberOf 1 = .ok (.istore_n 2, 1) := by decide +kernel
theorem dX1_numberOf_2 : decode cX1_numberOf 2 = .ok (.iload_n 2, 1) := by decide +kernel
theorem dX1_numberOf_3 : decode cX1_numberOf 3 = .ok (.aload_n 0, 1) := by decide +kernel
theorem dX1_numberOf_4 : decode cX1_numberOf 4 = .ok (.getfield 57, 3) := by decide +kernel
theorem dX1_numberOf_7 : decode cX1_numberOf 7 = .ok (.if_icmp .ge 27, 3) := by decide +kernel
theorem dX1_numberOf_10 : decode cX1_numberOf 10 = .ok (.iload_n 2, 1) := by decide +kernel
theorem dX1_numberOf_11 : decode cX1_numberOf 11 = .ok (.bipush 8, 2) := by decide +kernel
theorem dX1_numberOf_13 : decode cX1_numberOf 13 = .ok (.if_icmp .ge 21, 3) := by decide +kernel
theorem dX1_numberOf_16 : decode cX1_numberOf 16 = .ok (.aload_n 0, 1) := by decide +kernel
theorem dX1_numberOf_17 : decode cX1_numberOf 17 = .ok (.getfield 9, 3) := by decide +kernel
theorem dX1_numberOf_20 : decode cX1_numberOf 20 = .ok (.iload_n 2, 1) := by decide +kernel
theorem dX1_numberOf_21 : decode cX1_numberOf 21 = .ok (.iaload, 1) := by decide +kernel
theorem dX1_numberOf_22 : decode cX1_numberOf 22 = .ok (.iload_n 1, 1) := by decide +kernel
theorem dX1_numberOf_23 : decode cX1_numberOf 23 = .ok (.if_icmp .ne 5, 3) := by decide +kernel
theorem dX1_numberOf_26 : decode cX1_numberOf 26 = .ok (.iload_n 2, 1) := by decide +kernel
theorem dX1_numberOf_27 : decode cX1_numberOf 27 = .ok (.ireturn, 1) := by decide +kernel
theorem dX1_numberOf_28 : decode cX1_numberOf 28 = .ok (.iinc 2 1, 3) := by decide +kernel
theorem dX1_numberOf_31 : decode cX1_numberOf 31 = .ok (.goto (-29), 3) := by decide +kernel
theorem dX1_numberOf_34 : decode cX1_numberOf 34 = .ok (.iconst (-1), 1) := by decide +kernel
theorem dX1_numberOf_35 : decode cX1_numberOf 35 = .ok (.ireturn, 1) := by decide +kernel
theorem dX1_addLatch_0 : decode cX1_addLatch 0 = .ok (.aload_n 0, 1) := by decide +kernel
theorem dX1_addLatch_1 : decode cX1_addLatch 1 = .ok (.getfield 57, 3) := by decide +kernel
theorem dX1_addLatch_4 : decode cX1_addLatch 4 = .ok (.bipush 8, 2) := by decide +kernel
theorem dX1_addLatch_6 : decode cX1_addLatch 6 = .ok (.if_icmp .ge 38, 3) := by decide +kernel
theorem dX1_addLatch_9 : decode cX1_addLatch 9 = .ok (.aload_n 0, 1) := by decide +kernel
theorem dX1_addLatch_10 : decode cX1_addLatch 10 = .ok (.getfield 9, 3) := by decide +kernel
theorem dX1_addLatch_13 : decode cX1_addLatch 13 = .ok (.aload_n 0, 1) := by decide +kernel
theorem dX1_addLatch_14 : decode cX1_addLatch 14 = .ok (.getfield 57, 3) := by decide +kernel
theorem dX1_addLatch_17 : decode cX1_addLatch 17 = .ok (.iload_n 1, 1) := by decide +kernel
theorem dX1_addLatch_18 : decode cX1_addLatch 18 = .ok (.iastore, 1) := by decide +kernel
theorem dX1_addLatch_19 : decode cX1_addLatch 19 = .ok (.aload_n 0, 1) := by decide +kernel
theorem dX1_addLatch_20 : decode cX1_addLatch 20 = .ok (.dup, 1) := by decide +kernel
theorem dX1_addLatch_21 : decode cX1_addLatch 21 = .ok (.getfield 60, 3) := by decide +kernel
theorem dX1_addLatch_24 : decode cX1_addLatch 24 = .ok (.iload_n 2, 1) := by decide +kernel
theorem dX1_addLatch_25 : decode cX1_addLatch 25 = .ok (.aload_n 0, 1) := by decide +kernel
theorem dX1_addLatch_26 : decode cX1_addLatch 26 = .ok (.getfield 57, 3) := by decide +kernel
theorem dX1_addLatch_29 : decode cX1_addLatch 29 = .ok (.ishl, 1) := by decide +kernel
theorem dX1_addLatch_30 : decode cX1_addLatch 30 = .ok (.ior, 1) := by decide +kernel
theorem dX1_addLatch_31 : decode cX1_addLatch 31 = .ok (.putfield 60, 3) := by decide +kernel
theorem dX1_addLatch_34 : decode cX1_addLatch 34 = .ok (.aload_n 0, 1) := by decide +kernel
theorem dX1_addLatch_35 : decode cX1_addLatch 35 = .ok (.dup, 1) := by decide +kernel
theorem dX1_addLatch_36 : decode cX1_addLatch 36 = .ok (.getfield 57, 3) := by decide +kernel
theorem dX1_addLatch_39 : decode cX1_addLatch 39 = .ok (.iconst 1, 1) := by decide +kernel
theorem dX1_addLatch_40 : decode cX1_addLatch 40 = .ok (.iadd, 1) := by decide +kernel
theorem dX1_addLatch_41 : decode cX1_addLatch 41 = .ok (.putfield 57, 3) := by decide +kernel
theorem dX1_addLatch_44 : decode cX1_addLatch 44 = .ok (.return_, 1) := by decide +kernel
theorem dX1_doesLean_0 : decode cX1_doesLean 0 = .ok (.iload_n 1, 1) := by decide +kernel
theorem dX1_doesLean_1 : decode cX1_doesLean 1 = .ok (.ifCond .lt 24, 3) := by decide +kernel
theorem dX1_doesLean_4 : decode cX1_doesLean 4 = .ok (.iload_n 1, 1) := by decide +kernel
theorem dX1_doesLean_5 : decode cX1_doesLean 5 = .ok (.bipush 8, 2) := by decide +kernel
theorem dX1_doesLean_7 : decode cX1_doesLean 7 = .ok (.if_icmp .ge 18, 3) := by decide +kernel
theorem dX1_doesLean_10 : decode cX1_doesLean 10 = .ok (.aload_n 0, 1) := by decide +kernel
theorem dX1_doesLean_11 : decode cX1_doesLean 11 = .ok (.getfield 66, 3) := by decide +kernel
theorem dX1_doesLean_14 : decode cX1_doesLean 14 = .ok (.iload_n 1, 1) := by decide +kernel
theorem dX1_doesLean_15 : decode cX1_doesLean 15 = .ok (.ishr, 1) := by decide +kernel
theorem dX1_doesLean_16 : decode cX1_doesLean 16 = .ok (.iconst 1, 1) := by decide +kernel
theorem dX1_doesLean_17 : decode cX1_doesLean 17 = .ok (.iand, 1) := by decide +kernel
theorem dX1_doesLean_18 : decode cX1_doesLean 18 = .ok (.ifCond .eq 7, 3) := by decide +kernel
theorem dX1_doesLean_21 : decode cX1_doesLean 21 = .ok (.iconst 1, 1) := by decide +kernel
theorem dX1_doesLean_22 : decode cX1_doesLean 22 = .ok (.goto 4, 3) := by decide +kernel
theorem dX1_doesLean_25 : decode cX1_doesLean 25 = .ok (.iconst 0, 1) := by decide +kernel
theorem dX1_doesLean_26 : decode cX1_doesLean 26 = .ok (.ireturn, 1) := by decide +kernel
theorem dX1_leantOn_0 : decode cX1_leantOn 0 = .ok (.iload_n 1, 1) := by decide +kernel
theorem dX1_leantOn_1 : decode cX1_leantOn 1 = .ok (.ifCond .lt 18, 3) := by decide +kernel
theorem dX1_leantOn_4 : decode cX1_leantOn 4 = .ok (.iload_n 1, 1) := by decide +kernel
theorem dX1_leantOn_5 : decode cX1_leantOn 5 = .ok (.bipush 8, 2) := by decide +kernel
theorem dX1_leantOn_7 : decode cX1_leantOn 7 = .ok (.if_icmp .ge 12, 3) := by decide +kernel
theorem dX1_leantOn_10 : decode cX1_leantOn 10 = .ok (.aload_n 0, 1) := by decide +kernel
theorem dX1_leantOn_11 : decode cX1_leantOn 11 = .ok (.getfield 21, 3) := by decide +kernel
theorem dX1_leantOn_14 : decode cX1_leantOn 14 = .ok (.iload_n 1, 1) := by decide +kernel
theorem dX1_leantOn_15 : decode cX1_leantOn 15 = .ok (.iaload, 1) := by decide +kernel
theorem dX1_leantOn_16 : decode cX1_leantOn 16 = .ok (.goto 4, 3) := by decide +kernel
theorem dX1_leantOn_19 : decode cX1_leantOn 19 = .ok (.iconst 0, 1) := by decide +kernel
theorem dX1_leantOn_20 : decode cX1_leantOn 20 = .ok (.ireturn, 1) := by decide +kernel
theorem dX1_addLeant_0 : decode cX1_addLeant 0 = .ok (.iload_n 1, 1) := by decide +kernel
theorem dX1_addLeant_1 : decode cX1_addLeant 1 = .ok (.ifCond .lt 19, 3) := by decide +kernel
theorem dX1_addLeant_4 : decode cX1_addLeant 4 = .ok (.iload_n 1, 1) := by decide +kernel
theorem dX1_addLeant_5 : decode cX1_addLeant 5 = .ok (.bipush 8, 2) := by decide +kernel
theorem dX1_addLeant_7 : decode cX1_addLeant 7 = .ok (.if_icmp .ge 13, 3) := by decide +kernel
theorem dX1_addLeant_10 : decode cX1_addLeant 10 = .ok (.aload_n 0, 1) := by decide +kernel
theorem dX1_addLeant_11 : decode cX1_addLeant 11 = .ok (.getfield 21, 3) := by decide +kernel
theorem dX1_addLeant_14 : decode cX1_addLeant 14 = .ok (.iload_n 1, 1) := by decide +kernel
theorem dX1_addLeant_15 : decode cX1_addLeant 15 = .ok (.dup2, 1) := by decide +kernel
theorem dX1_addLeant_16 : decode cX1_addLeant 16 = .ok (.iaload, 1) := by decide +kernel
theorem dX1_addLeant_17 : decode cX1_addLeant 17 = .ok (.iload_n 2, 1) := by decide +kernel
theorem dX1_addLeant_18 : decode cX1_addLeant 18 = .ok (.ior, 1) := by decide +kernel
theorem dX1_addLeant_19 : decode cX1_addLeant 19 = .ok (.iastore, 1) := by decide +kernel
theorem dX1_addLeant_20 : decode cX1_addLeant 20 = .ok (.return_, 1) := by decide +kernel
theorem dX1_addLean_0 : decode cX1_addLean 0 = .ok (.aload_n 0, 1) := by decide +kernel
theorem dX1_addLean_1 : decode cX1_addLean 1 = .ok (.iload_n 1, 1) := by decide +kernel
theorem dX1_addLean_2 : decode cX1_addLean 2 = .ok (.invokevirtual 90, 3) := by decide +kernel
theorem dX1_addLean_5 : decode cX1_addLean 5 = .ok (.ifCond .eq 70, 3) := by decide +kernel
theorem dX1_addLean_8 : decode cX1_addLean 8 = .ok (.aload_n 0, 1) := by decide +kernel
theorem dX1_addLean_9 : decode cX1_addLean 9 = .ok (.getfield 63, 3) := by decide +kernel
theorem dX1_addLean_12 : decode cX1_addLean 12 = .ok (.bipush 8, 2) := by decide +kernel
theorem dX1_addLean_14 : decode cX1_addLean 14 = .ok (.if_icmp .ge 61, 3) := by decide +kernel
theorem dX1_addLean_17 : decode cX1_addLean 17 = .ok (.aload_n 0, 1) := by decide +kernel
theorem dX1_addLean_18 : decode cX1_addLean 18 = .ok (.getfield 18, 3) := by decide +kernel
theorem dX1_addLean_21 : decode cX1_addLean 21 = .ok (.iconst 2, 1) := by decide +kernel
theorem dX1_addLean_22 : decode cX1_addLean 22 = .ok (.iload_n 1, 1) := by decide +kernel
theorem dX1_addLean_23 : decode cX1_addLean 23 = .ok (.imul, 1) := by decide +kernel
theorem dX1_addLean_24 : decode cX1_addLean 24 = .ok (.iload_n 2, 1) := by decide +kernel
theorem dX1_addLean_25 : decode cX1_addLean 25 = .ok (.iastore, 1) := by decide +kernel
theorem dX1_addLean_26 : decode cX1_addLean 26 = .ok (.aload_n 0, 1) := by decide +kernel
theorem dX1_addLean_27 : decode cX1_addLean 27 = .ok (.getfield 18, 3) := by decide +kernel
theorem dX1_addLean_30 : decode cX1_addLean 30 = .ok (.iconst 2, 1) := by decide +kernel
theorem dX1_addLean_31 : decode cX1_addLean 31 = .ok (.iload_n 1, 1) := by decide +kernel
theorem dX1_addLean_32 : decode cX1_addLean 32 = .ok (.imul, 1) := by decide +kernel
theorem dX1_addLean_33 : decode cX1_addLean 33 = .ok (.iconst 1, 1) := by decide +kernel
theorem dX1_addLean_34 : decode cX1_addLean 34 = .ok (.iadd, 1) := by decide +kernel
theorem dX1_addLean_35 : decode cX1_addLean 35 = .ok (.aload_n 0, 1) := by decide +kernel
theorem dX1_addLean_36 : decode cX1_addLean 36 = .ok (.getfield 42, 3) := by decide +kernel
theorem dX1_addLean_39 : decode cX1_addLean 39 = .ok (.getfield 87, 3) := by decide +kernel
theorem dX1_addLean_42 : decode cX1_addLean 42 = .ok (.iastore, 1) := by decide +kernel
theorem dX1_addLean_43 : decode cX1_addLean 43 = .ok (.aload_n 0, 1) := by decide +kernel
theorem dX1_addLean_44 : decode cX1_addLean 44 = .ok (.getfield 15, 3) := by decide +kernel
theorem dX1_addLean_47 : decode cX1_addLean 47 = .ok (.aload_n 0, 1) := by decide +kernel
theorem dX1_addLean_48 : decode cX1_addLean 48 = .ok (.getfield 63, 3) := by decide +kernel
theorem dX1_addLean_51 : decode cX1_addLean 51 = .ok (.iload_n 1, 1) := by decide +kernel
theorem dX1_addLean_52 : decode cX1_addLean 52 = .ok (.iastore, 1) := by decide +kernel
theorem dX1_addLean_53 : decode cX1_addLean 53 = .ok (.aload_n 0, 1) := by decide +kernel
theorem dX1_addLean_54 : decode cX1_addLean 54 = .ok (.dup, 1) := by decide +kernel
theorem dX1_addLean_55 : decode cX1_addLean 55 = .ok (.getfield 63, 3) := by decide +kernel
theorem dX1_addLean_58 : decode cX1_addLean 58 = .ok (.iconst 1, 1) := by decide +kernel
theorem dX1_addLean_59 : decode cX1_addLean 59 = .ok (.iadd, 1) := by decide +kernel
theorem dX1_addLean_60 : decode cX1_addLean 60 = .ok (.putfield 63, 3) := by decide +kernel
theorem dX1_addLean_63 : decode cX1_addLean 63 = .ok (.aload_n 0, 1) := by decide +kernel
theorem dX1_addLean_64 : decode cX1_addLean 64 = .ok (.dup, 1) := by decide +kernel
theorem dX1_addLean_65 : decode cX1_addLean 65 = .ok (.getfield 66, 3) := by decide +kernel
theorem dX1_addLean_68 : decode cX1_addLean 68 = .ok (.iconst 1, 1) := by decide +kernel
theorem dX1_addLean_69 : decode cX1_addLean 69 = .ok (.iload_n 1, 1) := by decide +kernel
theorem dX1_addLean_70 : decode cX1_addLean 70 = .ok (.ishl, 1) := by decide +kernel
theorem dX1_addLean_71 : decode cX1_addLean 71 = .ok (.ior, 1) := by decide +kernel
theorem dX1_addLean_72 : decode cX1_addLean 72 = .ok (.putfield 66, 3) := by decide +kernel
theorem dX1_addLean_75 : decode cX1_addLean 75 = .ok (.return_, 1) := by decide +kernel
theorem dX1_addPush_0 : decode cX1_addPush 0 = .ok (.aload_n 0, 1) := by decide +kernel
theorem dX1_addPush_1 : decode cX1_addPush 1 = .ok (.getfield 75, 3) := by decide +kernel
theorem dX1_addPush_4 : decode cX1_addPush 4 = .ok (.bipush 16, 2) := by decide +kernel
theorem dX1_addPush_6 : decode cX1_addPush 6 = .ok (.if_icmp .ge 33, 3) := by decide +kernel
theorem dX1_addPush_9 : decode cX1_addPush 9 = .ok (.aload_n 0, 1) := by decide +kernel
theorem dX1_addPush_10 : decode cX1_addPush 10 = .ok (.getfield 27, 3) := by decide +kernel
theorem dX1_addPush_13 : decode cX1_addPush 13 = .ok (.aload_n 0, 1) := by decide +kernel
theorem dX1_addPush_14 : decode cX1_addPush 14 = .ok (.getfield 75, 3) := by decide +kernel
theorem dX1_addPush_17 : decode cX1_addPush 17 = .ok (.iload_n 1, 1) := by decide +kernel
theorem dX1_addPush_18 : decode cX1_addPush 18 = .ok (.iastore, 1) := by decide +kernel
theorem dX1_addPush_19 : decode cX1_addPush 19 = .ok (.aload_n 0, 1) := by decide +kernel
theorem dX1_addPush_20 : decode cX1_addPush 20 = .ok (.getfield 30, 3) := by decide +kernel
theorem dX1_addPush_23 : decode cX1_addPush 23 = .ok (.aload_n 0, 1) := by decide +kernel
theorem dX1_addPush_24 : decode cX1_addPush 24 = .ok (.getfield 75, 3) := by decide +kernel
theorem dX1_addPush_27 : decode cX1_addPush 27 = .ok (.iload_n 2, 1) := by decide +kernel
theorem dX1_addPush_28 : decode cX1_addPush 28 = .ok (.iastore, 1) := by decide +kernel
theorem dX1_addPush_29 : decode cX1_addPush 29 = .ok (.aload_n 0, 1) := by decide +kernel
theorem dX1_addPush_30 : decode cX1_addPush 30 = .ok (.dup, 1) := by decide +kernel
theorem dX1_addPush_31 : decode cX1_addPush 31 = .ok (.getfield 75, 3) := by decide +kernel
theorem dX1_addPush_34 : decode cX1_addPush 34 = .ok (.iconst 1, 1) := by decide +kernel
theorem dX1_addPush_35 : decode cX1_addPush 35 = .ok (.iadd, 1) := by decide +kernel
theorem dX1_addPush_36 : decode cX1_addPush 36 = .ok (.putfield 75, 3) := by decide +kernel
theorem dX1_addPush_39 : decode cX1_addPush 39 = .ok (.return_, 1) := by decide +kernel
theorem dX1_addOil_0 : decode cX1_addOil 0 = .ok (.aload_n 0, 1) := by decide +kernel
theorem dX1_addOil_1 : decode cX1_addOil 1 = .ok (.getfield 78, 3) := by decide +kernel
theorem dX1_addOil_4 : decode cX1_addOil 4 = .ok (.iconst 4, 1) := by decide +kernel
theorem dX1_addOil_5 : decode cX1_addOil 5 = .ok (.if_icmp .ge 23, 3) := by decide +kernel
theorem dX1_addOil_8 : decode cX1_addOil 8 = .ok (.aload_n 0, 1) := by decide +kernel
theorem dX1_addOil_9 : decode cX1_addOil 9 = .ok (.getfield 33, 3) := by decide +kernel
theorem dX1_addOil_12 : decode cX1_addOil 12 = .ok (.aload_n 0, 1) := by decide +kernel
theorem dX1_addOil_13 : decode cX1_addOil 13 = .ok (.getfield 78, 3) := by decide +kernel
theorem dX1_addOil_16 : decode cX1_addOil 16 = .ok (.iload_n 1, 1) := by decide +kernel
theorem dX1_addOil_17 : decode cX1_addOil 17 = .ok (.iastore, 1) := by decide +kernel
theorem dX1_addOil_18 : decode cX1_addOil 18 = .ok (.aload_n 0, 1) := by decide +kernel
theorem dX1_addOil_19 : decode cX1_addOil 19 = .ok (.dup, 1) := by decide +kernel
theorem dX1_addOil_20 : decode cX1_addOil 20 = .ok (.getfield 78, 3) := by decide +kernel
theorem dX1_addOil_23 : decode cX1_addOil 23 = .ok (.iconst 1, 1) := by decide +kernel
theorem dX1_addOil_24 : decode cX1_addOil 24 = .ok (.iadd, 1) := by decide +kernel
theorem dX1_addOil_25 : decode cX1_addOil 25 = .ok (.putfield 78, 3) := by decide +kernel
theorem dX1_addOil_28 : decode cX1_addOil 28 = .ok (.return_, 1) := by decide +kernel
theorem dX1_oiled_0 : decode cX1_oiled 0 = .ok (.iconst 0, 1) := by decide +kernel
theorem dX1_oiled_1 : decode cX1_oiled 1 = .ok (.istore_n 2, 1) := by decide +kernel
theorem dX1_oiled_2 : decode cX1_oiled 2 = .ok (.iload_n 2, 1) := by decide +kernel
theorem dX1_oiled_3 : decode cX1_oiled 3 = .ok (.aload_n 0, 1) := by decide +kernel
theorem dX1_oiled_4 : decode cX1_oiled 4 = .ok (.getfield 78, 3) := by decide +kernel
theorem dX1_oiled_7 : decode cX1_oiled 7 = .ok (.if_icmp .ge 26, 3) := by decide +kernel
theorem dX1_oiled_10 : decode cX1_oiled 10 = .ok (.iload_n 2, 1) := by decide +kernel
theorem dX1_oiled_11 : decode cX1_oiled 11 = .ok (.iconst 4, 1) := by decide +kernel
theorem dX1_oiled_12 : decode cX1_oiled 12 = .ok (.if_icmp .ge 21, 3) := by decide +kernel
theorem dX1_oiled_15 : decode cX1_oiled 15 = .ok (.aload_n 0, 1) := by decide +kernel
theorem dX1_oiled_16 : decode cX1_oiled 16 = .ok (.getfield 33, 3) := by decide +kernel
theorem dX1_oiled_19 : decode cX1_oiled 19 = .ok (.iload_n 2, 1) := by decide +kernel
theorem dX1_oiled_20 : decode cX1_oiled 20 = .ok (.iaload, 1) := by decide +kernel
theorem dX1_oiled_21 : decode cX1_oiled 21 = .ok (.iload_n 1, 1) := by decide +kernel
theorem dX1_oiled_22 : decode cX1_oiled 22 = .ok (.if_icmp .ne 5, 3) := by decide +kernel
theorem dX1_oiled_25 : decode cX1_oiled 25 = .ok (.iconst 1, 1) := by decide +kernel
theorem dX1_oiled_26 : decode cX1_oiled 26 = .ok (.ireturn, 1) := by decide +kernel
theorem dX1_oiled_27 : decode cX1_oiled 27 = .ok (.iinc 2 1, 3) := by decide +kernel
theorem dX1_oiled_30 : decode cX1_oiled 30 = .ok (.goto (-28), 3) := by decide +kernel
theorem dX1_oiled_33 : decode cX1_oiled 33 = .ok (.iconst 0, 1) := by decide +kernel
theorem dX1_oiled_34 : decode cX1_oiled 34 = .ok (.ireturn, 1) := by decide +kernel
theorem dX1_hasLaw_0 : decode cX1_hasLaw 0 = .ok (.iload_n 1, 1) := by decide +kernel
theorem dX1_hasLaw_1 : decode cX1_hasLaw 1 = .ok (.ifCond .lt 33, 3) := by decide +kernel
theorem dX1_hasLaw_4 : decode cX1_hasLaw 4 = .ok (.iload_n 1, 1) := by decide +kernel
theorem dX1_hasLaw_5 : decode cX1_hasLaw 5 = .ok (.iconst 3, 1) := by decide +kernel
theorem dX1_hasLaw_6 : decode cX1_hasLaw 6 = .ok (.if_icmp .ge 28, 3) := by decide +kernel
theorem dX1_hasLaw_9 : decode cX1_hasLaw 9 = .ok (.aload_n 0, 1) := by decide +kernel
theorem dX1_hasLaw_10 : decode cX1_hasLaw 10 = .ok (.getfield 36, 3) := by decide +kernel
theorem dX1_hasLaw_13 : decode cX1_hasLaw 13 = .ok (.iconst 2, 1) := by decide +kernel
theorem dX1_hasLaw_14 : decode cX1_hasLaw 14 = .ok (.iload_n 1, 1) := by decide +kernel
theorem dX1_hasLaw_15 : decode cX1_hasLaw 15 = .ok (.imul, 1) := by decide +kernel
theorem dX1_hasLaw_16 : decode cX1_hasLaw 16 = .ok (.iconst 1, 1) := by decide +kernel
theorem dX1_hasLaw_17 : decode cX1_hasLaw 17 = .ok (.iadd, 1) := by decide +kernel
theorem dX1_hasLaw_18 : decode cX1_hasLaw 18 = .ok (.iaload, 1) := by decide +kernel
theorem dX1_hasLaw_19 : decode cX1_hasLaw 19 = .ok (.aload_n 0, 1) := by decide +kernel
theorem dX1_hasLaw_20 : decode cX1_hasLaw 20 = .ok (.getfield 36, 3) := by decide +kernel
theorem dX1_hasLaw_23 : decode cX1_hasLaw 23 = .ok (.iconst 2, 1) := by decide +kernel
theorem dX1_hasLaw_24 : decode cX1_hasLaw 24 = .ok (.iload_n 1, 1) := by decide +kernel
theorem dX1_hasLaw_25 : decode cX1_hasLaw 25 = .ok (.imul, 1) := by decide +kernel
theorem dX1_hasLaw_26 : decode cX1_hasLaw 26 = .ok (.iaload, 1) := by decide +kernel
theorem dX1_hasLaw_27 : decode cX1_hasLaw 27 = .ok (.if_icmp .le 7, 3) := by decide +kernel
theorem dX1_hasLaw_30 : decode cX1_hasLaw 30 = .ok (.iconst 1, 1) := by decide +kernel
theorem dX1_hasLaw_31 : decode cX1_hasLaw 31 = .ok (.goto 4, 3) := by decide +kernel
theorem dX1_hasLaw_34 : decode cX1_hasLaw 34 = .ok (.iconst 0, 1) := by decide +kernel
theorem dX1_hasLaw_35 : decode cX1_hasLaw 35 = .ok (.ireturn, 1) := by decide +kernel
theorem dX1_addLaw_0 : decode cX1_addLaw 0 = .ok (.iload_n 1, 1) := by decide +kernel
theorem dX1_addLaw_1 : decode cX1_addLaw 1 = .ok (.ifCond .lt 34, 3) := by decide +kernel
theorem dX1_addLaw_4 : decode cX1_addLaw 4 = .ok (.iload_n 1, 1) := by decide +kernel
theorem dX1_addLaw_5 : decode cX1_addLaw 5 = .ok (.iconst 3, 1) := by decide +kernel
theorem dX1_addLaw_6 : decode cX1_addLaw 6 = .ok (.if_icmp .ge 29, 3) := by decide +kernel
theorem dX1_addLaw_9 : decode cX1_addLaw 9 = .ok (.aload_n 0, 1) := by decide +kernel
theorem dX1_addLaw_10 : decode cX1_addLaw 10 = .ok (.getfield 36, 3) := by decide +kernel
theorem dX1_addLaw_13 : decode cX1_addLaw 13 = .ok (.iconst 2, 1) := by decide +kernel
theorem dX1_addLaw_14 : decode cX1_addLaw 14 = .ok (.iload_n 1, 1) := by decide +kernel
theorem dX1_addLaw_15 : decode cX1_addLaw 15 = .ok (.imul, 1) := by decide +kernel
theorem dX1_addLaw_16 : decode cX1_addLaw 16 = .ok (.iload_n 2, 1) := by decide +kernel
theorem dX1_addLaw_17 : decode cX1_addLaw 17 = .ok (.iastore, 1) := by decide +kernel
theorem dX1_addLaw_18 : decode cX1_addLaw 18 = .ok (.aload_n 0, 1) := by decide +kernel
theorem dX1_addLaw_19 : decode cX1_addLaw 19 = .ok (.getfield 36, 3) := by decide +kernel
theorem dX1_addLaw_22 : decode cX1_addLaw 22 = .ok (.iconst 2, 1) := by decide +kernel
theorem dX1_addLaw_23 : decode cX1_addLaw 23 = .ok (.iload_n 1, 1) := by decide +kernel
theorem dX1_addLaw_24 : decode cX1_addLaw 24 = .ok (.imul, 1) := by decide +kernel
theorem dX1_addLaw_25 : decode cX1_addLaw 25 = .ok (.iconst 1, 1) := by decide +kernel
theorem dX1_addLaw_26 : decode cX1_addLaw 26 = .ok (.iadd, 1) := by decide +kernel
theorem dX1_addLaw_27 : decode cX1_addLaw 27 = .ok (.aload_n 0, 1) := by decide +kernel
theorem dX1_addLaw_28 : decode cX1_addLaw 28 = .ok (.getfield 42, 3) := by decide +kernel
theorem dX1_addLaw_31 : decode cX1_addLaw 31 = .ok (.getfield 87, 3) := by decide +kernel
theorem dX1_addLaw_34 : decode cX1_addLaw 34 = .ok (.iastore, 1) := by decide +kernel
theorem dX1_addLaw_35 : decode cX1_addLaw 35 = .ok (.return_, 1) := by decide +kernel
theorem dX1_all_0 : decode cX1_all 0 = .ok (.iconst 1, 1) := by decide +kernel
theorem dX1_all_1 : decode cX1_all 1 = .ok (.aload_n 0, 1) := by decide +kernel
theorem dX1_all_2 : decode cX1_all 2 = .ok (.getfield 57, 3) := by decide +kernel
theorem dX1_all_5 : decode cX1_all 5 = .ok (.ishl, 1) := by decide +kernel
theorem dX1_all_6 : decode cX1_all 6 = .ok (.iconst 1, 1) := by decide +kernel
theorem dX1_all_7 : decode cX1_all 7 = .ok (.isub, 1) := by decide +kernel
theorem dX1_all_8 : decode cX1_all 8 = .ok (.ireturn, 1) := by decide +kernel
theorem dX1_settle_0 : decode cX1_settle 0 = .ok (.iconst 0, 1) := by decide +kernel
theorem dX1_settle_1 : decode cX1_settle 1 = .ok (.istore_n 1, 1) := by decide +kernel
theorem dX1_settle_2 : decode cX1_settle 2 = .ok (.iload_n 1, 1) := by decide +kernel
theorem dX1_settle_3 : decode cX1_settle 3 = .ok (.iconst 1, 1) := by decide +kernel
theorem dX1_settle_4 : decode cX1_settle 4 = .ok (.aload_n 0, 1) := by decide +kernel
theorem dX1_settle_5 : decode cX1_settle 5 = .ok (.getfield 57, 3) := by decide +kernel
theorem dX1_settle_8 : decode cX1_settle 8 = .ok (.ishl, 1) := by decide +kernel
theorem dX1_settle_9 : decode cX1_settle 9 = .ok (.if_icmp .ge 48, 3) := by decide +kernel
theorem dX1_settle_12 : decode cX1_settle 12 = .ok (.iload_n 1, 1) := by decide +kernel
theorem dX1_settle_13 : decode cX1_settle 13 = .ok (.sipush 256, 3) := by decide +kernel
theorem dX1_settle_16 : decode cX1_settle 16 = .ok (.if_icmp .ge 41, 3) := by decide +kernel
theorem dX1_settle_19 : decode cX1_settle 19 = .ok (.iload_n 1, 1) := by decide +kernel
theorem dX1_settle_20 : decode cX1_settle 20 = .ok (.invokestatic 94, 3) := by decide +kernel
theorem dX1_settle_23 : decode cX1_settle 23 = .ok (.istore_n 2, 1) := by decide +kernel
theorem dX1_settle_24 : decode cX1_settle 24 = .ok (.aload_n 0, 1) := by decide +kernel
theorem dX1_settle_25 : decode cX1_settle 25 = .ok (.getfield 24, 3) := by decide +kernel
theorem dX1_settle_28 : decode cX1_settle 28 = .ok (.iload_n 1, 1) := by decide +kernel
theorem dX1_settle_29 : decode cX1_settle 29 = .ok (.aload_n 0, 1) := by decide +kernel
theorem dX1_settle_30 : decode cX1_settle 30 = .ok (.iload_n 1, 1) := by decide +kernel
theorem dX1_settle_31 : decode cX1_settle 31 = .ok (.iload_n 2, 1) := by decide +kernel
theorem dX1_settle_32 : decode cX1_settle 32 = .ok (.invokevirtual 100, 3) := by decide +kernel
theorem dX1_settle_35 : decode cX1_settle 35 = .ok (.iload_n 1, 1) := by decide +kernel
theorem dX1_settle_36 : decode cX1_settle 36 = .ok (.iconst (-1), 1) := by decide +kernel
theorem dX1_settle_37 : decode cX1_settle 37 = .ok (.ixor, 1) := by decide +kernel
theorem dX1_settle_38 : decode cX1_settle 38 = .ok (.iand, 1) := by decide +kernel
theorem dX1_settle_39 : decode cX1_settle 39 = .ok (.aload_n 0, 1) := by decide +kernel
theorem dX1_settle_40 : decode cX1_settle 40 = .ok (.iload_n 1, 1) := by decide +kernel
theorem dX1_settle_41 : decode cX1_settle 41 = .ok (.iload_n 2, 1) := by decide +kernel
theorem dX1_settle_42 : decode cX1_settle 42 = .ok (.iconst 1, 1) := by decide +kernel
theorem dX1_settle_43 : decode cX1_settle 43 = .ok (.isub, 1) := by decide +kernel
theorem dX1_settle_44 : decode cX1_settle 44 = .ok (.invokevirtual 100, 3) := by decide +kernel
theorem dX1_settle_47 : decode cX1_settle 47 = .ok (.iload_n 1, 1) := by decide +kernel
theorem dX1_settle_48 : decode cX1_settle 48 = .ok (.iand, 1) := by decide +kernel
theorem dX1_settle_49 : decode cX1_settle 49 = .ok (.ior, 1) := by decide +kernel
theorem dX1_settle_50 : decode cX1_settle 50 = .ok (.iastore, 1) := by decide +kernel
theorem dX1_settle_51 : decode cX1_settle 51 = .ok (.iinc 1 1, 3) := by decide +kernel
theorem dX1_settle_54 : decode cX1_settle 54 = .ok (.goto (-52), 3) := by decide +kernel
theorem dX1_settle_57 : decode cX1_settle 57 = .ok (.return_, 1) := by decide +kernel
theorem dX1_openBy_0 : decode cX1_openBy 0 = .ok (.aload_n 0, 1) := by decide +kernel
theorem dX1_openBy_1 : decode cX1_openBy 1 = .ok (.getfield 49, 3) := by decide +kernel
theorem dX1_openBy_4 : decode cX1_openBy 4 = .ok (.iload_n 1, 1) := by decide +kernel
theorem dX1_openBy_5 : decode cX1_openBy 5 = .ok (.putfield 104, 3) := by decide +kernel
theorem dX1_openBy_8 : decode cX1_openBy 8 = .ok (.aload_n 0, 1) := by decide +kernel
theorem dX1_openBy_9 : decode cX1_openBy 9 = .ok (.getfield 49, 3) := by decide +kernel
theorem dX1_openBy_12 : decode cX1_openBy 12 = .ok (.iload_n 2, 1) := by decide +kernel
theorem dX1_openBy_13 : decode cX1_openBy 13 = .ok (.putfield 107, 3) := by decide +kernel
theorem dX1_openBy_16 : decode cX1_openBy 16 = .ok (.aload_n 0, 1) := by decide +kernel
theorem dX1_openBy_17 : decode cX1_openBy 17 = .ok (.getfield 49, 3) := by decide +kernel
theorem dX1_openBy_20 : decode cX1_openBy 20 = .ok (.aload_n 0, 1) := by decide +kernel
theorem dX1_openBy_21 : decode cX1_openBy 21 = .ok (.invokevirtual 110, 3) := by decide +kernel
theorem dX1_openBy_24 : decode cX1_openBy 24 = .ok (.aload_n 0, 1) := by decide +kernel
theorem dX1_openBy_25 : decode cX1_openBy 25 = .ok (.getfield 66, 3) := by decide +kernel
theorem dX1_openBy_28 : decode cX1_openBy 28 = .ok (.iconst (-1), 1) := by decide +kernel
theorem dX1_openBy_29 : decode cX1_openBy 29 = .ok (.ixor, 1) := by decide +kernel
theorem dX1_openBy_30 : decode cX1_openBy 30 = .ok (.iand, 1) := by decide +kernel
theorem dX1_openBy_31 : decode cX1_openBy 31 = .ok (.putfield 114, 3) := by decide +kernel
theorem dX1_openBy_34 : decode cX1_openBy 34 = .ok (.iconst 0, 1) := by decide +kernel
theorem dX1_openBy_35 : decode cX1_openBy 35 = .ok (.istore_n 3, 1) := by decide +kernel
theorem dX1_openBy_36 : decode cX1_openBy 36 = .ok (.iload_n 3, 1) := by decide +kernel
theorem dX1_openBy_37 : decode cX1_openBy 37 = .ok (.aload_n 0, 1) := by decide +kernel
theorem dX1_openBy_38 : decode cX1_openBy 38 = .ok (.getfield 63, 3) := by decide +kernel
theorem dX1_openBy_41 : decode cX1_openBy 41 = .ok (.if_icmp .ge 84, 3) := by decide +kernel
theorem dX1_openBy_44 : decode cX1_openBy 44 = .ok (.iload_n 3, 1) := by decide +kernel
theorem dX1_openBy_45 : decode cX1_openBy 45 = .ok (.bipush 8, 2) := by decide +kernel
theorem dX1_openBy_47 : decode cX1_openBy 47 = .ok (.if_icmp .ge 78, 3) := by decide +kernel
theorem dX1_openBy_50 : decode cX1_openBy 50 = .ok (.aload_n 0, 1) := by decide +kernel
theorem dX1_openBy_51 : decode cX1_openBy 51 = .ok (.getfield 15, 3) := by decide +kernel
theorem dX1_openBy_54 : decode cX1_openBy 54 = .ok (.iload_n 3, 1) := by decide +kernel
theorem dX1_openBy_55 : decode cX1_openBy 55 = .ok (.iaload, 1) := by decide +kernel
theorem dX1_openBy_56 : decode cX1_openBy 56 = .ok (.istore 4, 2) := by decide +kernel
theorem dX1_openBy_58 : decode cX1_openBy 58 = .ok (.aload_n 0, 1) := by decide +kernel
theorem dX1_openBy_59 : decode cX1_openBy 59 = .ok (.iload 4, 2) := by decide +kernel
theorem dX1_openBy_61 : decode cX1_openBy 61 = .ok (.invokevirtual 90, 3) := by decide +kernel
theorem dX1_openBy_64 : decode cX1_openBy 64 = .ok (.ifCond .eq 55, 3) := by decide +kernel
theorem dX1_openBy_67 : decode cX1_openBy 67 = .ok (.aload_n 0, 1) := by decide +kernel
theorem dX1_openBy_68 : decode cX1_openBy 68 = .ok (.getfield 42, 3) := by decide +kernel
theorem dX1_openBy_71 : decode cX1_openBy 71 = .ok (.aload_n 0, 1) := by decide +kernel
theorem dX1_openBy_72 : decode cX1_openBy 72 = .ok (.getfield 18, 3) := by decide +kernel
theorem dX1_openBy_75 : decode cX1_openBy 75 = .ok (.iconst 2, 1) := by decide +kernel
theorem dX1_openBy_76 : decode cX1_openBy 76 = .ok (.iload 4, 2) := by decide +kernel
theorem dX1_openBy_78 : decode cX1_openBy 78 = .ok (.imul, 1) := by decide +kernel
theorem dX1_openBy_79 : decode cX1_openBy 79 = .ok (.iaload, 1) := by decide +kernel
theorem dX1_openBy_80 : decode cX1_openBy 80 = .ok (.aload_n 0, 1) := by decide +kernel
theorem dX1_openBy_81 : decode cX1_openBy 81 = .ok (.getfield 18, 3) := by decide +kernel
theorem dX1_openBy_84 : decode cX1_openBy 84 = .ok (.iconst 2, 1) := by decide +kernel
theorem dX1_openBy_85 : decode cX1_openBy 85 = .ok (.iload 4, 2) := by decide +kernel
theorem dX1_openBy_87 : decode cX1_openBy 87 = .ok (.imul, 1) := by decide +kernel
theorem dX1_openBy_88 : decode cX1_openBy 88 = .ok (.iconst 1, 1) := by decide +kernel
theorem dX1_openBy_89 : decode cX1_openBy 89 = .ok (.iadd, 1) := by decide +kernel
theorem dX1_openBy_90 : decode cX1_openBy 90 = .ok (.iaload, 1) := by decide +kernel
theorem dX1_openBy_91 : decode cX1_openBy 91 = .ok (.aload_n 0, 1) := by decide +kernel
theorem dX1_openBy_92 : decode cX1_openBy 92 = .ok (.getfield 49, 3) := by decide +kernel
theorem dX1_openBy_95 : decode cX1_openBy 95 = .ok (.invokevirtual 116, 3) := by decide +kernel
theorem dX1_openBy_98 : decode cX1_openBy 98 = .ok (.lconst 0, 1) := by decide +kernel
theorem dX1_openBy_99 : decode cX1_openBy 99 = .ok (.lcmp, 1) := by decide +kernel
theorem dX1_openBy_100 : decode cX1_openBy 100 = .ok (.ifCond .eq 19, 3) := by decide +kernel
theorem dX1_openBy_103 : decode cX1_openBy 103 = .ok (.aload_n 0, 1) := by decide +kernel
theorem dX1_openBy_104 : decode cX1_openBy 104 = .ok (.getfield 49, 3) := by decide +kernel
theorem dX1_openBy_107 : decode cX1_openBy 107 = .ok (.dup, 1) := by decide +kernel
theorem dX1_openBy_108 : decode cX1_openBy 108 = .ok (.getfield 114, 3) := by decide +kernel
theorem dX1_openBy_111 : decode cX1_openBy 111 = .ok (.iconst 1, 1) := by decide +kernel
theorem dX1_openBy_112 : decode cX1_openBy 112 = .ok (.iload 4, 2) := by decide +kernel
theorem dX1_openBy_114 : decode cX1_openBy 114 = .ok (.ishl, 1) := by decide +kernel
theorem dX1_openBy_115 : decode cX1_openBy 115 = .ok (.ior, 1) := by decide +kernel
theorem dX1_openBy_116 : decode cX1_openBy 116 = .ok (.putfield 114, 3) := by decide +kernel
theorem dX1_openBy_119 : decode cX1_openBy 119 = .ok (.iinc 3 1, 3) := by decide +kernel
theorem dX1_openBy_122 : decode cX1_openBy 122 = .ok (.goto (-86), 3) := by decide +kernel
theorem dX1_openBy_125 : decode cX1_openBy 125 = .ok (.aload_n 0, 1) := by decide +kernel
theorem dX1_openBy_126 : decode cX1_openBy 126 = .ok (.getfield 49, 3) := by decide +kernel
theorem dX1_openBy_129 : decode cX1_openBy 129 = .ok (.getfield 114, 3) := by decide +kernel
theorem dX1_openBy_132 : decode cX1_openBy 132 = .ok (.ireturn, 1) := by decide +kernel
theorem dX1_movable_0 : decode cX1_movable 0 = .ok (.aload_n 0, 1) := by decide +kernel
theorem dX1_movable_1 : decode cX1_movable 1 = .ok (.iload_n 1, 1) := by decide +kernel
theorem dX1_movable_2 : decode cX1_movable 2 = .ok (.invokevirtual 120, 3) := by decide +kernel
theorem dX1_movable_5 : decode cX1_movable 5 = .ok (.ifCond .eq 16, 3) := by decide +kernel
theorem dX1_movable_8 : decode cX1_movable 8 = .ok (.aload_n 0, 1) := by decide +kernel
theorem dX1_movable_9 : decode cX1_movable 9 = .ok (.getfield 24, 3) := by decide +kernel
theorem dX1_movable_12 : decode cX1_movable 12 = .ok (.iload_n 1, 1) := by decide +kernel
theorem dX1_movable_13 : decode cX1_movable 13 = .ok (.iaload, 1) := by decide +kernel
theorem dX1_movable_14 : decode cX1_movable 14 = .ok (.iload_n 2, 1) := by decide +kernel
theorem dX1_movable_15 : decode cX1_movable 15 = .ok (.iconst (-1), 1) := by decide +kernel
theorem dX1_movable_16 : decode cX1_movable 16 = .ok (.ixor, 1) := by decide +kernel
theorem dX1_movable_17 : decode cX1_movable 17 = .ok (.iand, 1) := by decide +kernel
theorem dX1_movable_18 : decode cX1_movable 18 = .ok (.goto 4, 3) := by decide +kernel
theorem dX1_movable_21 : decode cX1_movable 21 = .ok (.iconst 0, 1) := by decide +kernel
theorem dX1_movable_22 : decode cX1_movable 22 = .ok (.ireturn, 1) := by decide +kernel
theorem dX2_init_0 : decode cX2_init 0 = .ok (.aload_n 0, 1) := by decide +kernel
theorem dX2_init_1 : decode cX2_init 1 = .ok (.invokespecial 3, 3) := by decide +kernel
theorem dX2_init_4 : decode cX2_init 4 = .ok (.aload_n 0, 1) := by decide +kernel
theorem dX2_init_5 : decode cX2_init 5 = .ok (.bipush 64, 2) := by decide +kernel
theorem dX2_init_7 : decode cX2_init 7 = .ok (.newarray .int, 2) := by decide +kernel
theorem dX2_init_9 : decode cX2_init 9 = .ok (.putfield 9, 3) := by decide +kernel
theorem dX2_init_12 : decode cX2_init 12 = .ok (.aload_n 0, 1) := by decide +kernel
theorem dX2_init_13 : decode cX2_init 13 = .ok (.bipush 64, 2) := by decide +kernel
theorem dX2_init_15 : decode cX2_init 15 = .ok (.newarray .int, 2) := by decide +kernel
theorem dX2_init_17 : decode cX2_init 17 = .ok (.putfield 15, 3) := by decide +kernel
theorem dX2_init_20 : decode cX2_init 20 = .ok (.aload_n 0, 1) := by decide +kernel
theorem dX2_init_21 : decode cX2_init 21 = .ok (.bipush 64, 2) := by decide +kernel
theorem dX2_init_23 : decode cX2_init 23 = .ok (.newarray .long, 2) := by decide +kernel
theorem dX2_init_25 : decode cX2_init 25 = .ok (.putfield 18, 3) := by decide +kernel
theorem dX2_init_28 : decode cX2_init 28 = .ok (.return_, 1) := by decide +kernel
theorem dX2_add_0 : decode cX2_add 0 = .ok (.aload_n 0, 1) := by decide +kernel
theorem dX2_add_1 : decode cX2_add 1 = .ok (.getfield 22, 3) := by decide +kernel
theorem dX2_add_4 : decode cX2_add 4 = .ok (.bipush 64, 2) := by decide +kernel
theorem dX2_add_6 : decode cX2_add 6 = .ok (.if_icmp .ge 33, 3) := by decide +kernel
theorem dX2_add_9 : decode cX2_add 9 = .ok (.aload_n 0, 1) := by decide +kernel
theorem dX2_add_10 : decode cX2_add 10 = .ok (.getfield 9, 3) := by decide +kernel
theorem dX2_add_13 : decode cX2_add 13 = .ok (.aload_n 0, 1) := by decide +kernel
theorem dX2_add_14 : decode cX2_add 14 = .ok (.getfield 22, 3) := by decide +kernel
theorem dX2_add_17 : decode cX2_add 17 = .ok (.iload_n 1, 1) := by decide +kernel
theorem dX2_add_18 : decode cX2_add 18 = .ok (.iastore, 1) := by decide +kernel
theorem dX2_add_19 : decode cX2_add 19 = .ok (.aload_n 0, 1) := by decide +kernel
theorem dX2_add_20 : decode cX2_add 20 = .ok (.getfield 15, 3) := by decide +kernel
theorem dX2_add_23 : decode cX2_add 23 = .ok (.aload_n 0, 1) := by decide +kernel
theorem dX2_add_24 : decode cX2_add 24 = .ok (.getfield 22, 3) := by decide +kernel
theorem dX2_add_27 : decode cX2_add 27 = .ok (.iload_n 2, 1) := by decide +kernel
theorem dX2_add_28 : decode cX2_add 28 = .ok (.iastore, 1) := by decide +kernel
theorem dX2_add_29 : decode cX2_add 29 = .ok (.aload_n 0, 1) := by decide +kernel
theorem dX2_add_30 : decode cX2_add 30 = .ok (.dup, 1) := by decide +kernel
theorem dX2_add_31 : decode cX2_add 31 = .ok (.getfield 22, 3) := by decide +kernel
theorem dX2_add_34 : decode cX2_add 34 = .ok (.iconst 1, 1) := by decide +kernel
theorem dX2_add_35 : decode cX2_add 35 = .ok (.iadd, 1) := by decide +kernel
theorem dX2_add_36 : decode cX2_add 36 = .ok (.putfield 22, 3) := by decide +kernel
theorem dX2_add_39 : decode cX2_add 39 = .ok (.return_, 1) := by decide +kernel
theorem dX2_worth_0 : decode cX2_worth 0 = .ok (.iload_n 1, 1) := by decide +kernel
theorem dX2_worth_1 : decode cX2_worth 1 = .ok (.ifCond .ge 7, 3) := by decide +kernel
theorem dX2_worth_4 : decode cX2_worth 4 = .ok (.ldc2_w 26, 3) := by decide +kernel
theorem dX2_worth_7 : decode cX2_worth 7 = .ok (.lreturn, 1) := by decide +kernel
theorem dX2_worth_8 : decode cX2_worth 8 = .ok (.iconst 0, 1) := by decide +kernel
theorem dX2_worth_9 : decode cX2_worth 9 = .ok (.istore 4, 2) := by decide +kernel
theorem dX2_worth_11 : decode cX2_worth 11 = .ok (.iload_n 1, 1) := by decide +kernel
theorem dX2_worth_12 : decode cX2_worth 12 = .ok (.istore 5, 2) := by decide +kernel
theorem dX2_worth_14 : decode cX2_worth 14 = .ok (.iload 5, 2) := by decide +kernel
theorem dX2_worth_16 : decode cX2_worth 16 = .ok (.iload_n 2, 1) := by decide +kernel
theorem dX2_worth_17 : decode cX2_worth 17 = .ok (.if_icmp .ge 183, 3) := by decide +kernel
theorem dX2_worth_20 : decode cX2_worth 20 = .ok (.iload 5, 2) := by decide +kernel
theorem dX2_worth_22 : decode cX2_worth 22 = .ok (.bipush 64, 2) := by decide +kernel
theorem dX2_worth_24 : decode cX2_worth 24 = .ok (.if_icmp .ge 176, 3) := by decide +kernel
theorem dX2_worth_27 : decode cX2_worth 27 = .ok (.aload_n 0, 1) := by decide +kernel
theorem dX2_worth_28 : decode cX2_worth 28 = .ok (.getfield 9, 3) := by decide +kernel
theorem dX2_worth_31 : decode cX2_worth 31 = .ok (.iload 5, 2) := by decide +kernel
theorem dX2_worth_33 : decode cX2_worth 33 = .ok (.iaload, 1) := by decide +kernel
theorem dX2_worth_34 : decode cX2_worth 34 = .ok (.invokestatic 28, 3) := by decide +kernel
theorem dX2_worth_37 : decode cX2_worth 37 = .ok (.istore 6, 2) := by decide +kernel
theorem dX2_worth_39 : decode cX2_worth 39 = .ok (.iload 4, 2) := by decide +kernel
theorem dX2_worth_41 : decode cX2_worth 41 = .ok (.iload 6, 2) := by decide +kernel
theorem dX2_worth_43 : decode cX2_worth 43 = .ok (.if_icmp .lt 10, 3) := by decide +kernel
theorem dX2_worth_46 : decode cX2_worth 46 = .ok (.iload 4, 2) := by decide +kernel
theorem dX2_worth_48 : decode cX2_worth 48 = .ok (.bipush 64, 2) := by decide +kernel
theorem dX2_worth_50 : decode cX2_worth 50 = .ok (.if_icmp .lt 7, 3) := by decide +kernel
theorem dX2_worth_53 : decode cX2_worth 53 = .ok (.ldc2_w 26, 3) := by decide +kernel
theorem dX2_worth_56 : decode cX2_worth 56 = .ok (.lreturn, 1) := by decide +kernel
theorem dX2_worth_57 : decode cX2_worth 57 = .ok (.iload 4, 2) := by decide +kernel
theorem dX2_worth_59 : decode cX2_worth 59 = .ok (.iload 6, 2) := by decide +kernel
theorem dX2_worth_61 : decode cX2_worth 61 = .ok (.isub, 1) := by decide +kernel
theorem dX2_worth_62 : decode cX2_worth 62 = .ok (.istore 4, 2) := by decide +kernel
theorem dX2_worth_64 : decode cX2_worth 64 = .ok (.iload 6, 2) := by decide +kernel
theorem dX2_worth_66 : decode cX2_worth 66 = .ok (.ifCond .ne 32, 3) := by decide +kernel
theorem dX2_worth_69 : decode cX2_worth 69 = .ok (.aload_n 0, 1) := by decide +kernel
theorem dX2_worth_70 : decode cX2_worth 70 = .ok (.getfield 18, 3) := by decide +kernel
theorem dX2_worth_73 : decode cX2_worth 73 = .ok (.iload 4, 2) := by decide +kernel
theorem dX2_worth_75 : decode cX2_worth 75 = .ok (.aload_n 3, 1) := by decide +kernel
theorem dX2_worth_76 : decode cX2_worth 76 = .ok (.aload_n 0, 1) := by decide +kernel
theorem dX2_worth_77 : decode cX2_worth 77 = .ok (.getfield 9, 3) := by decide +kernel
theorem dX2_worth_80 : decode cX2_worth 80 = .ok (.iload 5, 2) := by decide +kernel
theorem dX2_worth_82 : decode cX2_worth 82 = .ok (.iaload, 1) := by decide +kernel
theorem dX2_worth_83 : decode cX2_worth 83 = .ok (.aload_n 0, 1) := by decide +kernel
theorem dX2_worth_84 : decode cX2_worth 84 = .ok (.getfield 15, 3) := by decide +kernel
theorem dX2_worth_87 : decode cX2_worth 87 = .ok (.iload 5, 2) := by decide +kernel
theorem dX2_worth_89 : decode cX2_worth 89 = .ok (.iaload, 1) := by decide +kernel
theorem dX2_worth_90 : decode cX2_worth 90 = .ok (.invokevirtual 32, 3) := by decide +kernel
theorem dX2_worth_93 : decode cX2_worth 93 = .ok (.i2l, 1) := by decide +kernel
theorem dX2_worth_94 : decode cX2_worth 94 = .ok (.lastore, 1) := by decide +kernel
theorem dX2_worth_95 : decode cX2_worth 95 = .ok (.goto 78, 3) := by decide +kernel
theorem dX2_worth_98 : decode cX2_worth 98 = .ok (.iload 6, 2) := by decide +kernel
theorem dX2_worth_100 : decode cX2_worth 100 = .ok (.iconst 1, 1) := by decide +kernel
theorem dX2_worth_101 : decode cX2_worth 101 = .ok (.if_icmp .ne 30, 3) := by decide +kernel
theorem dX2_worth_104 : decode cX2_worth 104 = .ok (.aload_n 0, 1) := by decide +kernel
theorem dX2_worth_105 : decode cX2_worth 105 = .ok (.getfield 18, 3) := by decide +kernel
theorem dX2_worth_108 : decode cX2_worth 108 = .ok (.iload 4, 2) := by decide +kernel
theorem dX2_worth_110 : decode cX2_worth 110 = .ok (.aload_n 0, 1) := by decide +kernel
theorem dX2_worth_111 : decode cX2_worth 111 = .ok (.getfield 18, 3) := by decide +kernel
theorem dX2_worth_114 : decode cX2_worth 114 = .ok (.iload 4, 2) := by decide +kernel
theorem dX2_worth_116 : decode cX2_worth 116 = .ok (.laload, 1) := by decide +kernel
theorem dX2_worth_117 : decode cX2_worth 117 = .ok (.lconst 0, 1) := by decide +kernel
theorem dX2_worth_118 : decode cX2_worth 118 = .ok (.lcmp, 1) := by decide +kernel
theorem dX2_worth_119 : decode cX2_worth 119 = .ok (.ifCond .ne 7, 3) := by decide +kernel
theorem dX2_worth_122 : decode cX2_worth 122 = .ok (.lconst 1, 1) := by decide +kernel
theorem dX2_worth_123 : decode cX2_worth 123 = .ok (.goto 4, 3) := by decide +kernel
theorem dX2_worth_126 : decode cX2_worth 126 = .ok (.lconst 0, 1) := by decide +kernel
theorem dX2_worth_127 : decode cX2_worth 127 = .ok (.lastore, 1) := by decide +kernel
theorem dX2_worth_128 : decode cX2_worth 128 = .ok (.goto 45, 3) := by decide +kernel
theorem dX2_worth_131 : decode cX2_worth 131 = .ok (.iload 4, 2) := by decide +kernel
theorem dX2_worth_133 : decode cX2_worth 133 = .ok (.iconst 1, 1) := by decide +kernel
theorem dX2_worth_134 : decode cX2_worth 134 = .ok (.iadd, 1) := by decide +kernel
theorem dX2_worth_135 : decode cX2_worth 135 = .ok (.bipush 64, 2) := by decide +kernel
theorem dX2_worth_137 : decode cX2_worth 137 = .ok (.if_icmp .ge 36, 3) := by decide +kernel
theorem dX2_worth_140 : decode cX2_worth 140 = .ok (.aload_n 0, 1) := by decide +kernel
theorem dX2_worth_141 : decode cX2_worth 141 = .ok (.getfield 18, 3) := by decide +kernel
theorem dX2_worth_144 : decode cX2_worth 144 = .ok (.iload 4, 2) := by decide +kernel
theorem dX2_worth_146 : decode cX2_worth 146 = .ok (.aload_n 0, 1) := by decide +kernel
theorem dX2_worth_147 : decode cX2_worth 147 = .ok (.getfield 9, 3) := by decide +kernel
theorem dX2_worth_150 : decode cX2_worth 150 = .ok (.iload 5, 2) := by decide +kernel
theorem dX2_worth_152 : decode cX2_worth 152 = .ok (.iaload, 1) := by decide +kernel
theorem dX2_worth_153 : decode cX2_worth 153 = .ok (.aload_n 0, 1) := by decide +kernel
theorem dX2_worth_154 : decode cX2_worth 154 = .ok (.getfield 18, 3) := by decide +kernel
theorem dX2_worth_157 : decode cX2_worth 157 = .ok (.iload 4, 2) := by decide +kernel
theorem dX2_worth_159 : decode cX2_worth 159 = .ok (.laload, 1) := by decide +kernel
theorem dX2_worth_160 : decode cX2_worth 160 = .ok (.aload_n 0, 1) := by decide +kernel
theorem dX2_worth_161 : decode cX2_worth 161 = .ok (.getfield 18, 3) := by decide +kernel
theorem dX2_worth_164 : decode cX2_worth 164 = .ok (.iload 4, 2) := by decide +kernel
theorem dX2_worth_166 : decode cX2_worth 166 = .ok (.iconst 1, 1) := by decide +kernel
theorem dX2_worth_167 : decode cX2_worth 167 = .ok (.iadd, 1) := by decide +kernel
theorem dX2_worth_168 : decode cX2_worth 168 = .ok (.laload, 1) := by decide +kernel
theorem dX2_worth_169 : decode cX2_worth 169 = .ok (.invokestatic 38, 3) := by decide +kernel
theorem dX2_worth_172 : decode cX2_worth 172 = .ok (.lastore, 1) := by decide +kernel
theorem dX2_worth_173 : decode cX2_worth 173 = .ok (.aload_n 0, 1) := by decide +kernel
theorem dX2_worth_174 : decode cX2_worth 174 = .ok (.getfield 18, 3) := by decide +kernel
theorem dX2_worth_177 : decode cX2_worth 177 = .ok (.iload 4, 2) := by decide +kernel
theorem dX2_worth_179 : decode cX2_worth 179 = .ok (.laload, 1) := by decide +kernel
theorem dX2_worth_180 : decode cX2_worth 180 = .ok (.ldc2_w 26, 3) := by decide +kernel
theorem dX2_worth_183 : decode cX2_worth 183 = .ok (.lcmp, 1) := by decide +kernel
theorem dX2_worth_184 : decode cX2_worth 184 = .ok (.ifCond .ne 7, 3) := by decide +kernel
theorem dX2_worth_187 : decode cX2_worth 187 = .ok (.ldc2_w 26, 3) := by decide +kernel
theorem dX2_worth_190 : decode cX2_worth 190 = .ok (.lreturn, 1) := by decide +kernel
theorem dX2_worth_191 : decode cX2_worth 191 = .ok (.iinc 4 1, 3) := by decide +kernel
theorem dX2_worth_194 : decode cX2_worth 194 = .ok (.iinc 5 1, 3) := by decide +kernel
theorem dX2_worth_197 : decode cX2_worth 197 = .ok (.goto (-183), 3) := by decide +kernel
theorem dX2_worth_200 : decode cX2_worth 200 = .ok (.iload 4, 2) := by decide +kernel
theorem dX2_worth_202 : decode cX2_worth 202 = .ok (.iconst 1, 1) := by decide +kernel
theorem dX2_worth_203 : decode cX2_worth 203 = .ok (.if_icmp .ne 12, 3) := by decide +kernel
theorem dX2_worth_206 : decode cX2_worth 206 = .ok (.aload_n 0, 1) := by decide +kernel
theorem dX2_worth_207 : decode cX2_worth 207 = .ok (.getfield 18, 3) := by decide +kernel
theorem dX2_worth_210 : decode cX2_worth 210 = .ok (.iconst 0, 1) := by decide +kernel
theorem dX2_worth_211 : decode cX2_worth 211 = .ok (.laload, 1) := by decide +kernel
theorem dX2_worth_212 : decode cX2_worth 212 = .ok (.goto 6, 3) := by decide +kernel
theorem dX2_worth_215 : decode cX2_worth 215 = .ok (.ldc2_w 26, 3) := by decide +kernel
theorem dX2_worth_218 : decode cX2_worth 218 = .ok (.lreturn, 1) := by decide +kernel
theorem dX2_sidesOf_0 : decode cX2_sidesOf 0 = .ok (.iload_n 0, 1) := by decide +kernel
theorem dX2_sidesOf_1 : decode cX2_sidesOf 1 = .ok (.bipush 12, 2) := by decide +kernel
theorem dX2_sidesOf_3 : decode cX2_sidesOf 3 = .ok (.if_icmp .ne 5, 3) := by decide +kernel
theorem dX2_sidesOf_6 : decode cX2_sidesOf 6 = .ok (.iconst 1, 1) := by decide +kernel
theorem dX2_sidesOf_7 : decode cX2_sidesOf 7 = .ok (.ireturn, 1) := by decide +kernel
theorem dX2_sidesOf_8 : decode cX2_sidesOf 8 = .ok (.iload_n 0, 1) := by decide +kernel
theorem dX2_sidesOf_9 : decode cX2_sidesOf 9 = .ok (.invokestatic 42, 3) := by decide +kernel
theorem dX2_sidesOf_12 : decode cX2_sidesOf 12 = .ok (.ifCond .ne 7, 3) := by decide +kernel
theorem dX2_sidesOf_15 : decode cX2_sidesOf 15 = .ok (.iconst 0, 1) := by decide +kernel
theorem dX2_sidesOf_16 : decode cX2_sidesOf 16 = .ok (.goto 4, 3) := by decide +kernel
theorem dX2_sidesOf_19 : decode cX2_sidesOf 19 = .ok (.iconst 2, 1) := by decide +kernel
theorem dX2_sidesOf_20 : decode cX2_sidesOf 20 = .ok (.ireturn, 1) := by decide +kernel
theorem dX2_joined_0 : decode cX2_joined 0 = .ok (.iload_n 0, 1) := by decide +kernel
theorem dX2_joined_1 : decode cX2_joined 1 = .ok (.tableswitch 267 10 36 #[123, 141, 267, 267, 267, 267, 267, 267, 267, 267, 267, 267, 267, 267, 267, 267, 267, 159, 183, 219, 231, 238, 245, 251, 171, 195, 207], 123) := by decide +kernel
theorem dX2_joined_124 : decode cX2_joined 124 = .ok (.lload_n 1, 1) := by decide +kernel
theorem dX2_joined_125 : decode cX2_joined 125 = .ok (.lconst 0, 1) := by decide +kernel
theorem dX2_joined_126 : decode cX2_joined 126 = .ok (.lcmp, 1) := by decide +kernel
theorem dX2_joined_127 : decode cX2_joined 127 = .ok (.ifCond .ne 9, 3) := by decide +kernel
theorem dX2_joined_130 : decode cX2_joined 130 = .ok (.lload_n 3, 1) := by decide +kernel
theorem dX2_joined_131 : decode cX2_joined 131 = .ok (.lconst 0, 1) := by decide +kernel
theorem dX2_joined_132 : decode cX2_joined 132 = .ok (.lcmp, 1) := by decide +kernel
theorem dX2_joined_133 : decode cX2_joined 133 = .ok (.ifCond .eq 7, 3) := by decide +kernel
theorem dX2_joined_136 : decode cX2_joined 136 = .ok (.lconst 1, 1) := by decide +kernel
theorem dX2_joined_137 : decode cX2_joined 137 = .ok (.goto 4, 3) := by decide +kernel
theorem dX2_joined_140 : decode cX2_joined 140 = .ok (.lconst 0, 1) := by decide +kernel
theorem dX2_joined_141 : decode cX2_joined 141 = .ok (.lreturn, 1) := by decide +kernel
theorem dX2_joined_142 : decode cX2_joined 142 = .ok (.lload_n 1, 1) := by decide +kernel
theorem dX2_joined_143 : decode cX2_joined 143 = .ok (.lconst 0, 1) := by decide +kernel
theorem dX2_joined_144 : decode cX2_joined 144 = .ok (.lcmp, 1) := by decide +kernel
theorem dX2_joined_145 : decode cX2_joined 145 = .ok (.ifCond .eq 13, 3) := by decide +kernel
theorem dX2_joined_148 : decode cX2_joined 148 = .ok (.lload_n 3, 1) := by decide +kernel
theorem dX2_joined_149 : decode cX2_joined 149 = .ok (.lconst 0, 1) := by decide +kernel
theorem dX2_joined_150 : decode cX2_joined 150 = .ok (.lcmp, 1) := by decide +kernel
theorem dX2_joined_151 : decode cX2_joined 151 = .ok (.ifCond .eq 7, 3) := by decide +kernel
theorem dX2_joined_154 : decode cX2_joined 154 = .ok (.lconst 1, 1) := by decide +kernel
theorem dX2_joined_155 : decode cX2_joined 155 = .ok (.goto 4, 3) := by decide +kernel
theorem dX2_joined_158 : decode cX2_joined 158 = .ok (.lconst 0, 1) := by decide +kernel
theorem dX2_joined_159 : decode cX2_joined 159 = .ok (.lreturn, 1) := by decide +kernel
theorem dX2_joined_160 : decode cX2_joined 160 = .ok (.lload_n 1, 1) := by decide +kernel
theorem dX2_joined_161 : decode cX2_joined 161 = .ok (.lload_n 3, 1) := by decide +kernel
theorem dX2_joined_162 : decode cX2_joined 162 = .ok (.lcmp, 1) := by decide +kernel
theorem dX2_joined_163 : decode cX2_joined 163 = .ok (.ifCond .ge 7, 3) := by decide +kernel
theorem dX2_joined_166 : decode cX2_joined 166 = .ok (.lconst 1, 1) := by decide +kernel
theorem dX2_joined_167 : decode cX2_joined 167 = .ok (.goto 4, 3) := by decide +kernel
theorem dX2_joined_170 : decode cX2_joined 170 = .ok (.lconst 0, 1) := by decide +kernel
theorem dX2_joined_171 : decode cX2_joined 171 = .ok (.lreturn, 1) := by decide +kernel
theorem dX2_joined_172 : decode cX2_joined 172 = .ok (.lload_n 1, 1) := by decide +kernel
theorem dX2_joined_173 : decode cX2_joined 173 = .ok (.lload_n 3, 1) := by decide +kernel
theorem dX2_joined_174 : decode cX2_joined 174 = .ok (.lcmp, 1) := by decide +kernel
theorem dX2_joined_175 : decode cX2_joined 175 = .ok (.ifCond .gt 7, 3) := by decide +kernel
theorem dX2_joined_178 : decode cX2_joined 178 = .ok (.lconst 1, 1) := by decide +kernel
theorem dX2_joined_179 : decode cX2_joined 179 = .ok (.goto 4, 3) := by decide +kernel
theorem dX2_joined_182 : decode cX2_joined 182 = .ok (.lconst 0, 1) := by decide +kernel
theorem dX2_joined_183 : decode cX2_joined 183 = .ok (.lreturn, 1) := by decide +kernel
theorem dX2_joined_184 : decode cX2_joined 184 = .ok (.lload_n 1, 1) := by decide +kernel
theorem dX2_joined_185 : decode cX2_joined 185 = .ok (.lload_n 3, 1) := by decide +kernel
theorem dX2_joined_186 : decode cX2_joined 186 = .ok (.lcmp, 1) := by decide +kernel
theorem dX2_joined_187 : decode cX2_joined 187 = .ok (.ifCond .ne 7, 3) := by decide +kernel
theorem dX2_joined_190 : decode cX2_joined 190 = .ok (.lconst 1, 1) := by decide +kernel
theorem dX2_joined_191 : decode cX2_joined 191 = .ok (.goto 4, 3) := by decide +kernel
theorem dX2_joined_194 : decode cX2_joined 194 = .ok (.lconst 0, 1) := by decide +kernel
theorem dX2_joined_195 : decode cX2_joined 195 = .ok (.lreturn, 1) := by decide +kernel
theorem dX2_joined_196 : decode cX2_joined 196 = .ok (.lload_n 1, 1) := by decide +kernel
theorem dX2_joined_197 : decode cX2_joined 197 = .ok (.lload_n 3, 1) := by decide +kernel
theorem dX2_joined_198 : decode cX2_joined 198 = .ok (.lcmp, 1) := by decide +kernel
theorem dX2_joined_199 : decode cX2_joined 199 = .ok (.ifCond .eq 7, 3) := by decide +kernel
theorem dX2_joined_202 : decode cX2_joined 202 = .ok (.lconst 1, 1) := by decide +kernel
theorem dX2_joined_203 : decode cX2_joined 203 = .ok (.goto 4, 3) := by decide +kernel
theorem dX2_joined_206 : decode cX2_joined 206 = .ok (.lconst 0, 1) := by decide +kernel
theorem dX2_joined_207 : decode cX2_joined 207 = .ok (.lreturn, 1) := by decide +kernel
theorem dX2_joined_208 : decode cX2_joined 208 = .ok (.lload_n 1, 1) := by decide +kernel
theorem dX2_joined_209 : decode cX2_joined 209 = .ok (.lload_n 3, 1) := by decide +kernel
theorem dX2_joined_210 : decode cX2_joined 210 = .ok (.lcmp, 1) := by decide +kernel
theorem dX2_joined_211 : decode cX2_joined 211 = .ok (.ifCond .lt 7, 3) := by decide +kernel
theorem dX2_joined_214 : decode cX2_joined 214 = .ok (.lconst 1, 1) := by decide +kernel
theorem dX2_joined_215 : decode cX2_joined 215 = .ok (.goto 4, 3) := by decide +kernel
theorem dX2_joined_218 : decode cX2_joined 218 = .ok (.lconst 0, 1) := by decide +kernel
theorem dX2_joined_219 : decode cX2_joined 219 = .ok (.lreturn, 1) := by decide +kernel
theorem dX2_joined_220 : decode cX2_joined 220 = .ok (.lload_n 1, 1) := by decide +kernel
theorem dX2_joined_221 : decode cX2_joined 221 = .ok (.lload_n 3, 1) := by decide +kernel
theorem dX2_joined_222 : decode cX2_joined 222 = .ok (.lcmp, 1) := by decide +kernel
theorem dX2_joined_223 : decode cX2_joined 223 = .ok (.ifCond .le 7, 3) := by decide +kernel
theorem dX2_joined_226 : decode cX2_joined 226 = .ok (.lconst 1, 1) := by decide +kernel
theorem dX2_joined_227 : decode cX2_joined 227 = .ok (.goto 4, 3) := by decide +kernel
theorem dX2_joined_230 : decode cX2_joined 230 = .ok (.lconst 0, 1) := by decide +kernel
theorem dX2_joined_231 : decode cX2_joined 231 = .ok (.lreturn, 1) := by decide +kernel
theorem dX2_joined_232 : decode cX2_joined 232 = .ok (.lload_n 1, 1) := by decide +kernel
theorem dX2_joined_233 : decode cX2_joined 233 = .ok (.lload_n 3, 1) := by decide +kernel
theorem dX2_joined_234 : decode cX2_joined 234 = .ok (.ladd, 1) := by decide +kernel
theorem dX2_joined_235 : decode cX2_joined 235 = .ok (.invokestatic 45, 3) := by decide +kernel
theorem dX2_joined_238 : decode cX2_joined 238 = .ok (.lreturn, 1) := by decide +kernel
theorem dX2_joined_239 : decode cX2_joined 239 = .ok (.lload_n 1, 1) := by decide +kernel
theorem dX2_joined_240 : decode cX2_joined 240 = .ok (.lload_n 3, 1) := by decide +kernel
theorem dX2_joined_241 : decode cX2_joined 241 = .ok (.lsub, 1) := by decide +kernel
theorem dX2_joined_242 : decode cX2_joined 242 = .ok (.invokestatic 45, 3) := by decide +kernel
theorem dX2_joined_245 : decode cX2_joined 245 = .ok (.lreturn, 1) := by decide +kernel
theorem dX2_joined_246 : decode cX2_joined 246 = .ok (.lload_n 1, 1) := by decide +kernel
theorem dX2_joined_247 : decode cX2_joined 247 = .ok (.lload_n 3, 1) := by decide +kernel
theorem dX2_joined_248 : decode cX2_joined 248 = .ok (.invokestatic 49, 3) := by decide +kernel
theorem dX2_joined_251 : decode cX2_joined 251 = .ok (.lreturn, 1) := by decide +kernel
theorem dX2_joined_252 : decode cX2_joined 252 = .ok (.lload_n 3, 1) := by decide +kernel
theorem dX2_joined_253 : decode cX2_joined 253 = .ok (.lconst 0, 1) := by decide +kernel
theorem dX2_joined_254 : decode cX2_joined 254 = .ok (.lcmp, 1) := by decide +kernel
theorem dX2_joined_255 : decode cX2_joined 255 = .ok (.ifCond .ne 9, 3) := by decide +kernel
theorem dX2_joined_258 : decode cX2_joined 258 = .ok (.ldc2_w 26, 3) := by decide +kernel
theorem dX2_joined_261 : decode cX2_joined 261 = .ok (.goto 6, 3) := by decide +kernel
theorem dX2_joined_264 : decode cX2_joined 264 = .ok (.lload_n 1, 1) := by decide +kernel
theorem dX2_joined_265 : decode cX2_joined 265 = .ok (.lload_n 3, 1) := by decide +kernel
theorem dX2_joined_266 : decode cX2_joined 266 = .ok (.ldiv, 1) := by decide +kernel
theorem dX2_joined_267 : decode cX2_joined 267 = .ok (.lreturn, 1) := by decide +kernel
theorem dX2_joined_268 : decode cX2_joined 268 = .ok (.ldc2_w 26, 3) := by decide +kernel
theorem dX2_joined_271 : decode cX2_joined 271 = .ok (.lreturn, 1) := by decide +kernel
theorem dX2_within_0 : decode cX2_within 0 = .ok (.lload_n 0, 1) := by decide +kernel
theorem dX2_within_1 : decode cX2_within 1 = .ok (.ldc2_w 53, 3) := by decide +kernel
theorem dX2_within_4 : decode cX2_within 4 = .ok (.lcmp, 1) := by decide +kernel
theorem dX2_within_5 : decode cX2_within 5 = .ok (.ifCond .gt 11, 3) := by decide +kernel
theorem dX2_within_8 : decode cX2_within 8 = .ok (.lload_n 0, 1) := by decide +kernel
theorem dX2_within_9 : decode cX2_within 9 = .ok (.ldc2_w 55, 3) := by decide +kernel
theorem dX2_within_12 : decode cX2_within 12 = .ok (.lcmp, 1) := by decide +kernel
theorem dX2_within_13 : decode cX2_within 13 = .ok (.ifCond .ge 9, 3) := by decide +kernel
theorem dX2_within_16 : decode cX2_within 16 = .ok (.ldc2_w 26, 3) := by decide +kernel
theorem dX2_within_19 : decode cX2_within 19 = .ok (.goto 4, 3) := by decide +kernel
theorem dX2_within_22 : decode cX2_within 22 = .ok (.lload_n 0, 1) := by decide +kernel
theorem dX2_within_23 : decode cX2_within 23 = .ok (.lreturn, 1) := by decide +kernel
theorem dX2_product_0 : decode cX2_product 0 = .ok (.lload_n 0, 1) := by decide +kernel
theorem dX2_product_1 : decode cX2_product 1 = .ok (.lconst 0, 1) := by decide +kernel
theorem dX2_product_2 : decode cX2_product 2 = .ok (.lcmp, 1) := by decide +kernel
theorem dX2_product_3 : decode cX2_product 3 = .ok (.ifCond .ge 8, 3) := by decide +kernel
theorem dX2_product_6 : decode cX2_product 6 = .ok (.lload_n 0, 1) := by decide +kernel
theorem dX2_product_7 : decode cX2_product 7 = .ok (.lneg, 1) := by decide +kernel
theorem dX2_product_8 : decode cX2_product 8 = .ok (.goto 4, 3) := by decide +kernel
theorem dX2_product_11 : decode cX2_product 11 = .ok (.lload_n 0, 1) := by decide +kernel
theorem dX2_product_12 : decode cX2_product 12 = .ok (.lstore 4, 2) := by decide +kernel
theorem dX2_product_14 : decode cX2_product 14 = .ok (.lload_n 2, 1) := by decide +kernel
theorem dX2_product_15 : decode cX2_product 15 = .ok (.lconst 0, 1) := by decide +kernel
theorem dX2_product_16 : decode cX2_product 16 = .ok (.lcmp, 1) := by decide +kernel
theorem dX2_product_17 : decode cX2_product 17 = .ok (.ifCond .ge 8, 3) := by decide +kernel
theorem dX2_product_20 : decode cX2_product 20 = .ok (.lload_n 2, 1) := by decide +kernel
theorem dX2_product_21 : decode cX2_product 21 = .ok (.lneg, 1) := by decide +kernel
theorem dX2_product_22 : decode cX2_product 22 = .ok (.goto 4, 3) := by decide +kernel
theorem dX2_product_25 : decode cX2_product 25 = .ok (.lload_n 2, 1) := by decide +kernel
theorem dX2_product_26 : decode cX2_product 26 = .ok (.lstore 6, 2) := by decide +kernel
theorem dX2_product_28 : decode cX2_product 28 = .ok (.lload 4, 2) := by decide +kernel
theorem dX2_product_30 : decode cX2_product 30 = .ok (.lconst 0, 1) := by decide +kernel
theorem dX2_product_31 : decode cX2_product 31 = .ok (.lcmp, 1) := by decide +kernel
theorem dX2_product_32 : decode cX2_product 32 = .ok (.ifCond .eq 21, 3) := by decide +kernel
theorem dX2_product_35 : decode cX2_product 35 = .ok (.lload 6, 2) := by decide +kernel
theorem dX2_product_37 : decode cX2_product 37 = .ok (.ldc2_w 53, 3) := by decide +kernel
theorem dX2_product_40 : decode cX2_product 40 = .ok (.lload 4, 2) := by decide +kernel
theorem dX2_product_42 : decode cX2_product 42 = .ok (.ldiv, 1) := by decide +kernel
theorem dX2_product_43 : decode cX2_product 43 = .ok (.lcmp, 1) := by decide +kernel
theorem dX2_product_44 : decode cX2_product 44 = .ok (.ifCond .le 9, 3) := by decide +kernel
theorem dX2_product_47 : decode cX2_product 47 = .ok (.ldc2_w 26, 3) := by decide +kernel
theorem dX2_product_50 : decode cX2_product 50 = .ok (.goto 6, 3) := by decide +kernel
theorem dX2_product_53 : decode cX2_product 53 = .ok (.lload_n 0, 1) := by decide +kernel
theorem dX2_product_54 : decode cX2_product 54 = .ok (.lload_n 2, 1) := by decide +kernel
theorem dX2_product_55 : decode cX2_product 55 = .ok (.lmul, 1) := by decide +kernel
theorem dX2_product_56 : decode cX2_product 56 = .ok (.lreturn, 1) := by decide +kernel
theorem dX3_init_0 : decode cX3_init 0 = .ok (.aload_n 0, 1) := by decide +kernel
theorem dX3_init_1 : decode cX3_init 1 = .ok (.invokespecial 3, 3) := by decide +kernel
theorem dX3_init_4 : decode cX3_init 4 = .ok (.aload_n 0, 1) := by decide +kernel
theorem dX3_init_5 : decode cX3_init 5 = .ok (.bipush 24, 2) := by decide +kernel
theorem dX3_init_7 : decode cX3_init 7 = .ok (.newarray .int, 2) := by decide +kernel
theorem dX3_init_9 : decode cX3_init 9 = .ok (.putfield 9, 3) := by decide +kernel
theorem dX3_init_12 : decode cX3_init 12 = .ok (.aload_n 0, 1) := by decide +kernel
theorem dX3_init_13 : decode cX3_init 13 = .ok (.bipush 24, 2) := by decide +kernel
theorem dX3_init_15 : decode cX3_init 15 = .ok (.newarray .int, 2) := by decide +kernel
theorem dX3_init_17 : decode cX3_init 17 = .ok (.putfield 15, 3) := by decide +kernel
theorem dX3_init_20 : decode cX3_init 20 = .ok (.aload_n 0, 1) := by decide +kernel
theorem dX3_init_21 : decode cX3_init 21 = .ok (.bipush 24, 2) := by decide +kernel
theorem dX3_init_23 : decode cX3_init 23 = .ok (.newarray .boolean, 2) := by decide +kernel
theorem dX3_init_25 : decode cX3_init 25 = .ok (.putfield 18, 3) := by decide +kernel
theorem dX3_init_28 : decode cX3_init 28 = .ok (.aload_n 0, 1) := by decide +kernel
theorem dX3_init_29 : decode cX3_init 29 = .ok (.bipush 24, 2) := by decide +kernel
theorem dX3_init_31 : decode cX3_init 31 = .ok (.newarray .boolean, 2) := by decide +kernel
theorem dX3_init_33 : decode cX3_init 33 = .ok (.putfield 22, 3) := by decide +kernel
theorem dX3_init_36 : decode cX3_init 36 = .ok (.aload_n 0, 1) := by decide +kernel
theorem dX3_init_37 : decode cX3_init 37 = .ok (.iconst (-1), 1) := by decide +kernel
theorem dX3_init_38 : decode cX3_init 38 = .ok (.putfield 25, 3) := by decide +kernel
theorem dX3_init_41 : decode cX3_init 41 = .ok (.return_, 1) := by decide +kernel
theorem dX3_clear_0 : decode cX3_clear 0 = .ok (.aload_n 0, 1) := by decide +kernel
theorem dX3_clear_1 : decode cX3_clear 1 = .ok (.iconst 0, 1) := by decide +kernel
theorem dX3_clear_2 : decode cX3_clear 2 = .ok (.putfield 29, 3) := by decide +kernel
theorem dX3_clear_5 : decode cX3_clear 5 = .ok (.aload_n 0, 1) := by decide +kernel
theorem dX3_clear_6 : decode cX3_clear 6 = .ok (.iconst (-1), 1) := by decide +kernel
theorem dX3_clear_7 : decode cX3_clear 7 = .ok (.putfield 25, 3) := by decide +kernel
theorem dX3_clear_10 : decode cX3_clear 10 = .ok (.return_, 1) := by decide +kernel
theorem dX3_add_0 : decode cX3_add 0 = .ok (.aload_n 0, 1) := by decide +kernel
theorem dX3_add_1 : decode cX3_add 1 = .ok (.getfield 29, 3) := by decide +kernel
theorem dX3_add_4 : decode cX3_add 4 = .ok (.bipush 24, 2) := by decide +kernel
theorem dX3_add_6 : decode cX3_add 6 = .ok (.if_icmp .lt 5, 3) := by decide +kernel
theorem dX3_add_9 : decode cX3_add 9 = .ok (.iconst (-1), 1) := by decide +kernel
theorem dX3_add_10 : decode cX3_add 10 = .ok (.ireturn, 1) := by decide +kernel
theorem dX3_add_11 : decode cX3_add 11 = .ok (.aload_n 0, 1) := by decide +kernel
theorem dX3_add_12 : decode cX3_add 12 = .ok (.getfield 9, 3) := by decide +kernel
theorem dX3_add_15 : decode cX3_add 15 = .ok (.aload_n 0, 1) := by decide +kernel
theorem dX3_add_16 : decode cX3_add 16 = .ok (.getfield 29, 3) := by decide +kernel
theorem dX3_add_19 : decode cX3_add 19 = .ok (.iload_n 1, 1) := by decide +kernel
theorem dX3_add_20 : decode cX3_add 20 = .ok (.iastore, 1) := by decide +kernel
theorem dX3_add_21 : decode cX3_add 21 = .ok (.aload_n 0, 1) := by decide +kernel
theorem dX3_add_22 : decode cX3_add 22 = .ok (.getfield 15, 3) := by decide +kernel
theorem dX3_add_25 : decode cX3_add 25 = .ok (.aload_n 0, 1) := by decide +kernel
theorem dX3_add_26 : decode cX3_add 26 = .ok (.getfield 29, 3) := by decide +kernel
theorem dX3_add_29 : decode cX3_add 29 = .ok (.iload_n 2, 1) := by decide +kernel
theorem dX3_add_30 : decode cX3_add 30 = .ok (.iastore, 1) := by decide +kernel
theorem dX3_add_31 : decode cX3_add 31 = .ok (.aload_n 0, 1) := by decide +kernel
theorem dX3_add_32 : decode cX3_add 32 = .ok (.getfield 18, 3) := by decide +kernel
theorem dX3_add_35 : decode cX3_add 35 = .ok (.aload_n 0, 1) := by decide +kernel
theorem dX3_add_36 : decode cX3_add 36 = .ok (.getfield 29, 3) := by decide +kernel
theorem dX3_add_39 : decode cX3_add 39 = .ok (.iload_n 3, 1) := by decide +kernel
theorem dX3_add_40 : decode cX3_add 40 = .ok (.bastore, 1) := by decide +kernel
theorem dX3_add_41 : decode cX3_add 41 = .ok (.aload_n 0, 1) := by decide +kernel
theorem dX3_add_42 : decode cX3_add 42 = .ok (.dup, 1) := by decide +kernel
theorem dX3_add_43 : decode cX3_add 43 = .ok (.getfield 29, 3) := by decide +kernel
theorem dX3_add_46 : decode cX3_add 46 = .ok (.iconst 1, 1) := by decide +kernel
theorem dX3_add_47 : decode cX3_add 47 = .ok (.iadd, 1) := by decide +kernel
theorem dX3_add_48 : decode cX3_add 48 = .ok (.putfield 29, 3) := by decide +kernel
theorem dX3_add_51 : decode cX3_add 51 = .ok (.aload_n 0, 1) := by decide +kernel
theorem dX3_add_52 : decode cX3_add 52 = .ok (.getfield 29, 3) := by decide +kernel
theorem dX3_add_55 : decode cX3_add 55 = .ok (.iconst 1, 1) := by decide +kernel
theorem dX3_add_56 : decode cX3_add 56 = .ok (.isub, 1) := by decide +kernel
theorem dX3_add_57 : decode cX3_add 57 = .ok (.ireturn, 1) := by decide +kernel
theorem dX3_counted_0 : decode cX3_counted 0 = .ok (.aload_n 0, 1) := by decide +kernel
theorem dX3_counted_1 : decode cX3_counted 1 = .ok (.getfield 25, 3) := by decide +kernel
theorem dX3_counted_4 : decode cX3_counted 4 = .ok (.iconst (-1), 1) := by decide +kernel
theorem dX3_counted_5 : decode cX3_counted 5 = .ok (.if_icmp .ne 10, 3) := by decide +kernel
theorem dX3_counted_8 : decode cX3_counted 8 = .ok (.aload_n 0, 1) := by decide +kernel
theorem dX3_counted_9 : decode cX3_counted 9 = .ok (.getfield 29, 3) := by decide +kernel
theorem dX3_counted_12 : decode cX3_counted 12 = .ok (.goto 14, 3) := by decide +kernel
theorem dX3_counted_15 : decode cX3_counted 15 = .ok (.aload_n 0, 1) := by decide +kernel
theorem dX3_counted_16 : decode cX3_counted 16 = .ok (.getfield 25, 3) := by decide +kernel
theorem dX3_counted_19 : decode cX3_counted 19 = .ok (.aload_n 0, 1) := by decide +kernel
theorem dX3_counted_20 : decode cX3_counted 20 = .ok (.getfield 29, 3) := by decide +kernel
theorem dX3_counted_23 : decode cX3_counted 23 = .ok (.invokestatic 32, 3) := by decide +kernel
theorem dX3_counted_26 : decode cX3_counted 26 = .ok (.ireturn, 1) := by decide +kernel
theorem dX3_settleStrikes_0 : decode cX3_settleStrikes 0 = .ok (.iconst 0, 1) := by decide +kernel
theorem dX3_settleStrikes_1 : decode cX3_settleStrikes 1 = .ok (.istore_n 2, 1) := by decide +kernel
theorem dX3_settleStrikes_2 : decode cX3_settleStrikes 2 = .ok (.iload_n 2, 1) := by decide +kernel
theorem dX3_settleStrikes_3 : decode cX3_settleStrikes 3 = .ok (.bipush 24, 2) := by decide +kernel
theorem dX3_settleStrikes_5 : decode cX3_settleStrikes 5 = .ok (.if_icmp .ge 16, 3) := by decide +kernel
theorem dX3_settleStrikes_8 : decode cX3_settleStrikes 8 = .ok (.aload_n 0, 1) := by decide +kernel
theorem dX3_settleStrikes_9 : decode cX3_settleStrikes 9 = .ok (.getfield 22, 3) := by decide +kernel
theorem dX3_settleStrikes_12 : decode cX3_settleStrikes 12 = .ok (.iload_n 2, 1) := by decide +kernel
theorem dX3_settleStrikes_13 : decode cX3_settleStrikes 13 = .ok (.iconst 0, 1) := by decide +kernel
theorem dX3_settleStrikes_14 : decode cX3_settleStrikes 14 = .ok (.bastore, 1) := by decide +kernel
theorem dX3_settleStrikes_15 : decode cX3_settleStrikes 15 = .ok (.iinc 2 1, 3) := by decide +kernel
theorem dX3_settleStrikes_18 : decode cX3_settleStrikes 18 = .ok (.goto (-16), 3) := by decide +kernel
theorem dX3_settleStrikes_21 : decode cX3_settleStrikes 21 = .ok (.iload_n 1, 1) := by decide +kernel
theorem dX3_settleStrikes_22 : decode cX3_settleStrikes 22 = .ok (.iconst 1, 1) := by decide +kernel
theorem dX3_settleStrikes_23 : decode cX3_settleStrikes 23 = .ok (.isub, 1) := by decide +kernel
theorem dX3_settleStrikes_24 : decode cX3_settleStrikes 24 = .ok (.istore_n 2, 1) := by decide +kernel
theorem dX3_settleStrikes_25 : decode cX3_settleStrikes 25 = .ok (.iload_n 2, 1) := by decide +kernel
theorem dX3_settleStrikes_26 : decode cX3_settleStrikes 26 = .ok (.ifCond .lt 52, 3) := by decide +kernel
theorem dX3_settleStrikes_29 : decode cX3_settleStrikes 29 = .ok (.aload_n 0, 1) := by decide +kernel
theorem dX3_settleStrikes_30 : decode cX3_settleStrikes 30 = .ok (.getfield 15, 3) := by decide +kernel
theorem dX3_settleStrikes_33 : decode cX3_settleStrikes 33 = .ok (.iload_n 2, 1) := by decide +kernel
theorem dX3_settleStrikes_34 : decode cX3_settleStrikes 34 = .ok (.iaload, 1) := by decide +kernel
theorem dX3_settleStrikes_35 : decode cX3_settleStrikes 35 = .ok (.istore_n 3, 1) := by decide +kernel
theorem dX3_settleStrikes_36 : decode cX3_settleStrikes 36 = .ok (.aload_n 0, 1) := by decide +kernel
theorem dX3_settleStrikes_37 : decode cX3_settleStrikes 37 = .ok (.getfield 9, 3) := by decide +kernel
theorem dX3_settleStrikes_40 : decode cX3_settleStrikes 40 = .ok (.iload_n 2, 1) := by decide +kernel
theorem dX3_settleStrikes_41 : decode cX3_settleStrikes 41 = .ok (.iaload, 1) := by decide +kernel
theorem dX3_settleStrikes_42 : decode cX3_settleStrikes 42 = .ok (.iconst (-1), 1) := by decide +kernel
theorem dX3_settleStrikes_43 : decode cX3_settleStrikes 43 = .ok (.if_icmp .ne 29, 3) := by decide +kernel
theorem dX3_settleStrikes_46 : decode cX3_settleStrikes 46 = .ok (.aload_n 0, 1) := by decide +kernel
theorem dX3_settleStrikes_47 : decode cX3_settleStrikes 47 = .ok (.getfield 22, 3) := by decide +kernel
theorem dX3_settleStrikes_50 : decode cX3_settleStrikes 50 = .ok (.iload_n 2, 1) := by decide +kernel
theorem dX3_settleStrikes_51 : decode cX3_settleStrikes 51 = .ok (.baload, 1) := by decide +kernel
theorem dX3_settleStrikes_52 : decode cX3_settleStrikes 52 = .ok (.ifCond .ne 20, 3) := by decide +kernel
theorem dX3_settleStrikes_55 : decode cX3_settleStrikes 55 = .ok (.iload_n 3, 1) := by decide +kernel
theorem dX3_settleStrikes_56 : decode cX3_settleStrikes 56 = .ok (.ifCond .lt 16, 3) := by decide +kernel
theorem dX3_settleStrikes_59 : decode cX3_settleStrikes 59 = .ok (.iload_n 3, 1) := by decide +kernel
theorem dX3_settleStrikes_60 : decode cX3_settleStrikes 60 = .ok (.bipush 24, 2) := by decide +kernel
theorem dX3_settleStrikes_62 : decode cX3_settleStrikes 62 = .ok (.if_icmp .ge 10, 3) := by decide +kernel
theorem dX3_settleStrikes_65 : decode cX3_settleStrikes 65 = .ok (.aload_n 0, 1) := by decide +kernel
theorem dX3_settleStrikes_66 : decode cX3_settleStrikes 66 = .ok (.getfield 22, 3) := by decide +kernel
theorem dX3_settleStrikes_69 : decode cX3_settleStrikes 69 = .ok (.iload_n 3, 1) := by decide +kernel
theorem dX3_settleStrikes_70 : decode cX3_settleStrikes 70 = .ok (.iconst 1, 1) := by decide +kernel
theorem dX3_settleStrikes_71 : decode cX3_settleStrikes 71 = .ok (.bastore, 1) := by decide +kernel
theorem dX3_settleStrikes_72 : decode cX3_settleStrikes 72 = .ok (.iinc 2 (-1), 3) := by decide +kernel
theorem dX3_settleStrikes_75 : decode cX3_settleStrikes 75 = .ok (.goto (-50), 3) := by decide +kernel
theorem dX3_settleStrikes_78 : decode cX3_settleStrikes 78 = .ok (.return_, 1) := by decide +kernel
theorem dX3_fitting_0 : decode cX3_fitting 0 = .ok (.aload_n 0, 1) := by decide +kernel
theorem dX3_fitting_1 : decode cX3_fitting 1 = .ok (.invokevirtual 38, 3) := by decide +kernel
theorem dX3_fitting_4 : decode cX3_fitting 4 = .ok (.istore_n 3, 1) := by decide +kernel
theorem dX3_fitting_5 : decode cX3_fitting 5 = .ok (.aload_n 0, 1) := by decide +kernel
theorem dX3_fitting_6 : decode cX3_fitting 6 = .ok (.iload_n 3, 1) := by decide +kernel
theorem dX3_fitting_7 : decode cX3_fitting 7 = .ok (.invokevirtual 42, 3) := by decide +kernel
theorem dX3_fitting_10 : decode cX3_fitting 10 = .ok (.iconst 0, 1) := by decide +kernel
theorem dX3_fitting_11 : decode cX3_fitting 11 = .ok (.istore 4, 2) := by decide +kernel
theorem dX3_fitting_13 : decode cX3_fitting 13 = .ok (.iconst 0, 1) := by decide +kernel
theorem dX3_fitting_14 : decode cX3_fitting 14 = .ok (.istore 5, 2) := by decide +kernel
theorem dX3_fitting_16 : decode cX3_fitting 16 = .ok (.iload 5, 2) := by decide +kernel
theorem dX3_fitting_18 : decode cX3_fitting 18 = .ok (.iconst 2, 1) := by decide +kernel
theorem dX3_fitting_19 : decode cX3_fitting 19 = .ok (.iload_n 2, 1) := by decide +kernel
theorem dX3_fitting_20 : decode cX3_fitting 20 = .ok (.imul, 1) := by decide +kernel
theorem dX3_fitting_21 : decode cX3_fitting 21 = .ok (.if_icmp .gt 56, 3) := by decide +kernel
theorem dX3_fitting_24 : decode cX3_fitting 24 = .ok (.iload 5, 2) := by decide +kernel
theorem dX3_fitting_26 : decode cX3_fitting 26 = .ok (.ifCond .le 17, 3) := by decide +kernel
theorem dX3_fitting_29 : decode cX3_fitting 29 = .ok (.iload 5, 2) := by decide +kernel
theorem dX3_fitting_31 : decode cX3_fitting 31 = .ok (.iconst 1, 1) := by decide +kernel
theorem dX3_fitting_32 : decode cX3_fitting 32 = .ok (.isub, 1) := by decide +kernel
theorem dX3_fitting_33 : decode cX3_fitting 33 = .ok (.iconst 2, 1) := by decide +kernel
theorem dX3_fitting_34 : decode cX3_fitting 34 = .ok (.idiv, 1) := by decide +kernel
theorem dX3_fitting_35 : decode cX3_fitting 35 = .ok (.iload_n 1, 1) := by decide +kernel
theorem dX3_fitting_36 : decode cX3_fitting 36 = .ok (.if_icmp .ne 7, 3) := by decide +kernel
theorem dX3_fitting_39 : decode cX3_fitting 39 = .ok (.iconst 1, 1) := by decide +kernel
theorem dX3_fitting_40 : decode cX3_fitting 40 = .ok (.goto 4, 3) := by decide +kernel
theorem dX3_fitting_43 : decode cX3_fitting 43 = .ok (.iconst 0, 1) := by decide +kernel
theorem dX3_fitting_44 : decode cX3_fitting 44 = .ok (.istore 6, 2) := by decide +kernel
theorem dX3_fitting_46 : decode cX3_fitting 46 = .ok (.iload 6, 2) := by decide +kernel
theorem dX3_fitting_48 : decode cX3_fitting 48 = .ok (.ifCond .ne 23, 3) := by decide +kernel
theorem dX3_fitting_51 : decode cX3_fitting 51 = .ok (.aload_n 0, 1) := by decide +kernel
theorem dX3_fitting_52 : decode cX3_fitting 52 = .ok (.iload 5, 2) := by decide +kernel
theorem dX3_fitting_54 : decode cX3_fitting 54 = .ok (.iload_n 1, 1) := by decide +kernel
theorem dX3_fitting_55 : decode cX3_fitting 55 = .ok (.iload_n 3, 1) := by decide +kernel
theorem dX3_fitting_56 : decode cX3_fitting 56 = .ok (.invokevirtual 46, 3) := by decide +kernel
theorem dX3_fitting_59 : decode cX3_fitting 59 = .ok (.ifCond .eq 12, 3) := by decide +kernel
theorem dX3_fitting_62 : decode cX3_fitting 62 = .ok (.iload 4, 2) := by decide +kernel
theorem dX3_fitting_64 : decode cX3_fitting 64 = .ok (.iconst 1, 1) := by decide +kernel
theorem dX3_fitting_65 : decode cX3_fitting 65 = .ok (.iload 5, 2) := by decide +kernel
theorem dX3_fitting_67 : decode cX3_fitting 67 = .ok (.ishl, 1) := by decide +kernel
theorem dX3_fitting_68 : decode cX3_fitting 68 = .ok (.ior, 1) := by decide +kernel
theorem dX3_fitting_69 : decode cX3_fitting 69 = .ok (.istore 4, 2) := by decide +kernel
theorem dX3_fitting_71 : decode cX3_fitting 71 = .ok (.iinc 5 1, 3) := by decide +kernel
theorem dX3_fitting_74 : decode cX3_fitting 74 = .ok (.goto (-58), 3) := by decide +kernel
theorem dX3_fitting_77 : decode cX3_fitting 77 = .ok (.iload 4, 2) := by decide +kernel
theorem dX3_fitting_79 : decode cX3_fitting 79 = .ok (.ireturn, 1) := by decide +kernel
theorem dX3_agrees_0 : decode cX3_agrees 0 = .ok (.iconst 0, 1) := by decide +kernel
theorem dX3_agrees_1 : decode cX3_agrees 1 = .ok (.istore 4, 2) := by decide +kernel
theorem dX3_agrees_3 : decode cX3_agrees 3 = .ok (.iload 4, 2) := by decide +kernel
theorem dX3_agrees_5 : decode cX3_agrees 5 = .ok (.iload_n 3, 1) := by decide +kernel
theorem dX3_agrees_6 : decode cX3_agrees 6 = .ok (.if_icmp .ge 60, 3) := by decide +kernel
theorem dX3_agrees_9 : decode cX3_agrees 9 = .ok (.iload 4, 2) := by decide +kernel
theorem dX3_agrees_11 : decode cX3_agrees 11 = .ok (.bipush 24, 2) := by decide +kernel
theorem dX3_agrees_13 : decode cX3_agrees 13 = .ok (.if_icmp .ge 53, 3) := by decide +kernel
theorem dX3_agrees_16 : decode cX3_agrees 16 = .ok (.aload_n 0, 1) := by decide +kernel
theorem dX3_agrees_17 : decode cX3_agrees 17 = .ok (.getfield 9, 3) := by decide +kernel
theorem dX3_agrees_20 : decode cX3_agrees 20 = .ok (.iload 4, 2) := by decide +kernel
theorem dX3_agrees_22 : decode cX3_agrees 22 = .ok (.iaload, 1) := by decide +kernel
theorem dX3_agrees_23 : decode cX3_agrees 23 = .ok (.iload_n 2, 1) := by decide +kernel
theorem dX3_agrees_24 : decode cX3_agrees 24 = .ok (.if_icmp .ne 36, 3) := by decide +kernel
theorem dX3_agrees_27 : decode cX3_agrees 27 = .ok (.aload_n 0, 1) := by decide +kernel
theorem dX3_agrees_28 : decode cX3_agrees 28 = .ok (.getfield 22, 3) := by decide +kernel
theorem dX3_agrees_31 : decode cX3_agrees 31 = .ok (.iload 4, 2) := by decide +kernel
theorem dX3_agrees_33 : decode cX3_agrees 33 = .ok (.baload, 1) := by decide +kernel
theorem dX3_agrees_34 : decode cX3_agrees 34 = .ok (.ifCond .ne 26, 3) := by decide +kernel
theorem dX3_agrees_37 : decode cX3_agrees 37 = .ok (.iload_n 1, 1) := by decide +kernel
theorem dX3_agrees_38 : decode cX3_agrees 38 = .ok (.aload_n 0, 1) := by decide +kernel
theorem dX3_agrees_39 : decode cX3_agrees 39 = .ok (.getfield 15, 3) := by decide +kernel
theorem dX3_agrees_42 : decode cX3_agrees 42 = .ok (.iload 4, 2) := by decide +kernel
theorem dX3_agrees_44 : decode cX3_agrees 44 = .ok (.iaload, 1) := by decide +kernel
theorem dX3_agrees_45 : decode cX3_agrees 45 = .ok (.invokestatic 50, 3) := by decide +kernel
theorem dX3_agrees_48 : decode cX3_agrees 48 = .ok (.aload_n 0, 1) := by decide +kernel
theorem dX3_agrees_49 : decode cX3_agrees 49 = .ok (.getfield 18, 3) := by decide +kernel
theorem dX3_agrees_52 : decode cX3_agrees 52 = .ok (.iload 4, 2) := by decide +kernel
theorem dX3_agrees_54 : decode cX3_agrees 54 = .ok (.baload, 1) := by decide +kernel
theorem dX3_agrees_55 : decode cX3_agrees 55 = .ok (.if_icmp .eq 5, 3) := by decide +kernel
theorem dX3_agrees_58 : decode cX3_agrees 58 = .ok (.iconst 0, 1) := by decide +kernel
theorem dX3_agrees_59 : decode cX3_agrees 59 = .ok (.ireturn, 1) := by decide +kernel
theorem dX3_agrees_60 : decode cX3_agrees 60 = .ok (.iinc 4 1, 3) := by decide +kernel
theorem dX3_agrees_63 : decode cX3_agrees 63 = .ok (.goto (-60), 3) := by decide +kernel
theorem dX3_agrees_66 : decode cX3_agrees 66 = .ok (.iconst 1, 1) := by decide +kernel
theorem dX3_agrees_67 : decode cX3_agrees 67 = .ok (.ireturn, 1) := by decide +kernel
theorem dX3_lets_0 : decode cX3_lets 0 = .ok (.iload_n 0, 1) := by decide +kernel
theorem dX3_lets_1 : decode cX3_lets 1 = .ok (.ifCond .ne 5, 3) := by decide +kernel
theorem dX3_lets_4 : decode cX3_lets 4 = .ok (.iconst 1, 1) := by decide +kernel
theorem dX3_lets_5 : decode cX3_lets 5 = .ok (.ireturn, 1) := by decide +kernel
theorem dX3_lets_6 : decode cX3_lets 6 = .ok (.iload_n 1, 1) := by decide +kernel
theorem dX3_lets_7 : decode cX3_lets 7 = .ok (.iload_n 0, 1) := by decide +kernel
theorem dX3_lets_8 : decode cX3_lets 8 = .ok (.iconst 1, 1) := by decide +kernel
theorem dX3_lets_9 : decode cX3_lets 9 = .ok (.isub, 1) := by decide +kernel
theorem dX3_lets_10 : decode cX3_lets 10 = .ok (.iconst 2, 1) := by decide +kernel
theorem dX3_lets_11 : decode cX3_lets 11 = .ok (.idiv, 1) := by decide +kernel
theorem dX3_lets_12 : decode cX3_lets 12 = .ok (.ishr, 1) := by decide +kernel
theorem dX3_lets_13 : decode cX3_lets 13 = .ok (.iconst 1, 1) := by decide +kernel
theorem dX3_lets_14 : decode cX3_lets 14 = .ok (.iand, 1) := by decide +kernel
theorem dX3_lets_15 : decode cX3_lets 15 = .ok (.istore_n 2, 1) := by decide +kernel
theorem dX3_lets_16 : decode cX3_lets 16 = .ok (.iload_n 2, 1) := by decide +kernel
theorem dX3_lets_17 : decode cX3_lets 17 = .ok (.iload_n 0, 1) := by decide +kernel
theorem dX3_lets_18 : decode cX3_lets 18 = .ok (.iconst 2, 1) := by decide +kernel
theorem dX3_lets_19 : decode cX3_lets 19 = .ok (.irem, 1) := by decide +kernel
theorem dX3_lets_20 : decode cX3_lets 20 = .ok (.if_icmp .ne 7, 3) := by decide +kernel
theorem dX3_lets_23 : decode cX3_lets 23 = .ok (.iconst 1, 1) := by decide +kernel
theorem dX3_lets_24 : decode cX3_lets 24 = .ok (.goto 4, 3) := by decide +kernel
theorem dX3_lets_27 : decode cX3_lets 27 = .ok (.iconst 0, 1) := by decide +kernel
theorem dX3_lets_28 : decode cX3_lets 28 = .ok (.ireturn, 1) := by decide +kernel
theorem dX3_bestAsked_0 : decode cX3_bestAsked 0 = .ok (.aload_n 0, 1) := by decide +kernel
theorem dX3_bestAsked_1 : decode cX3_bestAsked 1 = .ok (.iload_n 1, 1) := by decide +kernel
theorem dX3_bestAsked_2 : decode cX3_bestAsked 2 = .ok (.iload_n 2, 1) := by decide +kernel
theorem dX3_bestAsked_3 : decode cX3_bestAsked 3 = .ok (.invokevirtual 54, 3) := by decide +kernel
theorem dX3_bestAsked_6 : decode cX3_bestAsked 6 = .ok (.istore 4, 2) := by decide +kernel
theorem dX3_bestAsked_8 : decode cX3_bestAsked 8 = .ok (.iload 4, 2) := by decide +kernel
theorem dX3_bestAsked_10 : decode cX3_bestAsked 10 = .ok (.invokestatic 57, 3) := by decide +kernel
theorem dX3_bestAsked_13 : decode cX3_bestAsked 13 = .ok (.istore 5, 2) := by decide +kernel
theorem dX3_bestAsked_15 : decode cX3_bestAsked 15 = .ok (.iload 5, 2) := by decide +kernel
theorem dX3_bestAsked_17 : decode cX3_bestAsked 17 = .ok (.iconst 1, 1) := by decide +kernel
theorem dX3_bestAsked_18 : decode cX3_bestAsked 18 = .ok (.iadd, 1) := by decide +kernel
theorem dX3_bestAsked_19 : decode cX3_bestAsked 19 = .ok (.istore 6, 2) := by decide +kernel
theorem dX3_bestAsked_21 : decode cX3_bestAsked 21 = .ok (.iconst 0, 1) := by decide +kernel
theorem dX3_bestAsked_22 : decode cX3_bestAsked 22 = .ok (.istore 7, 2) := by decide +kernel
theorem dX3_bestAsked_24 : decode cX3_bestAsked 24 = .ok (.iconst 0, 1) := by decide +kernel
theorem dX3_bestAsked_25 : decode cX3_bestAsked 25 = .ok (.istore 8, 2) := by decide +kernel
theorem dX3_bestAsked_27 : decode cX3_bestAsked 27 = .ok (.iload 8, 2) := by decide +kernel
theorem dX3_bestAsked_29 : decode cX3_bestAsked 29 = .ok (.iconst 1, 1) := by decide +kernel
theorem dX3_bestAsked_30 : decode cX3_bestAsked 30 = .ok (.iload_n 2, 1) := by decide +kernel
theorem dX3_bestAsked_31 : decode cX3_bestAsked 31 = .ok (.ishl, 1) := by decide +kernel
theorem dX3_bestAsked_32 : decode cX3_bestAsked 32 = .ok (.if_icmp .ge 79, 3) := by decide +kernel
theorem dX3_bestAsked_35 : decode cX3_bestAsked 35 = .ok (.iconst 0, 1) := by decide +kernel
theorem dX3_bestAsked_36 : decode cX3_bestAsked 36 = .ok (.istore 9, 2) := by decide +kernel
theorem dX3_bestAsked_38 : decode cX3_bestAsked 38 = .ok (.iconst 0, 1) := by decide +kernel
theorem dX3_bestAsked_39 : decode cX3_bestAsked 39 = .ok (.istore 10, 2) := by decide +kernel
theorem dX3_bestAsked_41 : decode cX3_bestAsked 41 = .ok (.iload 10, 2) := by decide +kernel
theorem dX3_bestAsked_43 : decode cX3_bestAsked 43 = .ok (.iconst 2, 1) := by decide +kernel
theorem dX3_bestAsked_44 : decode cX3_bestAsked 44 = .ok (.iload_n 2, 1) := by decide +kernel
theorem dX3_bestAsked_45 : decode cX3_bestAsked 45 = .ok (.imul, 1) := by decide +kernel
theorem dX3_bestAsked_46 : decode cX3_bestAsked 46 = .ok (.if_icmp .gt 32, 3) := by decide +kernel
theorem dX3_bestAsked_49 : decode cX3_bestAsked 49 = .ok (.iload 4, 2) := by decide +kernel
theorem dX3_bestAsked_51 : decode cX3_bestAsked 51 = .ok (.iload 10, 2) := by decide +kernel
theorem dX3_bestAsked_53 : decode cX3_bestAsked 53 = .ok (.ishr, 1) := by decide +kernel
theorem dX3_bestAsked_54 : decode cX3_bestAsked 54 = .ok (.iconst 1, 1) := by decide +kernel
theorem dX3_bestAsked_55 : decode cX3_bestAsked 55 = .ok (.iand, 1) := by decide +kernel
theorem dX3_bestAsked_56 : decode cX3_bestAsked 56 = .ok (.ifCond .eq 16, 3) := by decide +kernel
theorem dX3_bestAsked_59 : decode cX3_bestAsked 59 = .ok (.iload 10, 2) := by decide +kernel
theorem dX3_bestAsked_61 : decode cX3_bestAsked 61 = .ok (.iload 8, 2) := by decide +kernel
theorem dX3_bestAsked_63 : decode cX3_bestAsked 63 = .ok (.invokestatic 50, 3) := by decide +kernel
theorem dX3_bestAsked_66 : decode cX3_bestAsked 66 = .ok (.ifCond .eq 6, 3) := by decide +kernel
theorem dX3_bestAsked_69 : decode cX3_bestAsked 69 = .ok (.iinc 9 1, 3) := by decide +kernel
theorem dX3_bestAsked_72 : decode cX3_bestAsked 72 = .ok (.iinc 10 1, 3) := by decide +kernel
theorem dX3_bestAsked_75 : decode cX3_bestAsked 75 = .ok (.goto (-34), 3) := by decide +kernel
theorem dX3_bestAsked_78 : decode cX3_bestAsked 78 = .ok (.iload 9, 2) := by decide +kernel
theorem dX3_bestAsked_80 : decode cX3_bestAsked 80 = .ok (.iload 5, 2) := by decide +kernel
theorem dX3_bestAsked_82 : decode cX3_bestAsked 82 = .ok (.iload 9, 2) := by decide +kernel
theorem dX3_bestAsked_84 : decode cX3_bestAsked 84 = .ok (.isub, 1) := by decide +kernel
theorem dX3_bestAsked_85 : decode cX3_bestAsked 85 = .ok (.invokestatic 63, 3) := by decide +kernel
theorem dX3_bestAsked_88 : decode cX3_bestAsked 88 = .ok (.istore 10, 2) := by decide +kernel
theorem dX3_bestAsked_90 : decode cX3_bestAsked 90 = .ok (.iload 10, 2) := by decide +kernel
theorem dX3_bestAsked_92 : decode cX3_bestAsked 92 = .ok (.iload 6, 2) := by decide +kernel
theorem dX3_bestAsked_94 : decode cX3_bestAsked 94 = .ok (.if_icmp .ge 11, 3) := by decide +kernel
theorem dX3_bestAsked_97 : decode cX3_bestAsked 97 = .ok (.iload 10, 2) := by decide +kernel
theorem dX3_bestAsked_99 : decode cX3_bestAsked 99 = .ok (.istore 6, 2) := by decide +kernel
theorem dX3_bestAsked_101 : decode cX3_bestAsked 101 = .ok (.iload 8, 2) := by decide +kernel
theorem dX3_bestAsked_103 : decode cX3_bestAsked 103 = .ok (.istore 7, 2) := by decide +kernel
theorem dX3_bestAsked_105 : decode cX3_bestAsked 105 = .ok (.iinc 8 1, 3) := by decide +kernel
theorem dX3_bestAsked_108 : decode cX3_bestAsked 108 = .ok (.goto (-81), 3) := by decide +kernel
theorem dX3_bestAsked_111 : decode cX3_bestAsked 111 = .ok (.iload_n 3, 1) := by decide +kernel
theorem dX3_bestAsked_112 : decode cX3_bestAsked 112 = .ok (.ifCond .ne 8, 3) := by decide +kernel
theorem dX3_bestAsked_115 : decode cX3_bestAsked 115 = .ok (.iload 7, 2) := by decide +kernel
theorem dX3_bestAsked_117 : decode cX3_bestAsked 117 = .ok (.goto 5, 3) := by decide +kernel
theorem dX3_bestAsked_120 : decode cX3_bestAsked 120 = .ok (.iload 6, 2) := by decide +kernel
theorem dX3_bestAsked_122 : decode cX3_bestAsked 122 = .ok (.ireturn, 1) := by decide +kernel
theorem dX4_init_0 : decode cX4_init 0 = .ok (.aload_n 0, 1) := by decide +kernel
theorem dX4_init_1 : decode cX4_init 1 = .ok (.invokespecial 3, 3) := by decide +kernel
theorem dX4_init_4 : decode cX4_init 4 = .ok (.aload_n 0, 1) := by decide +kernel
theorem dX4_init_5 : decode cX4_init 5 = .ok (.sipush 256, 3) := by decide +kernel
theorem dX4_init_8 : decode cX4_init 8 = .ok (.newarray .int, 2) := by decide +kernel
theorem dX4_init_10 : decode cX4_init 10 = .ok (.putfield 9, 3) := by decide +kernel
theorem dX4_init_13 : decode cX4_init 13 = .ok (.aload_n 0, 1) := by decide +kernel
theorem dX4_init_14 : decode cX4_init 14 = .ok (.sipush 256, 3) := by decide +kernel
theorem dX4_init_17 : decode cX4_init 17 = .ok (.newarray .int, 2) := by decide +kernel
theorem dX4_init_19 : decode cX4_init 19 = .ok (.putfield 15, 3) := by decide +kernel
theorem dX4_init_22 : decode cX4_init 22 = .ok (.aload_n 0, 1) := by decide +kernel
theorem dX4_init_23 : decode cX4_init 23 = .ok (.sipush 256, 3) := by decide +kernel
theorem dX4_init_26 : decode cX4_init 26 = .ok (.newarray .int, 2) := by decide +kernel
theorem dX4_init_28 : decode cX4_init 28 = .ok (.putfield 18, 3) := by decide +kernel
theorem dX4_init_31 : decode cX4_init 31 = .ok (.aload_n 0, 1) := by decide +kernel
theorem dX4_init_32 : decode cX4_init 32 = .ok (.sipush 256, 3) := by decide +kernel
theorem dX4_init_35 : decode cX4_init 35 = .ok (.newarray .int, 2) := by decide +kernel
theorem dX4_init_37 : decode cX4_init 37 = .ok (.putfield 21, 3) := by decide +kernel
theorem dX4_init_40 : decode cX4_init 40 = .ok (.aload_n 0, 1) := by decide +kernel
theorem dX4_init_41 : decode cX4_init 41 = .ok (.sipush 256, 3) := by decide +kernel
theorem dX4_init_44 : decode cX4_init 44 = .ok (.newarray .long, 2) := by decide +kernel
theorem dX4_init_46 : decode cX4_init 46 = .ok (.putfield 24, 3) := by decide +kernel
theorem dX4_init_49 : decode cX4_init 49 = .ok (.aload_n 0, 1) := by decide +kernel
theorem dX4_init_50 : decode cX4_init 50 = .ok (.sipush 256, 3) := by decide +kernel
theorem dX4_init_53 : decode cX4_init 53 = .ok (.newarray .long, 2) := by decide +kernel
theorem dX4_init_55 : decode cX4_init 55 = .ok (.putfield 28, 3) := by decide +kernel
theorem dX4_init_58 : decode cX4_init 58 = .ok (.aload_n 0, 1) := by decide +kernel
theorem dX4_init_59 : decode cX4_init 59 = .ok (.iconst (-1), 1) := by decide +kernel
theorem dX4_init_60 : decode cX4_init 60 = .ok (.putfield 31, 3) := by decide +kernel
theorem dX4_init_63 : decode cX4_init 63 = .ok (.return_, 1) := by decide +kernel
theorem dX4_lay_0 : decode cX4_lay 0 = .ok (.aload_n 0, 1) := by decide +kernel
theorem dX4_lay_1 : decode cX4_lay 1 = .ok (.aload_n 1, 1) := by decide +kernel
theorem dX4_lay_2 : decode cX4_lay 2 = .ok (.getfield 35, 3) := by decide +kernel
theorem dX4_lay_5 : decode cX4_lay 5 = .ok (.putfield 40, 3) := by decide +kernel
theorem dX4_lay_8 : decode cX4_lay 8 = .ok (.aload_n 0, 1) := by decide +kernel
theorem dX4_lay_9 : decode cX4_lay 9 = .ok (.sipush 256, 3) := by decide +kernel
theorem dX4_lay_12 : decode cX4_lay 12 = .ok (.iconst 1, 1) := by decide +kernel
theorem dX4_lay_13 : decode cX4_lay 13 = .ok (.aload_n 0, 1) := by decide +kernel
theorem dX4_lay_14 : decode cX4_lay 14 = .ok (.getfield 40, 3) := by decide +kernel
theorem dX4_lay_17 : decode cX4_lay 17 = .ok (.ishl, 1) := by decide +kernel
theorem dX4_lay_18 : decode cX4_lay 18 = .ok (.invokestatic 41, 3) := by decide +kernel
theorem dX4_lay_21 : decode cX4_lay 21 = .ok (.putfield 47, 3) := by decide +kernel
theorem dX4_lay_24 : decode cX4_lay 24 = .ok (.iconst 0, 1) := by decide +kernel
theorem dX4_lay_25 : decode cX4_lay 25 = .ok (.istore_n 3, 1) := by decide +kernel
theorem dX4_lay_26 : decode cX4_lay 26 = .ok (.iload_n 3, 1) := by decide +kernel
theorem dX4_lay_27 : decode cX4_lay 27 = .ok (.aload_n 0, 1) := by decide +kernel
theorem dX4_lay_28 : decode cX4_lay 28 = .ok (.getfield 47, 3) := by decide +kernel
theorem dX4_lay_31 : decode cX4_lay 31 = .ok (.if_icmp .ge 21, 3) := by decide +kernel
theorem dX4_lay_34 : decode cX4_lay 34 = .ok (.aload_n 0, 1) := by decide +kernel
theorem dX4_lay_35 : decode cX4_lay 35 = .ok (.getfield 9, 3) := by decide +kernel
theorem dX4_lay_38 : decode cX4_lay 38 = .ok (.iload_n 3, 1) := by decide +kernel
theorem dX4_lay_39 : decode cX4_lay 39 = .ok (.aload_n 1, 1) := by decide +kernel
theorem dX4_lay_40 : decode cX4_lay 40 = .ok (.iload_n 3, 1) := by decide +kernel
theorem dX4_lay_41 : decode cX4_lay 41 = .ok (.iload_n 2, 1) := by decide +kernel
theorem dX4_lay_42 : decode cX4_lay 42 = .ok (.invokevirtual 50, 3) := by decide +kernel
theorem dX4_lay_45 : decode cX4_lay 45 = .ok (.iastore, 1) := by decide +kernel
theorem dX4_lay_46 : decode cX4_lay 46 = .ok (.iinc 3 1, 3) := by decide +kernel
theorem dX4_lay_49 : decode cX4_lay 49 = .ok (.goto (-23), 3) := by decide +kernel
theorem dX4_lay_52 : decode cX4_lay 52 = .ok (.aload_n 0, 1) := by decide +kernel
theorem dX4_lay_53 : decode cX4_lay 53 = .ok (.iconst (-1), 1) := by decide +kernel
theorem dX4_lay_54 : decode cX4_lay 54 = .ok (.iconst 0, 1) := by decide +kernel
theorem dX4_lay_55 : decode cX4_lay 55 = .ok (.iconst 0, 1) := by decide +kernel
theorem dX4_lay_56 : decode cX4_lay 56 = .ok (.invokevirtual 53, 3) := by decide +kernel
theorem dX4_lay_59 : decode cX4_lay 59 = .ok (.return_, 1) := by decide +kernel
theorem dX4_bar_0 : decode cX4_bar 0 = .ok (.aload_n 0, 1) := by decide +kernel
theorem dX4_bar_1 : decode cX4_bar 1 = .ok (.iload_n 1, 1) := by decide +kernel
theorem dX4_bar_2 : decode cX4_bar 2 = .ok (.putfield 31, 3) := by decide +kernel
theorem dX4_bar_5 : decode cX4_bar 5 = .ok (.aload_n 0, 1) := by decide +kernel
theorem dX4_bar_6 : decode cX4_bar 6 = .ok (.iload_n 2, 1) := by decide +kernel
theorem dX4_bar_7 : decode cX4_bar 7 = .ok (.putfield 57, 3) := by decide +kernel
theorem dX4_bar_10 : decode cX4_bar 10 = .ok (.aload_n 0, 1) := by decide +kernel
theorem dX4_bar_11 : decode cX4_bar 11 = .ok (.iload_n 3, 1) := by decide +kernel
theorem dX4_bar_12 : decode cX4_bar 12 = .ok (.putfield 60, 3) := by decide +kernel
theorem dX4_bar_15 : decode cX4_bar 15 = .ok (.return_, 1) := by decide +kernel
theorem dX4_has_0 : decode cX4_has 0 = .ok (.iload_n 1, 1) := by decide +kernel
theorem dX4_has_1 : decode cX4_has 1 = .ok (.ifCond .lt 22, 3) := by decide +kernel
theorem dX4_has_4 : decode cX4_has 4 = .ok (.iload_n 1, 1) := by decide +kernel
theorem dX4_has_5 : decode cX4_has 5 = .ok (.aload_n 0, 1) := by decide +kernel
theorem dX4_has_6 : decode cX4_has 6 = .ok (.getfield 47, 3) := by decide +kernel
theorem dX4_has_9 : decode cX4_has 9 = .ok (.if_icmp .ge 14, 3) := by decide +kernel
theorem dX4_has_12 : decode cX4_has 12 = .ok (.iload_n 1, 1) := by decide +kernel
theorem dX4_has_13 : decode cX4_has 13 = .ok (.sipush 256, 3) := by decide +kernel
theorem dX4_has_16 : decode cX4_has 16 = .ok (.if_icmp .ge 7, 3) := by decide +kernel
theorem dX4_has_19 : decode cX4_has 19 = .ok (.iconst 1, 1) := by decide +kernel
theorem dX4_has_20 : decode cX4_has 20 = .ok (.goto 4, 3) := by decide +kernel
theorem dX4_has_23 : decode cX4_has 23 = .ok (.iconst 0, 1) := by decide +kernel
theorem dX4_has_24 : decode cX4_has 24 = .ok (.ireturn, 1) := by decide +kernel
theorem dX4_isMovable_0 : decode cX4_isMovable 0 = .ok (.aload_n 0, 1) := by decide +kernel
theorem dX4_isMovable_1 : decode cX4_isMovable 1 = .ok (.iload_n 1, 1) := by decide +kernel
theorem dX4_isMovable_2 : decode cX4_isMovable 2 = .ok (.invokevirtual 63, 3) := by decide +kernel
theorem dX4_isMovable_5 : decode cX4_isMovable 5 = .ok (.ifCond .eq 20, 3) := by decide +kernel
theorem dX4_isMovable_8 : decode cX4_isMovable 8 = .ok (.aload_n 0, 1) := by decide +kernel
theorem dX4_isMovable_9 : decode cX4_isMovable 9 = .ok (.getfield 9, 3) := by decide +kernel
theorem dX4_isMovable_12 : decode cX4_isMovable 12 = .ok (.iload_n 1, 1) := by decide +kernel
theorem dX4_isMovable_13 : decode cX4_isMovable 13 = .ok (.iaload, 1) := by decide +kernel
theorem dX4_isMovable_14 : decode cX4_isMovable 14 = .ok (.iload_n 2, 1) := by decide +kernel
theorem dX4_isMovable_15 : decode cX4_isMovable 15 = .ok (.ishr, 1) := by decide +kernel
theorem dX4_isMovable_16 : decode cX4_isMovable 16 = .ok (.iconst 1, 1) := by decide +kernel
theorem dX4_isMovable_17 : decode cX4_isMovable 17 = .ok (.iand, 1) := by decide +kernel
theorem dX4_isMovable_18 : decode cX4_isMovable 18 = .ok (.ifCond .eq 7, 3) := by decide +kernel
theorem dX4_isMovable_21 : decode cX4_isMovable 21 = .ok (.iconst 1, 1) := by decide +kernel
theorem dX4_isMovable_22 : decode cX4_isMovable 22 = .ok (.goto 4, 3) := by decide +kernel
theorem dX4_isMovable_25 : decode cX4_isMovable 25 = .ok (.iconst 0, 1) := by decide +kernel
theorem dX4_isMovable_26 : decode cX4_isMovable 26 = .ok (.ireturn, 1) := by decide +kernel
theorem dX4_isHad_0 : decode cX4_isHad 0 = .ok (.aload_n 0, 1) := by decide +kernel
theorem dX4_isHad_1 : decode cX4_isHad 1 = .ok (.iload_n 1, 1) := by decide +kernel
theorem dX4_isHad_2 : decode cX4_isHad 2 = .ok (.invokevirtual 63, 3) := by decide +kernel
theorem dX4_isHad_5 : decode cX4_isHad 5 = .ok (.ifCond .eq 17, 3) := by decide +kernel
theorem dX4_isHad_8 : decode cX4_isHad 8 = .ok (.aload_n 0, 1) := by decide +kernel
theorem dX4_isHad_9 : decode cX4_isHad 9 = .ok (.getfield 15, 3) := by decide +kernel
theorem dX4_isHad_12 : decode cX4_isHad 12 = .ok (.iload_n 1, 1) := by decide +kernel
theorem dX4_isHad_13 : decode cX4_isHad 13 = .ok (.iaload, 1) := by decide +kernel
theorem dX4_isHad_14 : decode cX4_isHad 14 = .ok (.iconst (-1), 1) := by decide +kernel
theorem dX4_isHad_15 : decode cX4_isHad 15 = .ok (.if_icmp .eq 7, 3) := by decide +kernel
theorem dX4_isHad_18 : decode cX4_isHad 18 = .ok (.iconst 1, 1) := by decide +kernel
theorem dX4_isHad_19 : decode cX4_isHad 19 = .ok (.goto 4, 3) := by decide +kernel
theorem dX4_isHad_22 : decode cX4_isHad 22 = .ok (.iconst 0, 1) := by decide +kernel
theorem dX4_isHad_23 : decode cX4_isHad 23 = .ok (.ireturn, 1) := by decide +kernel
theorem dX4_spread_0 : decode cX4_spread 0 = .ok (.aload_n 0, 1) := by decide +kernel
theorem dX4_spread_1 : decode cX4_spread 1 = .ok (.getfield 15, 3) := by decide +kernel
theorem dX4_spread_4 : decode cX4_spread 4 = .ok (.iconst (-1), 1) := by decide +kernel
theorem dX4_spread_5 : decode cX4_spread 5 = .ok (.invokestatic 67, 3) := by decide +kernel
theorem dX4_spread_8 : decode cX4_spread 8 = .ok (.aload_n 0, 1) := by decide +kernel
theorem dX4_spread_9 : decode cX4_spread 9 = .ok (.iconst 0, 1) := by decide +kernel
theorem dX4_spread_10 : decode cX4_spread 10 = .ok (.putfield 73, 3) := by decide +kernel
theorem dX4_spread_13 : decode cX4_spread 13 = .ok (.aload_n 0, 1) := by decide +kernel
theorem dX4_spread_14 : decode cX4_spread 14 = .ok (.iload_n 1, 1) := by decide +kernel
theorem dX4_spread_15 : decode cX4_spread 15 = .ok (.invokevirtual 63, 3) := by decide +kernel
theorem dX4_spread_18 : decode cX4_spread 18 = .ok (.ifCond .ne 4, 3) := by decide +kernel
theorem dX4_spread_21 : decode cX4_spread 21 = .ok (.return_, 1) := by decide +kernel
theorem dX4_spread_22 : decode cX4_spread 22 = .ok (.aload_n 0, 1) := by decide +kernel
theorem dX4_spread_23 : decode cX4_spread 23 = .ok (.iload_n 1, 1) := by decide +kernel
theorem dX4_spread_24 : decode cX4_spread 24 = .ok (.putfield 76, 3) := by decide +kernel
theorem dX4_spread_27 : decode cX4_spread 27 = .ok (.aload_n 0, 1) := by decide +kernel
theorem dX4_spread_28 : decode cX4_spread 28 = .ok (.getfield 15, 3) := by decide +kernel
theorem dX4_spread_31 : decode cX4_spread 31 = .ok (.iload_n 1, 1) := by decide +kernel
theorem dX4_spread_32 : decode cX4_spread 32 = .ok (.iconst 0, 1) := by decide +kernel
theorem dX4_spread_33 : decode cX4_spread 33 = .ok (.iastore, 1) := by decide +kernel
theorem dX4_spread_34 : decode cX4_spread 34 = .ok (.aload_n 0, 1) := by decide +kernel
theorem dX4_spread_35 : decode cX4_spread 35 = .ok (.getfield 18, 3) := by decide +kernel
theorem dX4_spread_38 : decode cX4_spread 38 = .ok (.iconst 0, 1) := by decide +kernel
theorem dX4_spread_39 : decode cX4_spread 39 = .ok (.iload_n 1, 1) := by decide +kernel
theorem dX4_spread_40 : decode cX4_spread 40 = .ok (.iastore, 1) := by decide +kernel
theorem dX4_spread_41 : decode cX4_spread 41 = .ok (.aload_n 0, 1) := by decide +kernel
theorem dX4_spread_42 : decode cX4_spread 42 = .ok (.iconst 1, 1) := by decide +kernel
theorem dX4_spread_43 : decode cX4_spread 43 = .ok (.putfield 73, 3) := by decide +kernel
theorem dX4_spread_46 : decode cX4_spread 46 = .ok (.iconst 0, 1) := by decide +kernel
theorem dX4_spread_47 : decode cX4_spread 47 = .ok (.istore_n 2, 1) := by decide +kernel
theorem dX4_spread_48 : decode cX4_spread 48 = .ok (.iload_n 2, 1) := by decide +kernel
theorem dX4_spread_49 : decode cX4_spread 49 = .ok (.aload_n 0, 1) := by decide +kernel
theorem dX4_spread_50 : decode cX4_spread 50 = .ok (.getfield 73, 3) := by decide +kernel
theorem dX4_spread_53 : decode cX4_spread 53 = .ok (.if_icmp .ge 89, 3) := by decide +kernel
theorem dX4_spread_56 : decode cX4_spread 56 = .ok (.iload_n 2, 1) := by decide +kernel
theorem dX4_spread_57 : decode cX4_spread 57 = .ok (.sipush 256, 3) := by decide +kernel
theorem dX4_spread_60 : decode cX4_spread 60 = .ok (.if_icmp .ge 82, 3) := by decide +kernel
theorem dX4_spread_63 : decode cX4_spread 63 = .ok (.aload_n 0, 1) := by decide +kernel
theorem dX4_spread_64 : decode cX4_spread 64 = .ok (.getfield 18, 3) := by decide +kernel
theorem dX4_spread_67 : decode cX4_spread 67 = .ok (.iload_n 2, 1) := by decide +kernel
theorem dX4_spread_68 : decode cX4_spread 68 = .ok (.iaload, 1) := by decide +kernel
