theorem dX10_holds_45 : decode cX10_holds 45 = .ok (.iload_n 2, 1) := by decide +kernel
theorem dX10_holds_46 : decode cX10_holds 46 = .ok (.invokestatic 244, 3) := by decide +kernel
theorem dX10_holds_49 : decode cX10_holds 49 = .ok (.lreturn, 1) := by decide +kernel
theorem dX10_note_0 : decode cX10_note 0 = .ok (.aload_n 0, 1) := by decide +kernel
theorem dX10_note_1 : decode cX10_note 1 = .ok (.getfield 21, 3) := by decide +kernel
theorem dX10_note_4 : decode cX10_note 4 = .ok (.iload_n 1, 1) := by decide +kernel
theorem dX10_note_5 : decode cX10_note 5 = .ok (.invokevirtual 139, 3) := by decide +kernel
theorem dX10_note_8 : decode cX10_note 8 = .ok (.ifCond .eq 14, 3) := by decide +kernel
theorem dX10_note_11 : decode cX10_note 11 = .ok (.aload_n 0, 1) := by decide +kernel
theorem dX10_note_12 : decode cX10_note 12 = .ok (.getfield 21, 3) := by decide +kernel
theorem dX10_note_15 : decode cX10_note 15 = .ok (.iload_n 2, 1) := by decide +kernel
theorem dX10_note_16 : decode cX10_note 16 = .ok (.invokevirtual 110, 3) := by decide +kernel
theorem dX10_note_19 : decode cX10_note 19 = .ok (.ifCond .ne 5, 3) := by decide +kernel
theorem dX10_note_22 : decode cX10_note 22 = .ok (.iconst (-1), 1) := by decide +kernel
theorem dX10_note_23 : decode cX10_note 23 = .ok (.ireturn, 1) := by decide +kernel
theorem dX10_note_24 : decode cX10_note 24 = .ok (.aload_n 0, 1) := by decide +kernel
theorem dX10_note_25 : decode cX10_note 25 = .ok (.getfield 62, 3) := by decide +kernel
theorem dX10_note_28 : decode cX10_note 28 = .ok (.iload_n 2, 1) := by decide +kernel
theorem dX10_note_29 : decode cX10_note 29 = .ok (.iload_n 1, 1) := by decide +kernel
theorem dX10_note_30 : decode cX10_note 30 = .ok (.iload_n 3, 1) := by decide +kernel
theorem dX10_note_31 : decode cX10_note 31 = .ok (.invokevirtual 253, 3) := by decide +kernel
theorem dX10_note_34 : decode cX10_note 34 = .ok (.ireturn, 1) := by decide +kernel
theorem dX10_strike_0 : decode cX10_strike 0 = .ok (.iload_n 1, 1) := by decide +kernel
theorem dX10_strike_1 : decode cX10_strike 1 = .ok (.ifCond .lt 14, 3) := by decide +kernel
theorem dX10_strike_4 : decode cX10_strike 4 = .ok (.iload_n 1, 1) := by decide +kernel
theorem dX10_strike_5 : decode cX10_strike 5 = .ok (.aload_n 0, 1) := by decide +kernel
theorem dX10_strike_6 : decode cX10_strike 6 = .ok (.getfield 62, 3) := by decide +kernel
theorem dX10_strike_9 : decode cX10_strike 9 = .ok (.getfield 256, 3) := by decide +kernel
theorem dX10_strike_12 : decode cX10_strike 12 = .ok (.if_icmp .lt 5, 3) := by decide +kernel
theorem dX10_strike_15 : decode cX10_strike 15 = .ok (.iconst (-1), 1) := by decide +kernel
theorem dX10_strike_16 : decode cX10_strike 16 = .ok (.ireturn, 1) := by decide +kernel
theorem dX10_strike_17 : decode cX10_strike 17 = .ok (.aload_n 0, 1) := by decide +kernel
theorem dX10_strike_18 : decode cX10_strike 18 = .ok (.getfield 62, 3) := by decide +kernel
theorem dX10_strike_21 : decode cX10_strike 21 = .ok (.iconst (-1), 1) := by decide +kernel
theorem dX10_strike_22 : decode cX10_strike 22 = .ok (.iload_n 1, 1) := by decide +kernel
theorem dX10_strike_23 : decode cX10_strike 23 = .ok (.iconst 0, 1) := by decide +kernel
theorem dX10_strike_24 : decode cX10_strike 24 = .ok (.invokevirtual 253, 3) := by decide +kernel
theorem dX10_strike_27 : decode cX10_strike 27 = .ok (.ireturn, 1) := by decide +kernel
theorem dX10_known_0 : decode cX10_known 0 = .ok (.iload_n 1, 1) := by decide +kernel
theorem dX10_known_1 : decode cX10_known 1 = .ok (.iconst (-1), 1) := by decide +kernel
theorem dX10_known_2 : decode cX10_known 2 = .ok (.if_icmp .lt 14, 3) := by decide +kernel
theorem dX10_known_5 : decode cX10_known 5 = .ok (.iload_n 1, 1) := by decide +kernel
theorem dX10_known_6 : decode cX10_known 6 = .ok (.aload_n 0, 1) := by decide +kernel
theorem dX10_known_7 : decode cX10_known 7 = .ok (.getfield 62, 3) := by decide +kernel
theorem dX10_known_10 : decode cX10_known 10 = .ok (.getfield 256, 3) := by decide +kernel
theorem dX10_known_13 : decode cX10_known 13 = .ok (.if_icmp .le 5, 3) := by decide +kernel
theorem dX10_known_16 : decode cX10_known 16 = .ok (.iconst 0, 1) := by decide +kernel
theorem dX10_known_17 : decode cX10_known 17 = .ok (.ireturn, 1) := by decide +kernel
theorem dX10_known_18 : decode cX10_known 18 = .ok (.aload_n 0, 1) := by decide +kernel
theorem dX10_known_19 : decode cX10_known 19 = .ok (.getfield 62, 3) := by decide +kernel
theorem dX10_known_22 : decode cX10_known 22 = .ok (.iload_n 1, 1) := by decide +kernel
theorem dX10_known_23 : decode cX10_known 23 = .ok (.putfield 257, 3) := by decide +kernel
theorem dX10_known_26 : decode cX10_known 26 = .ok (.iconst 1, 1) := by decide +kernel
theorem dX10_known_27 : decode cX10_known 27 = .ok (.ireturn, 1) := by decide +kernel
theorem dX10_fits_0 : decode cX10_fits 0 = .ok (.aload_n 0, 1) := by decide +kernel
theorem dX10_fits_1 : decode cX10_fits 1 = .ok (.getfield 21, 3) := by decide +kernel
theorem dX10_fits_4 : decode cX10_fits 4 = .ok (.iload_n 1, 1) := by decide +kernel
theorem dX10_fits_5 : decode cX10_fits 5 = .ok (.invokevirtual 110, 3) := by decide +kernel
theorem dX10_fits_8 : decode cX10_fits 8 = .ok (.ifCond .eq 21, 3) := by decide +kernel
theorem dX10_fits_11 : decode cX10_fits 11 = .ok (.aload_n 0, 1) := by decide +kernel
theorem dX10_fits_12 : decode cX10_fits 12 = .ok (.getfield 62, 3) := by decide +kernel
theorem dX10_fits_15 : decode cX10_fits 15 = .ok (.iload_n 1, 1) := by decide +kernel
theorem dX10_fits_16 : decode cX10_fits 16 = .ok (.aload_n 0, 1) := by decide +kernel
theorem dX10_fits_17 : decode cX10_fits 17 = .ok (.getfield 21, 3) := by decide +kernel
theorem dX10_fits_20 : decode cX10_fits 20 = .ok (.getfield 260, 3) := by decide +kernel
theorem dX10_fits_23 : decode cX10_fits 23 = .ok (.invokevirtual 263, 3) := by decide +kernel
theorem dX10_fits_26 : decode cX10_fits 26 = .ok (.goto 4, 3) := by decide +kernel
theorem dX10_fits_29 : decode cX10_fits 29 = .ok (.iconst (-1), 1) := by decide +kernel
theorem dX10_fits_30 : decode cX10_fits 30 = .ok (.ireturn, 1) := by decide +kernel
theorem dX10_ask_0 : decode cX10_ask 0 = .ok (.aload_n 0, 1) := by decide +kernel
theorem dX10_ask_1 : decode cX10_ask 1 = .ok (.getfield 21, 3) := by decide +kernel
theorem dX10_ask_4 : decode cX10_ask 4 = .ok (.iload_n 1, 1) := by decide +kernel
theorem dX10_ask_5 : decode cX10_ask 5 = .ok (.invokevirtual 110, 3) := by decide +kernel
theorem dX10_ask_8 : decode cX10_ask 8 = .ok (.ifCond .eq 12, 3) := by decide +kernel
theorem dX10_ask_11 : decode cX10_ask 11 = .ok (.iload_n 2, 1) := by decide +kernel
theorem dX10_ask_12 : decode cX10_ask 12 = .ok (.ifCond .lt 8, 3) := by decide +kernel
theorem dX10_ask_15 : decode cX10_ask 15 = .ok (.iload_n 2, 1) := by decide +kernel
theorem dX10_ask_16 : decode cX10_ask 16 = .ok (.iconst 1, 1) := by decide +kernel
theorem dX10_ask_17 : decode cX10_ask 17 = .ok (.if_icmp .le 5, 3) := by decide +kernel
theorem dX10_ask_20 : decode cX10_ask 20 = .ok (.iconst (-1), 1) := by decide +kernel
theorem dX10_ask_21 : decode cX10_ask 21 = .ok (.ireturn, 1) := by decide +kernel
theorem dX10_ask_22 : decode cX10_ask 22 = .ok (.aload_n 0, 1) := by decide +kernel
theorem dX10_ask_23 : decode cX10_ask 23 = .ok (.getfield 62, 3) := by decide +kernel
theorem dX10_ask_26 : decode cX10_ask 26 = .ok (.iload_n 1, 1) := by decide +kernel
theorem dX10_ask_27 : decode cX10_ask 27 = .ok (.aload_n 0, 1) := by decide +kernel
theorem dX10_ask_28 : decode cX10_ask 28 = .ok (.getfield 21, 3) := by decide +kernel
theorem dX10_ask_31 : decode cX10_ask 31 = .ok (.getfield 260, 3) := by decide +kernel
theorem dX10_ask_34 : decode cX10_ask 34 = .ok (.iload_n 2, 1) := by decide +kernel
theorem dX10_ask_35 : decode cX10_ask 35 = .ok (.invokevirtual 266, 3) := by decide +kernel
theorem dX10_ask_38 : decode cX10_ask 38 = .ok (.ireturn, 1) := by decide +kernel
theorem dX10_chance_0 : decode cX10_chance 0 = .ok (.iload_n 1, 1) := by decide +kernel
theorem dX10_chance_1 : decode cX10_chance 1 = .ok (.ifCond .lt 25, 3) := by decide +kernel
theorem dX10_chance_4 : decode cX10_chance 4 = .ok (.iload_n 2, 1) := by decide +kernel
theorem dX10_chance_5 : decode cX10_chance 5 = .ok (.iconst 1, 1) := by decide +kernel
theorem dX10_chance_6 : decode cX10_chance 6 = .ok (.if_icmp .lt 20, 3) := by decide +kernel
theorem dX10_chance_9 : decode cX10_chance 9 = .ok (.iload_n 2, 1) := by decide +kernel
theorem dX10_chance_10 : decode cX10_chance 10 = .ok (.bipush 99, 2) := by decide +kernel
theorem dX10_chance_12 : decode cX10_chance 12 = .ok (.if_icmp .gt 14, 3) := by decide +kernel
theorem dX10_chance_15 : decode cX10_chance 15 = .ok (.aload_n 0, 1) := by decide +kernel
theorem dX10_chance_16 : decode cX10_chance 16 = .ok (.getfield 21, 3) := by decide +kernel
theorem dX10_chance_19 : decode cX10_chance 19 = .ok (.iload_n 3, 1) := by decide +kernel
theorem dX10_chance_20 : decode cX10_chance 20 = .ok (.invokevirtual 110, 3) := by decide +kernel
theorem dX10_chance_23 : decode cX10_chance 23 = .ok (.ifCond .ne 5, 3) := by decide +kernel
theorem dX10_chance_26 : decode cX10_chance 26 = .ok (.iconst (-1), 1) := by decide +kernel
theorem dX10_chance_27 : decode cX10_chance 27 = .ok (.ireturn, 1) := by decide +kernel
theorem dX10_chance_28 : decode cX10_chance 28 = .ok (.aload_n 0, 1) := by decide +kernel
theorem dX10_chance_29 : decode cX10_chance 29 = .ok (.getfield 41, 3) := by decide +kernel
theorem dX10_chance_32 : decode cX10_chance 32 = .ok (.invokevirtual 167, 3) := by decide +kernel
theorem dX10_chance_35 : decode cX10_chance 35 = .ok (.iload_n 1, 1) := by decide +kernel
theorem dX10_chance_36 : decode cX10_chance 36 = .ok (.i2l, 1) := by decide +kernel
theorem dX10_chance_37 : decode cX10_chance 37 = .ok (.lstore 4, 2) := by decide +kernel
theorem dX10_chance_39 : decode cX10_chance 39 = .ok (.iconst 0, 1) := by decide +kernel
theorem dX10_chance_40 : decode cX10_chance 40 = .ok (.istore 6, 2) := by decide +kernel
theorem dX10_chance_42 : decode cX10_chance 42 = .ok (.iconst 0, 1) := by decide +kernel
theorem dX10_chance_43 : decode cX10_chance 43 = .ok (.istore 7, 2) := by decide +kernel
theorem dX10_chance_45 : decode cX10_chance 45 = .ok (.iload 7, 2) := by decide +kernel
theorem dX10_chance_47 : decode cX10_chance 47 = .ok (.bipush 10, 2) := by decide +kernel
theorem dX10_chance_49 : decode cX10_chance 49 = .ok (.if_icmp .ge 70, 3) := by decide +kernel
theorem dX10_chance_52 : decode cX10_chance 52 = .ok (.aload_n 0, 1) := by decide +kernel
theorem dX10_chance_53 : decode cX10_chance 53 = .ok (.getfield 32, 3) := by decide +kernel
theorem dX10_chance_56 : decode cX10_chance 56 = .ok (.aload_n 0, 1) := by decide +kernel
theorem dX10_chance_57 : decode cX10_chance 57 = .ok (.getfield 28, 3) := by decide +kernel
theorem dX10_chance_60 : decode cX10_chance 60 = .ok (.invokevirtual 174, 3) := by decide +kernel
theorem dX10_chance_63 : decode cX10_chance 63 = .ok (.aload_n 0, 1) := by decide +kernel
theorem dX10_chance_64 : decode cX10_chance 64 = .ok (.getfield 32, 3) := by decide +kernel
theorem dX10_chance_67 : decode cX10_chance 67 = .ok (.lload 4, 2) := by decide +kernel
theorem dX10_chance_69 : decode cX10_chance 69 = .ok (.putfield 269, 3) := by decide +kernel
theorem dX10_chance_72 : decode cX10_chance 72 = .ok (.aload_n 0, 1) := by decide +kernel
theorem dX10_chance_73 : decode cX10_chance 73 = .ok (.getfield 41, 3) := by decide +kernel
theorem dX10_chance_76 : decode cX10_chance 76 = .ok (.aload_n 0, 1) := by decide +kernel
theorem dX10_chance_77 : decode cX10_chance 77 = .ok (.getfield 21, 3) := by decide +kernel
theorem dX10_chance_80 : decode cX10_chance 80 = .ok (.aload_n 0, 1) := by decide +kernel
theorem dX10_chance_81 : decode cX10_chance 81 = .ok (.getfield 32, 3) := by decide +kernel
theorem dX10_chance_84 : decode cX10_chance 84 = .ok (.iload_n 2, 1) := by decide +kernel
theorem dX10_chance_85 : decode cX10_chance 85 = .ok (.invokevirtual 170, 3) := by decide +kernel
theorem dX10_chance_88 : decode cX10_chance 88 = .ok (.aload_n 0, 1) := by decide +kernel
theorem dX10_chance_89 : decode cX10_chance 89 = .ok (.getfield 32, 3) := by decide +kernel
theorem dX10_chance_92 : decode cX10_chance 92 = .ok (.getfield 269, 3) := by decide +kernel
theorem dX10_chance_95 : decode cX10_chance 95 = .ok (.lstore 4, 2) := by decide +kernel
theorem dX10_chance_97 : decode cX10_chance 97 = .ok (.iload 6, 2) := by decide +kernel
theorem dX10_chance_99 : decode cX10_chance 99 = .ok (.aload_n 0, 1) := by decide +kernel
theorem dX10_chance_100 : decode cX10_chance 100 = .ok (.getfield 32, 3) := by decide +kernel
theorem dX10_chance_103 : decode cX10_chance 103 = .ok (.getfield 123, 3) := by decide +kernel
theorem dX10_chance_106 : decode cX10_chance 106 = .ok (.iload_n 3, 1) := by decide +kernel
theorem dX10_chance_107 : decode cX10_chance 107 = .ok (.ishr, 1) := by decide +kernel
theorem dX10_chance_108 : decode cX10_chance 108 = .ok (.iconst 1, 1) := by decide +kernel
theorem dX10_chance_109 : decode cX10_chance 109 = .ok (.iand, 1) := by decide +kernel
theorem dX10_chance_110 : decode cX10_chance 110 = .ok (.iadd, 1) := by decide +kernel
theorem dX10_chance_111 : decode cX10_chance 111 = .ok (.istore 6, 2) := by decide +kernel
theorem dX10_chance_113 : decode cX10_chance 113 = .ok (.iinc 7 1, 3) := by decide +kernel
theorem dX10_chance_116 : decode cX10_chance 116 = .ok (.goto (-71), 3) := by decide +kernel
theorem dX10_chance_119 : decode cX10_chance 119 = .ok (.iload 6, 2) := by decide +kernel
theorem dX10_chance_121 : decode cX10_chance 121 = .ok (.ireturn, 1) := by decide +kernel
theorem dX10_tried_0 : decode cX10_tried 0 = .ok (.iload_n 1, 1) := by decide +kernel
theorem dX10_tried_1 : decode cX10_tried 1 = .ok (.iconst 2, 1) := by decide +kernel
theorem dX10_tried_2 : decode cX10_tried 2 = .ok (.if_icmp .ne 14, 3) := by decide +kernel
theorem dX10_tried_5 : decode cX10_tried 5 = .ok (.aload_n 0, 1) := by decide +kernel
theorem dX10_tried_6 : decode cX10_tried 6 = .ok (.getfield 21, 3) := by decide +kernel
theorem dX10_tried_9 : decode cX10_tried 9 = .ok (.iload_n 2, 1) := by decide +kernel
theorem dX10_tried_10 : decode cX10_tried 10 = .ok (.invokevirtual 110, 3) := by decide +kernel
theorem dX10_tried_13 : decode cX10_tried 13 = .ok (.goto 12, 3) := by decide +kernel
theorem dX10_tried_16 : decode cX10_tried 16 = .ok (.iload_n 2, 1) := by decide +kernel
theorem dX10_tried_17 : decode cX10_tried 17 = .ok (.ifCond .ne 7, 3) := by decide +kernel
theorem dX10_tried_20 : decode cX10_tried 20 = .ok (.iconst 1, 1) := by decide +kernel
theorem dX10_tried_21 : decode cX10_tried 21 = .ok (.goto 4, 3) := by decide +kernel
theorem dX10_tried_24 : decode cX10_tried 24 = .ok (.iconst 0, 1) := by decide +kernel
theorem dX10_tried_25 : decode cX10_tried 25 = .ok (.istore 4, 2) := by decide +kernel
theorem dX10_tried_27 : decode cX10_tried 27 = .ok (.iload_n 1, 1) := by decide +kernel
theorem dX10_tried_28 : decode cX10_tried 28 = .ok (.ifCond .lt 24, 3) := by decide +kernel
theorem dX10_tried_31 : decode cX10_tried 31 = .ok (.iload_n 1, 1) := by decide +kernel
theorem dX10_tried_32 : decode cX10_tried 32 = .ok (.iconst 4, 1) := by decide +kernel
theorem dX10_tried_33 : decode cX10_tried 33 = .ok (.if_icmp .gt 19, 3) := by decide +kernel
theorem dX10_tried_36 : decode cX10_tried 36 = .ok (.iload 4, 2) := by decide +kernel
theorem dX10_tried_38 : decode cX10_tried 38 = .ok (.ifCond .eq 14, 3) := by decide +kernel
theorem dX10_tried_41 : decode cX10_tried 41 = .ok (.iload_n 3, 1) := by decide +kernel
theorem dX10_tried_42 : decode cX10_tried 42 = .ok (.ifCond .lt 10, 3) := by decide +kernel
theorem dX10_tried_45 : decode cX10_tried 45 = .ok (.iload_n 3, 1) := by decide +kernel
theorem dX10_tried_46 : decode cX10_tried 46 = .ok (.sipush 200, 3) := by decide +kernel
theorem dX10_tried_49 : decode cX10_tried 49 = .ok (.if_icmp .le 5, 3) := by decide +kernel
theorem dX10_tried_52 : decode cX10_tried 52 = .ok (.iconst (-1), 1) := by decide +kernel
theorem dX10_tried_53 : decode cX10_tried 53 = .ok (.ireturn, 1) := by decide +kernel
theorem dX10_tried_54 : decode cX10_tried 54 = .ok (.aload_n 0, 1) := by decide +kernel
theorem dX10_tried_55 : decode cX10_tried 55 = .ok (.getfield 32, 3) := by decide +kernel
theorem dX10_tried_58 : decode cX10_tried 58 = .ok (.aload_n 0, 1) := by decide +kernel
theorem dX10_tried_59 : decode cX10_tried 59 = .ok (.getfield 28, 3) := by decide +kernel
theorem dX10_tried_62 : decode cX10_tried 62 = .ok (.invokevirtual 174, 3) := by decide +kernel
theorem dX10_tried_65 : decode cX10_tried 65 = .ok (.aload_n 0, 1) := by decide +kernel
theorem dX10_tried_66 : decode cX10_tried 66 = .ok (.getfield 41, 3) := by decide +kernel
theorem dX10_tried_69 : decode cX10_tried 69 = .ok (.iload_n 1, 1) := by decide +kernel
theorem dX10_tried_70 : decode cX10_tried 70 = .ok (.iload_n 2, 1) := by decide +kernel
theorem dX10_tried_71 : decode cX10_tried 71 = .ok (.invokevirtual 273, 3) := by decide +kernel
theorem dX10_tried_74 : decode cX10_tried 74 = .ok (.aload_n 0, 1) := by decide +kernel
theorem dX10_tried_75 : decode cX10_tried 75 = .ok (.getfield 41, 3) := by decide +kernel
theorem dX10_tried_78 : decode cX10_tried 78 = .ok (.aload_n 0, 1) := by decide +kernel
theorem dX10_tried_79 : decode cX10_tried 79 = .ok (.getfield 21, 3) := by decide +kernel
theorem dX10_tried_82 : decode cX10_tried 82 = .ok (.aload_n 0, 1) := by decide +kernel
theorem dX10_tried_83 : decode cX10_tried 83 = .ok (.getfield 32, 3) := by decide +kernel
theorem dX10_tried_86 : decode cX10_tried 86 = .ok (.iload_n 3, 1) := by decide +kernel
theorem dX10_tried_87 : decode cX10_tried 87 = .ok (.invokevirtual 170, 3) := by decide +kernel
theorem dX10_tried_90 : decode cX10_tried 90 = .ok (.aload_n 0, 1) := by decide +kernel
theorem dX10_tried_91 : decode cX10_tried 91 = .ok (.getfield 32, 3) := by decide +kernel
theorem dX10_tried_94 : decode cX10_tried 94 = .ok (.getfield 177, 3) := by decide +kernel
theorem dX10_tried_97 : decode cX10_tried 97 = .ok (.aload_n 0, 1) := by decide +kernel
theorem dX10_tried_98 : decode cX10_tried 98 = .ok (.getfield 28, 3) := by decide +kernel
theorem dX10_tried_101 : decode cX10_tried 101 = .ok (.getfield 177, 3) := by decide +kernel
theorem dX10_tried_104 : decode cX10_tried 104 = .ok (.isub, 1) := by decide +kernel
theorem dX10_tried_105 : decode cX10_tried 105 = .ok (.ireturn, 1) := by decide +kernel
theorem dX10_undo_0 : decode cX10_undo 0 = .ok (.aload_n 0, 1) := by decide +kernel
theorem dX10_undo_1 : decode cX10_undo 1 = .ok (.getfield 48, 3) := by decide +kernel
theorem dX10_undo_4 : decode cX10_undo 4 = .ok (.aload_n 0, 1) := by decide +kernel
theorem dX10_undo_5 : decode cX10_undo 5 = .ok (.getfield 28, 3) := by decide +kernel
theorem dX10_undo_8 : decode cX10_undo 8 = .ok (.invokevirtual 277, 3) := by decide +kernel
theorem dX10_undo_11 : decode cX10_undo 11 = .ok (.ireturn, 1) := by decide +kernel
theorem dX10_keep_0 : decode cX10_keep 0 = .ok (.aload_n 0, 1) := by decide +kernel
theorem dX10_keep_1 : decode cX10_keep 1 = .ok (.getfield 35, 3) := by decide +kernel
theorem dX10_keep_4 : decode cX10_keep 4 = .ok (.aload_n 0, 1) := by decide +kernel
theorem dX10_keep_5 : decode cX10_keep 5 = .ok (.getfield 28, 3) := by decide +kernel
theorem dX10_keep_8 : decode cX10_keep 8 = .ok (.invokevirtual 174, 3) := by decide +kernel
theorem dX10_keep_11 : decode cX10_keep 11 = .ok (.aload_n 0, 1) := by decide +kernel
theorem dX10_keep_12 : decode cX10_keep 12 = .ok (.iconst 1, 1) := by decide +kernel
theorem dX10_keep_13 : decode cX10_keep 13 = .ok (.putfield 93, 3) := by decide +kernel
theorem dX10_keep_16 : decode cX10_keep 16 = .ok (.aload_n 0, 1) := by decide +kernel
theorem dX10_keep_17 : decode cX10_keep 17 = .ok (.getfield 28, 3) := by decide +kernel
theorem dX10_keep_20 : decode cX10_keep 20 = .ok (.getfield 164, 3) := by decide +kernel
theorem dX10_keep_23 : decode cX10_keep 23 = .ok (.ireturn, 1) := by decide +kernel
theorem dX10_back_0 : decode cX10_back 0 = .ok (.aload_n 0, 1) := by decide +kernel
theorem dX10_back_1 : decode cX10_back 1 = .ok (.getfield 93, 3) := by decide +kernel
theorem dX10_back_4 : decode cX10_back 4 = .ok (.ifCond .ne 5, 3) := by decide +kernel
theorem dX10_back_7 : decode cX10_back 7 = .ok (.iconst (-1), 1) := by decide +kernel
theorem dX10_back_8 : decode cX10_back 8 = .ok (.ireturn, 1) := by decide +kernel
theorem dX10_back_9 : decode cX10_back 9 = .ok (.aload_n 0, 1) := by decide +kernel
theorem dX10_back_10 : decode cX10_back 10 = .ok (.getfield 28, 3) := by decide +kernel
theorem dX10_back_13 : decode cX10_back 13 = .ok (.aload_n 0, 1) := by decide +kernel
theorem dX10_back_14 : decode cX10_back 14 = .ok (.getfield 35, 3) := by decide +kernel
theorem dX10_back_17 : decode cX10_back 17 = .ok (.invokevirtual 174, 3) := by decide +kernel
theorem dX10_back_20 : decode cX10_back 20 = .ok (.aload_n 0, 1) := by decide +kernel
theorem dX10_back_21 : decode cX10_back 21 = .ok (.getfield 48, 3) := by decide +kernel
theorem dX10_back_24 : decode cX10_back 24 = .ok (.invokevirtual 92, 3) := by decide +kernel
theorem dX10_back_27 : decode cX10_back 27 = .ok (.aload_n 0, 1) := by decide +kernel
theorem dX10_back_28 : decode cX10_back 28 = .ok (.getfield 28, 3) := by decide +kernel
theorem dX10_back_31 : decode cX10_back 31 = .ok (.getfield 164, 3) := by decide +kernel
theorem dX10_back_34 : decode cX10_back 34 = .ok (.ireturn, 1) := by decide +kernel
theorem dX10_count_0 : decode cX10_count 0 = .ok (.iload_n 1, 1) := by decide +kernel
theorem dX10_count_1 : decode cX10_count 1 = .ok (.tableswitch 180 0 12 #[67, 75, 83, 91, 102, 110, 121, 132, 140, 148, 156, 164, 172], 67) := by decide +kernel
theorem dX10_count_68 : decode cX10_count 68 = .ok (.aload_n 0, 1) := by decide +kernel
theorem dX10_count_69 : decode cX10_count 69 = .ok (.getfield 21, 3) := by decide +kernel
theorem dX10_count_72 : decode cX10_count 72 = .ok (.getfield 260, 3) := by decide +kernel
theorem dX10_count_75 : decode cX10_count 75 = .ok (.ireturn, 1) := by decide +kernel
theorem dX10_count_76 : decode cX10_count 76 = .ok (.aload_n 0, 1) := by decide +kernel
theorem dX10_count_77 : decode cX10_count 77 = .ok (.getfield 21, 3) := by decide +kernel
theorem dX10_count_80 : decode cX10_count 80 = .ok (.getfield 281, 3) := by decide +kernel
theorem dX10_count_83 : decode cX10_count 83 = .ok (.ireturn, 1) := by decide +kernel
theorem dX10_count_84 : decode cX10_count 84 = .ok (.aload_n 0, 1) := by decide +kernel
theorem dX10_count_85 : decode cX10_count 85 = .ok (.getfield 21, 3) := by decide +kernel
theorem dX10_count_88 : decode cX10_count 88 = .ok (.getfield 284, 3) := by decide +kernel
theorem dX10_count_91 : decode cX10_count 91 = .ok (.ireturn, 1) := by decide +kernel
theorem dX10_count_92 : decode cX10_count 92 = .ok (.aload_n 0, 1) := by decide +kernel
theorem dX10_count_93 : decode cX10_count 93 = .ok (.getfield 21, 3) := by decide +kernel
theorem dX10_count_96 : decode cX10_count 96 = .ok (.getfield 286, 3) := by decide +kernel
theorem dX10_count_99 : decode cX10_count 99 = .ok (.getfield 290, 3) := by decide +kernel
theorem dX10_count_102 : decode cX10_count 102 = .ok (.ireturn, 1) := by decide +kernel
theorem dX10_count_103 : decode cX10_count 103 = .ok (.aload_n 0, 1) := by decide +kernel
theorem dX10_count_104 : decode cX10_count 104 = .ok (.getfield 28, 3) := by decide +kernel
theorem dX10_count_107 : decode cX10_count 107 = .ok (.getfield 164, 3) := by decide +kernel
theorem dX10_count_110 : decode cX10_count 110 = .ok (.ireturn, 1) := by decide +kernel
theorem dX10_count_111 : decode cX10_count 111 = .ok (.aload_n 0, 1) := by decide +kernel
theorem dX10_count_112 : decode cX10_count 112 = .ok (.getfield 28, 3) := by decide +kernel
theorem dX10_count_115 : decode cX10_count 115 = .ok (.getfield 120, 3) := by decide +kernel
theorem dX10_count_118 : decode cX10_count 118 = .ok (.invokestatic 159, 3) := by decide +kernel
theorem dX10_count_121 : decode cX10_count 121 = .ok (.ireturn, 1) := by decide +kernel
theorem dX10_count_122 : decode cX10_count 122 = .ok (.aload_n 0, 1) := by decide +kernel
theorem dX10_count_123 : decode cX10_count 123 = .ok (.getfield 28, 3) := by decide +kernel
theorem dX10_count_126 : decode cX10_count 126 = .ok (.getfield 123, 3) := by decide +kernel
theorem dX10_count_129 : decode cX10_count 129 = .ok (.invokestatic 159, 3) := by decide +kernel
theorem dX10_count_132 : decode cX10_count 132 = .ok (.ireturn, 1) := by decide +kernel
theorem dX10_count_133 : decode cX10_count 133 = .ok (.aload_n 0, 1) := by decide +kernel
theorem dX10_count_134 : decode cX10_count 134 = .ok (.getfield 28, 3) := by decide +kernel
theorem dX10_count_137 : decode cX10_count 137 = .ok (.getfield 177, 3) := by decide +kernel
theorem dX10_count_140 : decode cX10_count 140 = .ok (.ireturn, 1) := by decide +kernel
theorem dX10_count_141 : decode cX10_count 141 = .ok (.aload_n 0, 1) := by decide +kernel
theorem dX10_count_142 : decode cX10_count 142 = .ok (.getfield 28, 3) := by decide +kernel
theorem dX10_count_145 : decode cX10_count 145 = .ok (.getfield 180, 3) := by decide +kernel
theorem dX10_count_148 : decode cX10_count 148 = .ok (.ireturn, 1) := by decide +kernel
theorem dX10_count_149 : decode cX10_count 149 = .ok (.aload_n 0, 1) := by decide +kernel
theorem dX10_count_150 : decode cX10_count 150 = .ok (.getfield 28, 3) := by decide +kernel
theorem dX10_count_153 : decode cX10_count 153 = .ok (.invokevirtual 293, 3) := by decide +kernel
theorem dX10_count_156 : decode cX10_count 156 = .ok (.ireturn, 1) := by decide +kernel
theorem dX10_count_157 : decode cX10_count 157 = .ok (.aload_n 0, 1) := by decide +kernel
theorem dX10_count_158 : decode cX10_count 158 = .ok (.getfield 62, 3) := by decide +kernel
theorem dX10_count_161 : decode cX10_count 161 = .ok (.getfield 256, 3) := by decide +kernel
theorem dX10_count_164 : decode cX10_count 164 = .ok (.ireturn, 1) := by decide +kernel
theorem dX10_count_165 : decode cX10_count 165 = .ok (.aload_n 0, 1) := by decide +kernel
theorem dX10_count_166 : decode cX10_count 166 = .ok (.getfield 62, 3) := by decide +kernel
theorem dX10_count_169 : decode cX10_count 169 = .ok (.invokevirtual 296, 3) := by decide +kernel
theorem dX10_count_172 : decode cX10_count 172 = .ok (.ireturn, 1) := by decide +kernel
theorem dX10_count_173 : decode cX10_count 173 = .ok (.aload_n 0, 1) := by decide +kernel
theorem dX10_count_174 : decode cX10_count 174 = .ok (.getfield 48, 3) := by decide +kernel
theorem dX10_count_177 : decode cX10_count 177 = .ok (.getfield 299, 3) := by decide +kernel
theorem dX10_count_180 : decode cX10_count 180 = .ok (.ireturn, 1) := by decide +kernel
theorem dX10_count_181 : decode cX10_count 181 = .ok (.iconst (-1), 1) := by decide +kernel
theorem dX10_count_182 : decode cX10_count 182 = .ok (.ireturn, 1) := by decide +kernel
theorem dX10_lookAround_0 : decode cX10_lookAround 0 = .ok (.aload_n 0, 1) := by decide +kernel
theorem dX10_lookAround_1 : decode cX10_lookAround 1 = .ok (.getfield 55, 3) := by decide +kernel
theorem dX10_lookAround_4 : decode cX10_lookAround 4 = .ok (.aload_n 0, 1) := by decide +kernel
theorem dX10_lookAround_5 : decode cX10_lookAround 5 = .ok (.getfield 21, 3) := by decide +kernel
theorem dX10_lookAround_8 : decode cX10_lookAround 8 = .ok (.aload_n 0, 1) := by decide +kernel
theorem dX10_lookAround_9 : decode cX10_lookAround 9 = .ok (.getfield 28, 3) := by decide +kernel
theorem dX10_lookAround_12 : decode cX10_lookAround 12 = .ok (.getfield 123, 3) := by decide +kernel
theorem dX10_lookAround_15 : decode cX10_lookAround 15 = .ok (.invokevirtual 202, 3) := by decide +kernel
theorem dX10_lookAround_18 : decode cX10_lookAround 18 = .ok (.aload_n 0, 1) := by decide +kernel
theorem dX10_lookAround_19 : decode cX10_lookAround 19 = .ok (.getfield 55, 3) := by decide +kernel
theorem dX10_lookAround_22 : decode cX10_lookAround 22 = .ok (.aload_n 0, 1) := by decide +kernel
theorem dX10_lookAround_23 : decode cX10_lookAround 23 = .ok (.getfield 28, 3) := by decide +kernel
theorem dX10_lookAround_26 : decode cX10_lookAround 26 = .ok (.getfield 120, 3) := by decide +kernel
theorem dX10_lookAround_29 : decode cX10_lookAround 29 = .ok (.invokevirtual 300, 3) := by decide +kernel
theorem dX10_lookAround_32 : decode cX10_lookAround 32 = .ok (.return_, 1) := by decide +kernel
theorem dX10_power_0 : decode cX10_power 0 = .ok (.lconst 1, 1) := by decide +kernel
theorem dX10_power_1 : decode cX10_power 1 = .ok (.lstore_n 3, 1) := by decide +kernel
theorem dX10_power_2 : decode cX10_power 2 = .ok (.iconst 0, 1) := by decide +kernel
theorem dX10_power_3 : decode cX10_power 3 = .ok (.istore 5, 2) := by decide +kernel
theorem dX10_power_5 : decode cX10_power 5 = .ok (.iload 5, 2) := by decide +kernel
theorem dX10_power_7 : decode cX10_power 7 = .ok (.iload_n 2, 1) := by decide +kernel
theorem dX10_power_8 : decode cX10_power 8 = .ok (.if_icmp .ge 13, 3) := by decide +kernel
theorem dX10_power_11 : decode cX10_power 11 = .ok (.lload_n 3, 1) := by decide +kernel
theorem dX10_power_12 : decode cX10_power 12 = .ok (.lload_n 0, 1) := by decide +kernel
theorem dX10_power_13 : decode cX10_power 13 = .ok (.lmul, 1) := by decide +kernel
theorem dX10_power_14 : decode cX10_power 14 = .ok (.lstore_n 3, 1) := by decide +kernel
theorem dX10_power_15 : decode cX10_power 15 = .ok (.iinc 5 1, 3) := by decide +kernel
theorem dX10_power_18 : decode cX10_power 18 = .ok (.goto (-13), 3) := by decide +kernel
theorem dX10_power_21 : decode cX10_power 21 = .ok (.lload_n 3, 1) := by decide +kernel
theorem dX10_power_22 : decode cX10_power 22 = .ok (.lreturn, 1) := by decide +kernel
theorem dX10_inLeastTerms_0 : decode cX10_inLeastTerms 0 = .ok (.lload_n 2, 1) := by decide +kernel
theorem dX10_inLeastTerms_1 : decode cX10_inLeastTerms 1 = .ok (.lstore 5, 2) := by decide +kernel
theorem dX10_inLeastTerms_3 : decode cX10_inLeastTerms 3 = .ok (.lload_n 0, 1) := by decide +kernel
theorem dX10_inLeastTerms_4 : decode cX10_inLeastTerms 4 = .ok (.lstore 7, 2) := by decide +kernel
theorem dX10_inLeastTerms_6 : decode cX10_inLeastTerms 6 = .ok (.iconst 0, 1) := by decide +kernel
theorem dX10_inLeastTerms_7 : decode cX10_inLeastTerms 7 = .ok (.istore 9, 2) := by decide +kernel
theorem dX10_inLeastTerms_9 : decode cX10_inLeastTerms 9 = .ok (.iload 9, 2) := by decide +kernel
theorem dX10_inLeastTerms_11 : decode cX10_inLeastTerms 11 = .ok (.bipush 100, 2) := by decide +kernel
theorem dX10_inLeastTerms_13 : decode cX10_inLeastTerms 13 = .ok (.if_icmp .ge 31, 3) := by decide +kernel
theorem dX10_inLeastTerms_16 : decode cX10_inLeastTerms 16 = .ok (.lload 7, 2) := by decide +kernel
theorem dX10_inLeastTerms_18 : decode cX10_inLeastTerms 18 = .ok (.lconst 0, 1) := by decide +kernel
theorem dX10_inLeastTerms_19 : decode cX10_inLeastTerms 19 = .ok (.lcmp, 1) := by decide +kernel
theorem dX10_inLeastTerms_20 : decode cX10_inLeastTerms 20 = .ok (.ifCond .eq 24, 3) := by decide +kernel
theorem dX10_inLeastTerms_23 : decode cX10_inLeastTerms 23 = .ok (.lload 5, 2) := by decide +kernel
theorem dX10_inLeastTerms_25 : decode cX10_inLeastTerms 25 = .ok (.lload 7, 2) := by decide +kernel
theorem dX10_inLeastTerms_27 : decode cX10_inLeastTerms 27 = .ok (.lrem, 1) := by decide +kernel
theorem dX10_inLeastTerms_28 : decode cX10_inLeastTerms 28 = .ok (.lstore 10, 2) := by decide +kernel
theorem dX10_inLeastTerms_30 : decode cX10_inLeastTerms 30 = .ok (.lload 7, 2) := by decide +kernel
theorem dX10_inLeastTerms_32 : decode cX10_inLeastTerms 32 = .ok (.lstore 5, 2) := by decide +kernel
theorem dX10_inLeastTerms_34 : decode cX10_inLeastTerms 34 = .ok (.lload 10, 2) := by decide +kernel
theorem dX10_inLeastTerms_36 : decode cX10_inLeastTerms 36 = .ok (.lstore 7, 2) := by decide +kernel
theorem dX10_inLeastTerms_38 : decode cX10_inLeastTerms 38 = .ok (.iinc 9 1, 3) := by decide +kernel
theorem dX10_inLeastTerms_41 : decode cX10_inLeastTerms 41 = .ok (.goto (-32), 3) := by decide +kernel
theorem dX10_inLeastTerms_44 : decode cX10_inLeastTerms 44 = .ok (.lload 5, 2) := by decide +kernel
theorem dX10_inLeastTerms_46 : decode cX10_inLeastTerms 46 = .ok (.lconst 0, 1) := by decide +kernel
theorem dX10_inLeastTerms_47 : decode cX10_inLeastTerms 47 = .ok (.lcmp, 1) := by decide +kernel
theorem dX10_inLeastTerms_48 : decode cX10_inLeastTerms 48 = .ok (.ifCond .ne 7, 3) := by decide +kernel
theorem dX10_inLeastTerms_51 : decode cX10_inLeastTerms 51 = .ok (.ldc2_w 232, 3) := by decide +kernel
theorem dX10_inLeastTerms_54 : decode cX10_inLeastTerms 54 = .ok (.lreturn, 1) := by decide +kernel
theorem dX10_inLeastTerms_55 : decode cX10_inLeastTerms 55 = .ok (.iload 4, 2) := by decide +kernel
theorem dX10_inLeastTerms_57 : decode cX10_inLeastTerms 57 = .ok (.ifCond .ne 7, 3) := by decide +kernel
theorem dX10_inLeastTerms_60 : decode cX10_inLeastTerms 60 = .ok (.lload_n 0, 1) := by decide +kernel
theorem dX10_inLeastTerms_61 : decode cX10_inLeastTerms 61 = .ok (.goto 4, 3) := by decide +kernel
theorem dX10_inLeastTerms_64 : decode cX10_inLeastTerms 64 = .ok (.lload_n 2, 1) := by decide +kernel
theorem dX10_inLeastTerms_65 : decode cX10_inLeastTerms 65 = .ok (.lload 5, 2) := by decide +kernel
theorem dX10_inLeastTerms_67 : decode cX10_inLeastTerms 67 = .ok (.ldiv, 1) := by decide +kernel
theorem dX10_inLeastTerms_68 : decode cX10_inLeastTerms 68 = .ok (.lreturn, 1) := by decide +kernel
theorem dX10_rank_0 : decode cX10_rank 0 = .ok (.iload_n 0, 1) := by decide +kernel
theorem dX10_rank_1 : decode cX10_rank 1 = .ok (.tableswitch 136 10 36 #[123, 125, 127, 136, 136, 136, 136, 136, 136, 136, 136, 136, 136, 136, 136, 136, 136, 129, 129, 129, 131, 131, 133, 133, 129, 129, 129], 123) := by decide +kernel
theorem dX10_rank_124 : decode cX10_rank 124 = .ok (.iconst 1, 1) := by decide +kernel
theorem dX10_rank_125 : decode cX10_rank 125 = .ok (.ireturn, 1) := by decide +kernel
theorem dX10_rank_126 : decode cX10_rank 126 = .ok (.iconst 2, 1) := by decide +kernel
theorem dX10_rank_127 : decode cX10_rank 127 = .ok (.ireturn, 1) := by decide +kernel
theorem dX10_rank_128 : decode cX10_rank 128 = .ok (.iconst 3, 1) := by decide +kernel
theorem dX10_rank_129 : decode cX10_rank 129 = .ok (.ireturn, 1) := by decide +kernel
theorem dX10_rank_130 : decode cX10_rank 130 = .ok (.iconst 4, 1) := by decide +kernel
theorem dX10_rank_131 : decode cX10_rank 131 = .ok (.ireturn, 1) := by decide +kernel
theorem dX10_rank_132 : decode cX10_rank 132 = .ok (.iconst 5, 1) := by decide +kernel
theorem dX10_rank_133 : decode cX10_rank 133 = .ok (.ireturn, 1) := by decide +kernel
theorem dX10_rank_134 : decode cX10_rank 134 = .ok (.bipush 6, 2) := by decide +kernel
theorem dX10_rank_136 : decode cX10_rank 136 = .ok (.ireturn, 1) := by decide +kernel
theorem dX10_rank_137 : decode cX10_rank 137 = .ok (.iconst 0, 1) := by decide +kernel
theorem dX10_rank_138 : decode cX10_rank 138 = .ok (.ireturn, 1) := by decide +kernel
theorem dX11_init_0 : decode cX11_init 0 = .ok (.aload_n 0, 1) := by decide +kernel
theorem dX11_init_1 : decode cX11_init 1 = .ok (.invokespecial 1, 3) := by decide +kernel
theorem dX11_init_4 : decode cX11_init 4 = .ok (.aload_n 0, 1) := by decide +kernel
theorem dX11_init_5 : decode cX11_init 5 = .ok (.sipush 700, 3) := by decide +kernel
theorem dX11_init_8 : decode cX11_init 8 = .ok (.newarray .int, 2) := by decide +kernel
theorem dX11_init_10 : decode cX11_init 10 = .ok (.putfield 7, 3) := by decide +kernel
theorem dX11_init_13 : decode cX11_init 13 = .ok (.aload_n 0, 1) := by decide +kernel
theorem dX11_init_14 : decode cX11_init 14 = .ok (.bipush 116, 2) := by decide +kernel
theorem dX11_init_16 : decode cX11_init 16 = .ok (.newarray .int, 2) := by decide +kernel
theorem dX11_init_18 : decode cX11_init 18 = .ok (.dup, 1) := by decide +kernel
theorem dX11_init_19 : decode cX11_init 19 = .ok (.iconst 0, 1) := by decide +kernel
theorem dX11_init_20 : decode cX11_init 20 = .ok (.bipush 108, 2) := by decide +kernel
theorem dX11_init_22 : decode cX11_init 22 = .ok (.iastore, 1) := by decide +kernel
theorem dX11_init_23 : decode cX11_init 23 = .ok (.dup, 1) := by decide +kernel
theorem dX11_init_24 : decode cX11_init 24 = .ok (.iconst 1, 1) := by decide +kernel
theorem dX11_init_25 : decode cX11_init 25 = .ok (.bipush 97, 2) := by decide +kernel
theorem dX11_init_27 : decode cX11_init 27 = .ok (.iastore, 1) := by decide +kernel
theorem dX11_init_28 : decode cX11_init 28 = .ok (.dup, 1) := by decide +kernel
theorem dX11_init_29 : decode cX11_init 29 = .ok (.iconst 2, 1) := by decide +kernel
theorem dX11_init_30 : decode cX11_init 30 = .ok (.bipush 116, 2) := by decide +kernel
theorem dX11_init_32 : decode cX11_init 32 = .ok (.iastore, 1) := by decide +kernel
theorem dX11_init_33 : decode cX11_init 33 = .ok (.dup, 1) := by decide +kernel
theorem dX11_init_34 : decode cX11_init 34 = .ok (.iconst 3, 1) := by decide +kernel
theorem dX11_init_35 : decode cX11_init 35 = .ok (.bipush 99, 2) := by decide +kernel
theorem dX11_init_37 : decode cX11_init 37 = .ok (.iastore, 1) := by decide +kernel
theorem dX11_init_38 : decode cX11_init 38 = .ok (.dup, 1) := by decide +kernel
theorem dX11_init_39 : decode cX11_init 39 = .ok (.iconst 4, 1) := by decide +kernel
theorem dX11_init_40 : decode cX11_init 40 = .ok (.bipush 104, 2) := by decide +kernel
theorem dX11_init_42 : decode cX11_init 42 = .ok (.iastore, 1) := by decide +kernel
theorem dX11_init_43 : decode cX11_init 43 = .ok (.dup, 1) := by decide +kernel
theorem dX11_init_44 : decode cX11_init 44 = .ok (.iconst 5, 1) := by decide +kernel
theorem dX11_init_45 : decode cX11_init 45 = .ok (.bipush 32, 2) := by decide +kernel
theorem dX11_init_47 : decode cX11_init 47 = .ok (.iastore, 1) := by decide +kernel
theorem dX11_init_48 : decode cX11_init 48 = .ok (.dup, 1) := by decide +kernel
theorem dX11_init_49 : decode cX11_init 49 = .ok (.bipush 6, 2) := by decide +kernel
theorem dX11_init_51 : decode cX11_init 51 = .ok (.bipush 108, 2) := by decide +kernel
theorem dX11_init_53 : decode cX11_init 53 = .ok (.iastore, 1) := by decide +kernel
theorem dX11_init_54 : decode cX11_init 54 = .ok (.dup, 1) := by decide +kernel
theorem dX11_init_55 : decode cX11_init 55 = .ok (.bipush 7, 2) := by decide +kernel
theorem dX11_init_57 : decode cX11_init 57 = .ok (.bipush 101, 2) := by decide +kernel
theorem dX11_init_59 : decode cX11_init 59 = .ok (.iastore, 1) := by decide +kernel
theorem dX11_init_60 : decode cX11_init 60 = .ok (.dup, 1) := by decide +kernel
theorem dX11_init_61 : decode cX11_init 61 = .ok (.bipush 8, 2) := by decide +kernel
theorem dX11_init_63 : decode cX11_init 63 = .ok (.bipush 97, 2) := by decide +kernel
theorem dX11_init_65 : decode cX11_init 65 = .ok (.iastore, 1) := by decide +kernel
theorem dX11_init_66 : decode cX11_init 66 = .ok (.dup, 1) := by decide +kernel
theorem dX11_init_67 : decode cX11_init 67 = .ok (.bipush 9, 2) := by decide +kernel
theorem dX11_init_69 : decode cX11_init 69 = .ok (.bipush 110, 2) := by decide +kernel
theorem dX11_init_71 : decode cX11_init 71 = .ok (.iastore, 1) := by decide +kernel
theorem dX11_init_72 : decode cX11_init 72 = .ok (.dup, 1) := by decide +kernel
theorem dX11_init_73 : decode cX11_init 73 = .ok (.bipush 10, 2) := by decide +kernel
theorem dX11_init_75 : decode cX11_init 75 = .ok (.bipush 32, 2) := by decide +kernel
theorem dX11_init_77 : decode cX11_init 77 = .ok (.iastore, 1) := by decide +kernel
theorem dX11_init_78 : decode cX11_init 78 = .ok (.dup, 1) := by decide +kernel
theorem dX11_init_79 : decode cX11_init 79 = .ok (.bipush 11, 2) := by decide +kernel
theorem dX11_init_81 : decode cX11_init 81 = .ok (.bipush 112, 2) := by decide +kernel
theorem dX11_init_83 : decode cX11_init 83 = .ok (.iastore, 1) := by decide +kernel
theorem dX11_init_84 : decode cX11_init 84 = .ok (.dup, 1) := by decide +kernel
theorem dX11_init_85 : decode cX11_init 85 = .ok (.bipush 12, 2) := by decide +kernel
theorem dX11_init_87 : decode cX11_init 87 = .ok (.bipush 117, 2) := by decide +kernel
theorem dX11_init_89 : decode cX11_init 89 = .ok (.iastore, 1) := by decide +kernel
theorem dX11_init_90 : decode cX11_init 90 = .ok (.dup, 1) := by decide +kernel
theorem dX11_init_91 : decode cX11_init 91 = .ok (.bipush 13, 2) := by decide +kernel
theorem dX11_init_93 : decode cX11_init 93 = .ok (.bipush 115, 2) := by decide +kernel
theorem dX11_init_95 : decode cX11_init 95 = .ok (.iastore, 1) := by decide +kernel
theorem dX11_init_96 : decode cX11_init 96 = .ok (.dup, 1) := by decide +kernel
theorem dX11_init_97 : decode cX11_init 97 = .ok (.bipush 14, 2) := by decide +kernel
theorem dX11_init_99 : decode cX11_init 99 = .ok (.bipush 104, 2) := by decide +kernel
theorem dX11_init_101 : decode cX11_init 101 = .ok (.iastore, 1) := by decide +kernel
theorem dX11_init_102 : decode cX11_init 102 = .ok (.dup, 1) := by decide +kernel
theorem dX11_init_103 : decode cX11_init 103 = .ok (.bipush 15, 2) := by decide +kernel
theorem dX11_init_105 : decode cX11_init 105 = .ok (.bipush 32, 2) := by decide +kernel
theorem dX11_init_107 : decode cX11_init 107 = .ok (.iastore, 1) := by decide +kernel
theorem dX11_init_108 : decode cX11_init 108 = .ok (.dup, 1) := by decide +kernel
theorem dX11_init_109 : decode cX11_init 109 = .ok (.bipush 16, 2) := by decide +kernel
theorem dX11_init_111 : decode cX11_init 111 = .ok (.bipush 111, 2) := by decide +kernel
theorem dX11_init_113 : decode cX11_init 113 = .ok (.iastore, 1) := by decide +kernel
theorem dX11_init_114 : decode cX11_init 114 = .ok (.dup, 1) := by decide +kernel
theorem dX11_init_115 : decode cX11_init 115 = .ok (.bipush 17, 2) := by decide +kernel
theorem dX11_init_117 : decode cX11_init 117 = .ok (.bipush 105, 2) := by decide +kernel
theorem dX11_init_119 : decode cX11_init 119 = .ok (.iastore, 1) := by decide +kernel
theorem dX11_init_120 : decode cX11_init 120 = .ok (.dup, 1) := by decide +kernel
theorem dX11_init_121 : decode cX11_init 121 = .ok (.bipush 18, 2) := by decide +kernel
theorem dX11_init_123 : decode cX11_init 123 = .ok (.bipush 108, 2) := by decide +kernel
theorem dX11_init_125 : decode cX11_init 125 = .ok (.iastore, 1) := by decide +kernel
theorem dX11_init_126 : decode cX11_init 126 = .ok (.dup, 1) := by decide +kernel
theorem dX11_init_127 : decode cX11_init 127 = .ok (.bipush 19, 2) := by decide +kernel
theorem dX11_init_129 : decode cX11_init 129 = .ok (.bipush 32, 2) := by decide +kernel
theorem dX11_init_131 : decode cX11_init 131 = .ok (.iastore, 1) := by decide +kernel
theorem dX11_init_132 : decode cX11_init 132 = .ok (.dup, 1) := by decide +kernel
theorem dX11_init_133 : decode cX11_init 133 = .ok (.bipush 20, 2) := by decide +kernel
theorem dX11_init_135 : decode cX11_init 135 = .ok (.bipush 114, 2) := by decide +kernel
theorem dX11_init_137 : decode cX11_init 137 = .ok (.iastore, 1) := by decide +kernel
theorem dX11_init_138 : decode cX11_init 138 = .ok (.dup, 1) := by decide +kernel
theorem dX11_init_139 : decode cX11_init 139 = .ok (.bipush 21, 2) := by decide +kernel
theorem dX11_init_141 : decode cX11_init 141 = .ok (.bipush 117, 2) := by decide +kernel
theorem dX11_init_143 : decode cX11_init 143 = .ok (.iastore, 1) := by decide +kernel
theorem dX11_init_144 : decode cX11_init 144 = .ok (.dup, 1) := by decide +kernel
theorem dX11_init_145 : decode cX11_init 145 = .ok (.bipush 22, 2) := by decide +kernel
theorem dX11_init_147 : decode cX11_init 147 = .ok (.bipush 115, 2) := by decide +kernel
theorem dX11_init_149 : decode cX11_init 149 = .ok (.iastore, 1) := by decide +kernel
theorem dX11_init_150 : decode cX11_init 150 = .ok (.dup, 1) := by decide +kernel
theorem dX11_init_151 : decode cX11_init 151 = .ok (.bipush 23, 2) := by decide +kernel
theorem dX11_init_153 : decode cX11_init 153 = .ok (.bipush 116, 2) := by decide +kernel
theorem dX11_init_155 : decode cX11_init 155 = .ok (.iastore, 1) := by decide +kernel
theorem dX11_init_156 : decode cX11_init 156 = .ok (.dup, 1) := by decide +kernel
theorem dX11_init_157 : decode cX11_init 157 = .ok (.bipush 24, 2) := by decide +kernel
theorem dX11_init_159 : decode cX11_init 159 = .ok (.bipush 32, 2) := by decide +kernel
theorem dX11_init_161 : decode cX11_init 161 = .ok (.iastore, 1) := by decide +kernel
theorem dX11_init_162 : decode cX11_init 162 = .ok (.dup, 1) := by decide +kernel
theorem dX11_init_163 : decode cX11_init 163 = .ok (.bipush 25, 2) := by decide +kernel
theorem dX11_init_165 : decode cX11_init 165 = .ok (.bipush 115, 2) := by decide +kernel
theorem dX11_init_167 : decode cX11_init 167 = .ok (.iastore, 1) := by decide +kernel
theorem dX11_init_168 : decode cX11_init 168 = .ok (.dup, 1) := by decide +kernel
theorem dX11_init_169 : decode cX11_init 169 = .ok (.bipush 26, 2) := by decide +kernel
theorem dX11_init_171 : decode cX11_init 171 = .ok (.bipush 101, 2) := by decide +kernel
theorem dX11_init_173 : decode cX11_init 173 = .ok (.iastore, 1) := by decide +kernel
theorem dX11_init_174 : decode cX11_init 174 = .ok (.dup, 1) := by decide +kernel
theorem dX11_init_175 : decode cX11_init 175 = .ok (.bipush 27, 2) := by decide +kernel
theorem dX11_init_177 : decode cX11_init 177 = .ok (.bipush 101, 2) := by decide +kernel
theorem dX11_init_179 : decode cX11_init 179 = .ok (.iastore, 1) := by decide +kernel
theorem dX11_init_180 : decode cX11_init 180 = .ok (.dup, 1) := by decide +kernel
theorem dX11_init_181 : decode cX11_init 181 = .ok (.bipush 28, 2) := by decide +kernel
theorem dX11_init_183 : decode cX11_init 183 = .ok (.bipush 100, 2) := by decide +kernel
theorem dX11_init_185 : decode cX11_init 185 = .ok (.iastore, 1) := by decide +kernel
theorem dX11_init_186 : decode cX11_init 186 = .ok (.dup, 1) := by decide +kernel
theorem dX11_init_187 : decode cX11_init 187 = .ok (.bipush 29, 2) := by decide +kernel
theorem dX11_init_189 : decode cX11_init 189 = .ok (.bipush 32, 2) := by decide +kernel
theorem dX11_init_191 : decode cX11_init 191 = .ok (.iastore, 1) := by decide +kernel
theorem dX11_init_192 : decode cX11_init 192 = .ok (.dup, 1) := by decide +kernel
theorem dX11_init_193 : decode cX11_init 193 = .ok (.bipush 30, 2) := by decide +kernel
theorem dX11_init_195 : decode cX11_init 195 = .ok (.bipush 108, 2) := by decide +kernel
theorem dX11_init_197 : decode cX11_init 197 = .ok (.iastore, 1) := by decide +kernel
theorem dX11_init_198 : decode cX11_init 198 = .ok (.dup, 1) := by decide +kernel
theorem dX11_init_199 : decode cX11_init 199 = .ok (.bipush 31, 2) := by decide +kernel
theorem dX11_init_201 : decode cX11_init 201 = .ok (.bipush 97, 2) := by decide +kernel
theorem dX11_init_203 : decode cX11_init 203 = .ok (.iastore, 1) := by decide +kernel
theorem dX11_init_204 : decode cX11_init 204 = .ok (.dup, 1) := by decide +kernel
theorem dX11_init_205 : decode cX11_init 205 = .ok (.bipush 32, 2) := by decide +kernel
theorem dX11_init_207 : decode cX11_init 207 = .ok (.bipush 119, 2) := by decide +kernel
theorem dX11_init_209 : decode cX11_init 209 = .ok (.iastore, 1) := by decide +kernel
theorem dX11_init_210 : decode cX11_init 210 = .ok (.dup, 1) := by decide +kernel
theorem dX11_init_211 : decode cX11_init 211 = .ok (.bipush 33, 2) := by decide +kernel
theorem dX11_init_213 : decode cX11_init 213 = .ok (.bipush 32, 2) := by decide +kernel
theorem dX11_init_215 : decode cX11_init 215 = .ok (.iastore, 1) := by decide +kernel
theorem dX11_init_216 : decode cX11_init 216 = .ok (.dup, 1) := by decide +kernel
theorem dX11_init_217 : decode cX11_init 217 = .ok (.bipush 34, 2) := by decide +kernel
theorem dX11_init_219 : decode cX11_init 219 = .ok (.bipush 101, 2) := by decide +kernel
theorem dX11_init_221 : decode cX11_init 221 = .ok (.iastore, 1) := by decide +kernel
theorem dX11_init_222 : decode cX11_init 222 = .ok (.dup, 1) := by decide +kernel
theorem dX11_init_223 : decode cX11_init 223 = .ok (.bipush 35, 2) := by decide +kernel
theorem dX11_init_225 : decode cX11_init 225 = .ok (.bipush 102, 2) := by decide +kernel
theorem dX11_init_227 : decode cX11_init 227 = .ok (.iastore, 1) := by decide +kernel
theorem dX11_init_228 : decode cX11_init 228 = .ok (.dup, 1) := by decide +kernel
theorem dX11_init_229 : decode cX11_init 229 = .ok (.bipush 36, 2) := by decide +kernel
theorem dX11_init_231 : decode cX11_init 231 = .ok (.bipush 102, 2) := by decide +kernel
theorem dX11_init_233 : decode cX11_init 233 = .ok (.iastore, 1) := by decide +kernel
theorem dX11_init_234 : decode cX11_init 234 = .ok (.dup, 1) := by decide +kernel
theorem dX11_init_235 : decode cX11_init 235 = .ok (.bipush 37, 2) := by decide +kernel
theorem dX11_init_237 : decode cX11_init 237 = .ok (.bipush 111, 2) := by decide +kernel
theorem dX11_init_239 : decode cX11_init 239 = .ok (.iastore, 1) := by decide +kernel
theorem dX11_init_240 : decode cX11_init 240 = .ok (.dup, 1) := by decide +kernel
theorem dX11_init_241 : decode cX11_init 241 = .ok (.bipush 38, 2) := by decide +kernel
theorem dX11_init_243 : decode cX11_init 243 = .ok (.bipush 114, 2) := by decide +kernel
theorem dX11_init_245 : decode cX11_init 245 = .ok (.iastore, 1) := by decide +kernel
theorem dX11_init_246 : decode cX11_init 246 = .ok (.dup, 1) := by decide +kernel
theorem dX11_init_247 : decode cX11_init 247 = .ok (.bipush 39, 2) := by decide +kernel
theorem dX11_init_249 : decode cX11_init 249 = .ok (.bipush 116, 2) := by decide +kernel
theorem dX11_init_251 : decode cX11_init 251 = .ok (.iastore, 1) := by decide +kernel
theorem dX11_init_252 : decode cX11_init 252 = .ok (.dup, 1) := by decide +kernel
theorem dX11_init_253 : decode cX11_init 253 = .ok (.bipush 40, 2) := by decide +kernel
theorem dX11_init_255 : decode cX11_init 255 = .ok (.bipush 32, 2) := by decide +kernel
theorem dX11_init_257 : decode cX11_init 257 = .ok (.iastore, 1) := by decide +kernel
theorem dX11_init_258 : decode cX11_init 258 = .ok (.dup, 1) := by decide +kernel
theorem dX11_init_259 : decode cX11_init 259 = .ok (.bipush 41, 2) := by decide +kernel
theorem dX11_init_261 : decode cX11_init 261 = .ok (.bipush 115, 2) := by decide +kernel
theorem dX11_init_263 : decode cX11_init 263 = .ok (.iastore, 1) := by decide +kernel
theorem dX11_init_264 : decode cX11_init 264 = .ok (.dup, 1) := by decide +kernel
theorem dX11_init_265 : decode cX11_init 265 = .ok (.bipush 42, 2) := by decide +kernel
theorem dX11_init_267 : decode cX11_init 267 = .ok (.bipush 101, 2) := by decide +kernel
theorem dX11_init_269 : decode cX11_init 269 = .ok (.iastore, 1) := by decide +kernel
theorem dX11_init_270 : decode cX11_init 270 = .ok (.dup, 1) := by decide +kernel
theorem dX11_init_271 : decode cX11_init 271 = .ok (.bipush 43, 2) := by decide +kernel
theorem dX11_init_273 : decode cX11_init 273 = .ok (.bipush 97, 2) := by decide +kernel
theorem dX11_init_275 : decode cX11_init 275 = .ok (.iastore, 1) := by decide +kernel
theorem dX11_init_276 : decode cX11_init 276 = .ok (.dup, 1) := by decide +kernel
theorem dX11_init_277 : decode cX11_init 277 = .ok (.bipush 44, 2) := by decide +kernel
theorem dX11_init_279 : decode cX11_init 279 = .ok (.bipush 108, 2) := by decide +kernel
theorem dX11_init_281 : decode cX11_init 281 = .ok (.iastore, 1) := by decide +kernel
theorem dX11_init_282 : decode cX11_init 282 = .ok (.dup, 1) := by decide +kernel
theorem dX11_init_283 : decode cX11_init 283 = .ok (.bipush 45, 2) := by decide +kernel
theorem dX11_init_285 : decode cX11_init 285 = .ok (.bipush 32, 2) := by decide +kernel
theorem dX11_init_287 : decode cX11_init 287 = .ok (.iastore, 1) := by decide +kernel
theorem dX11_init_288 : decode cX11_init 288 = .ok (.dup, 1) := by decide +kernel
theorem dX11_init_289 : decode cX11_init 289 = .ok (.bipush 46, 2) := by decide +kernel
theorem dX11_init_291 : decode cX11_init 291 = .ok (.bipush 101, 2) := by decide +kernel
theorem dX11_init_293 : decode cX11_init 293 = .ok (.iastore, 1) := by decide +kernel
theorem dX11_init_294 : decode cX11_init 294 = .ok (.dup, 1) := by decide +kernel
theorem dX11_init_295 : decode cX11_init 295 = .ok (.bipush 47, 2) := by decide +kernel
theorem dX11_init_297 : decode cX11_init 297 = .ok (.bipush 97, 2) := by decide +kernel
theorem dX11_init_299 : decode cX11_init 299 = .ok (.iastore, 1) := by decide +kernel
theorem dX11_init_300 : decode cX11_init 300 = .ok (.dup, 1) := by decide +kernel
theorem dX11_init_301 : decode cX11_init 301 = .ok (.bipush 48, 2) := by decide +kernel
theorem dX11_init_303 : decode cX11_init 303 = .ok (.bipush 116, 2) := by decide +kernel
theorem dX11_init_305 : decode cX11_init 305 = .ok (.iastore, 1) := by decide +kernel
theorem dX11_init_306 : decode cX11_init 306 = .ok (.dup, 1) := by decide +kernel
theorem dX11_init_307 : decode cX11_init 307 = .ok (.bipush 49, 2) := by decide +kernel
theorem dX11_init_309 : decode cX11_init 309 = .ok (.bipush 32, 2) := by decide +kernel
theorem dX11_init_311 : decode cX11_init 311 = .ok (.iastore, 1) := by decide +kernel
theorem dX11_init_312 : decode cX11_init 312 = .ok (.dup, 1) := by decide +kernel
theorem dX11_init_313 : decode cX11_init 313 = .ok (.bipush 50, 2) := by decide +kernel
theorem dX11_init_315 : decode cX11_init 315 = .ok (.bipush 117, 2) := by decide +kernel
theorem dX11_init_317 : decode cX11_init 317 = .ok (.iastore, 1) := by decide +kernel
theorem dX11_init_318 : decode cX11_init 318 = .ok (.dup, 1) := by decide +kernel
theorem dX11_init_319 : decode cX11_init 319 = .ok (.bipush 51, 2) := by decide +kernel
theorem dX11_init_321 : decode cX11_init 321 = .ok (.bipush 112, 2) := by decide +kernel
theorem dX11_init_323 : decode cX11_init 323 = .ok (.iastore, 1) := by decide +kernel
theorem dX11_init_324 : decode cX11_init 324 = .ok (.dup, 1) := by decide +kernel
theorem dX11_init_325 : decode cX11_init 325 = .ok (.bipush 52, 2) := by decide +kernel
theorem dX11_init_327 : decode cX11_init 327 = .ok (.bipush 32, 2) := by decide +kernel
theorem dX11_init_329 : decode cX11_init 329 = .ok (.iastore, 1) := by decide +kernel
theorem dX11_init_330 : decode cX11_init 330 = .ok (.dup, 1) := by decide +kernel
theorem dX11_init_331 : decode cX11_init 331 = .ok (.bipush 53, 2) := by decide +kernel
theorem dX11_init_333 : decode cX11_init 333 = .ok (.bipush 100, 2) := by decide +kernel
theorem dX11_init_335 : decode cX11_init 335 = .ok (.iastore, 1) := by decide +kernel
theorem dX11_init_336 : decode cX11_init 336 = .ok (.dup, 1) := by decide +kernel
theorem dX11_init_337 : decode cX11_init 337 = .ok (.bipush 54, 2) := by decide +kernel
theorem dX11_init_339 : decode cX11_init 339 = .ok (.bipush 111, 2) := by decide +kernel
theorem dX11_init_341 : decode cX11_init 341 = .ok (.iastore, 1) := by decide +kernel
theorem dX11_init_342 : decode cX11_init 342 = .ok (.dup, 1) := by decide +kernel
theorem dX11_init_343 : decode cX11_init 343 = .ok (.bipush 55, 2) := by decide +kernel
theorem dX11_init_345 : decode cX11_init 345 = .ok (.bipush 119, 2) := by decide +kernel
theorem dX11_init_347 : decode cX11_init 347 = .ok (.iastore, 1) := by decide +kernel
theorem dX11_init_348 : decode cX11_init 348 = .ok (.dup, 1) := by decide +kernel
theorem dX11_init_349 : decode cX11_init 349 = .ok (.bipush 56, 2) := by decide +kernel
theorem dX11_init_351 : decode cX11_init 351 = .ok (.bipush 110, 2) := by decide +kernel
theorem dX11_init_353 : decode cX11_init 353 = .ok (.iastore, 1) := by decide +kernel
theorem dX11_init_354 : decode cX11_init 354 = .ok (.dup, 1) := by decide +kernel
theorem dX11_init_355 : decode cX11_init 355 = .ok (.bipush 57, 2) := by decide +kernel
theorem dX11_init_357 : decode cX11_init 357 = .ok (.bipush 32, 2) := by decide +kernel
theorem dX11_init_359 : decode cX11_init 359 = .ok (.iastore, 1) := by decide +kernel
theorem dX11_init_360 : decode cX11_init 360 = .ok (.dup, 1) := by decide +kernel
theorem dX11_init_361 : decode cX11_init 361 = .ok (.bipush 58, 2) := by decide +kernel
theorem dX11_init_363 : decode cX11_init 363 = .ok (.bipush 109, 2) := by decide +kernel
theorem dX11_init_365 : decode cX11_init 365 = .ok (.iastore, 1) := by decide +kernel
theorem dX11_init_366 : decode cX11_init 366 = .ok (.dup, 1) := by decide +kernel
theorem dX11_init_367 : decode cX11_init 367 = .ok (.bipush 59, 2) := by decide +kernel
theorem dX11_init_369 : decode cX11_init 369 = .ok (.bipush 97, 2) := by decide +kernel
theorem dX11_init_371 : decode cX11_init 371 = .ok (.iastore, 1) := by decide +kernel
theorem dX11_init_372 : decode cX11_init 372 = .ok (.dup, 1) := by decide +kernel
theorem dX11_init_373 : decode cX11_init 373 = .ok (.bipush 60, 2) := by decide +kernel
theorem dX11_init_375 : decode cX11_init 375 = .ok (.bipush 110, 2) := by decide +kernel
theorem dX11_init_377 : decode cX11_init 377 = .ok (.iastore, 1) := by decide +kernel
theorem dX11_init_378 : decode cX11_init 378 = .ok (.dup, 1) := by decide +kernel
theorem dX11_init_379 : decode cX11_init 379 = .ok (.bipush 61, 2) := by decide +kernel
theorem dX11_init_381 : decode cX11_init 381 = .ok (.bipush 121, 2) := by decide +kernel
theorem dX11_init_383 : decode cX11_init 383 = .ok (.iastore, 1) := by decide +kernel
theorem dX11_init_384 : decode cX11_init 384 = .ok (.dup, 1) := by decide +kernel
theorem dX11_init_385 : decode cX11_init 385 = .ok (.bipush 62, 2) := by decide +kernel
theorem dX11_init_387 : decode cX11_init 387 = .ok (.bipush 32, 2) := by decide +kernel
theorem dX11_init_389 : decode cX11_init 389 = .ok (.iastore, 1) := by decide +kernel
theorem dX11_init_390 : decode cX11_init 390 = .ok (.dup, 1) := by decide +kernel
theorem dX11_init_391 : decode cX11_init 391 = .ok (.bipush 63, 2) := by decide +kernel
theorem dX11_init_393 : decode cX11_init 393 = .ok (.bipush 97, 2) := by decide +kernel
theorem dX11_init_395 : decode cX11_init 395 = .ok (.iastore, 1) := by decide +kernel
theorem dX11_init_396 : decode cX11_init 396 = .ok (.dup, 1) := by decide +kernel
theorem dX11_init_397 : decode cX11_init 397 = .ok (.bipush 64, 2) := by decide +kernel
theorem dX11_init_399 : decode cX11_init 399 = .ok (.bipush 115, 2) := by decide +kernel
theorem dX11_init_401 : decode cX11_init 401 = .ok (.iastore, 1) := by decide +kernel
theorem dX11_init_402 : decode cX11_init 402 = .ok (.dup, 1) := by decide +kernel
theorem dX11_init_403 : decode cX11_init 403 = .ok (.bipush 65, 2) := by decide +kernel
theorem dX11_init_405 : decode cX11_init 405 = .ok (.bipush 32, 2) := by decide +kernel
theorem dX11_init_407 : decode cX11_init 407 = .ok (.iastore, 1) := by decide +kernel
theorem dX11_init_408 : decode cX11_init 408 = .ok (.dup, 1) := by decide +kernel
theorem dX11_init_409 : decode cX11_init 409 = .ok (.bipush 66, 2) := by decide +kernel
theorem dX11_init_411 : decode cX11_init 411 = .ok (.bipush 97, 2) := by decide +kernel
theorem dX11_init_413 : decode cX11_init 413 = .ok (.iastore, 1) := by decide +kernel
theorem dX11_init_414 : decode cX11_init 414 = .ok (.dup, 1) := by decide +kernel
theorem dX11_init_415 : decode cX11_init 415 = .ok (.bipush 67, 2) := by decide +kernel
theorem dX11_init_417 : decode cX11_init 417 = .ok (.bipush 110, 2) := by decide +kernel
theorem dX11_init_419 : decode cX11_init 419 = .ok (.iastore, 1) := by decide +kernel
theorem dX11_init_420 : decode cX11_init 420 = .ok (.dup, 1) := by decide +kernel
theorem dX11_init_421 : decode cX11_init 421 = .ok (.bipush 68, 2) := by decide +kernel
theorem dX11_init_423 : decode cX11_init 423 = .ok (.bipush 100, 2) := by decide +kernel
theorem dX11_init_425 : decode cX11_init 425 = .ok (.iastore, 1) := by decide +kernel
theorem dX11_init_426 : decode cX11_init 426 = .ok (.dup, 1) := by decide +kernel
theorem dX11_init_427 : decode cX11_init 427 = .ok (.bipush 69, 2) := by decide +kernel
theorem dX11_init_429 : decode cX11_init 429 = .ok (.bipush 32, 2) := by decide +kernel
theorem dX11_init_431 : decode cX11_init 431 = .ok (.iastore, 1) := by decide +kernel
theorem dX11_init_432 : decode cX11_init 432 = .ok (.dup, 1) := by decide +kernel
theorem dX11_init_433 : decode cX11_init 433 = .ok (.bipush 70, 2) := by decide +kernel
theorem dX11_init_435 : decode cX11_init 435 = .ok (.bipush 111, 2) := by decide +kernel
theorem dX11_init_437 : decode cX11_init 437 = .ok (.iastore, 1) := by decide +kernel
theorem dX11_init_438 : decode cX11_init 438 = .ok (.dup, 1) := by decide +kernel
theorem dX11_init_439 : decode cX11_init 439 = .ok (.bipush 71, 2) := by decide +kernel
theorem dX11_init_441 : decode cX11_init 441 = .ok (.bipush 114, 2) := by decide +kernel
theorem dX11_init_443 : decode cX11_init 443 = .ok (.iastore, 1) := by decide +kernel
theorem dX11_init_444 : decode cX11_init 444 = .ok (.dup, 1) := by decide +kernel
theorem dX11_init_445 : decode cX11_init 445 = .ok (.bipush 72, 2) := by decide +kernel
theorem dX11_init_447 : decode cX11_init 447 = .ok (.bipush 32, 2) := by decide +kernel
theorem dX11_init_449 : decode cX11_init 449 = .ok (.iastore, 1) := by decide +kernel
theorem dX11_init_450 : decode cX11_init 450 = .ok (.dup, 1) := by decide +kernel
theorem dX11_init_451 : decode cX11_init 451 = .ok (.bipush 73, 2) := by decide +kernel
theorem dX11_init_453 : decode cX11_init 453 = .ok (.bipush 110, 2) := by decide +kernel
theorem dX11_init_455 : decode cX11_init 455 = .ok (.iastore, 1) := by decide +kernel
theorem dX11_init_456 : decode cX11_init 456 = .ok (.dup, 1) := by decide +kernel
theorem dX11_init_457 : decode cX11_init 457 = .ok (.bipush 74, 2) := by decide +kernel
theorem dX11_init_459 : decode cX11_init 459 = .ok (.bipush 111, 2) := by decide +kernel
theorem dX11_init_461 : decode cX11_init 461 = .ok (.iastore, 1) := by decide +kernel
theorem dX11_init_462 : decode cX11_init 462 = .ok (.dup, 1) := by decide +kernel
theorem dX11_init_463 : decode cX11_init 463 = .ok (.bipush 75, 2) := by decide +kernel
theorem dX11_init_465 : decode cX11_init 465 = .ok (.bipush 116, 2) := by decide +kernel
theorem dX11_init_467 : decode cX11_init 467 = .ok (.iastore, 1) := by decide +kernel
theorem dX11_init_468 : decode cX11_init 468 = .ok (.dup, 1) := by decide +kernel
theorem dX11_init_469 : decode cX11_init 469 = .ok (.bipush 76, 2) := by decide +kernel
theorem dX11_init_471 : decode cX11_init 471 = .ok (.bipush 32, 2) := by decide +kernel
theorem dX11_init_473 : decode cX11_init 473 = .ok (.iastore, 1) := by decide +kernel
theorem dX11_init_474 : decode cX11_init 474 = .ok (.dup, 1) := by decide +kernel
theorem dX11_init_475 : decode cX11_init 475 = .ok (.bipush 77, 2) := by decide +kernel
theorem dX11_init_477 : decode cX11_init 477 = .ok (.bipush 119, 2) := by decide +kernel
theorem dX11_init_479 : decode cX11_init 479 = .ok (.iastore, 1) := by decide +kernel
theorem dX11_init_480 : decode cX11_init 480 = .ok (.dup, 1) := by decide +kernel
theorem dX11_init_481 : decode cX11_init 481 = .ok (.bipush 78, 2) := by decide +kernel
theorem dX11_init_483 : decode cX11_init 483 = .ok (.bipush 111, 2) := by decide +kernel
theorem dX11_init_485 : decode cX11_init 485 = .ok (.iastore, 1) := by decide +kernel
theorem dX11_init_486 : decode cX11_init 486 = .ok (.dup, 1) := by decide +kernel
theorem dX11_init_487 : decode cX11_init 487 = .ok (.bipush 79, 2) := by decide +kernel
theorem dX11_init_489 : decode cX11_init 489 = .ok (.bipush 114, 2) := by decide +kernel
theorem dX11_init_491 : decode cX11_init 491 = .ok (.iastore, 1) := by decide +kernel
theorem dX11_init_492 : decode cX11_init 492 = .ok (.dup, 1) := by decide +kernel
theorem dX11_init_493 : decode cX11_init 493 = .ok (.bipush 80, 2) := by decide +kernel
theorem dX11_init_495 : decode cX11_init 495 = .ok (.bipush 110, 2) := by decide +kernel
theorem dX11_init_497 : decode cX11_init 497 = .ok (.iastore, 1) := by decide +kernel
theorem dX11_init_498 : decode cX11_init 498 = .ok (.dup, 1) := by decide +kernel
theorem dX11_init_499 : decode cX11_init 499 = .ok (.bipush 81, 2) := by decide +kernel
theorem dX11_init_501 : decode cX11_init 501 = .ok (.bipush 32, 2) := by decide +kernel
theorem dX11_init_503 : decode cX11_init 503 = .ok (.iastore, 1) := by decide +kernel
theorem dX11_init_504 : decode cX11_init 504 = .ok (.dup, 1) := by decide +kernel
theorem dX11_init_505 : decode cX11_init 505 = .ok (.bipush 82, 2) := by decide +kernel
theorem dX11_init_507 : decode cX11_init 507 = .ok (.bipush 112, 2) := by decide +kernel
theorem dX11_init_509 : decode cX11_init 509 = .ok (.iastore, 1) := by decide +kernel
theorem dX11_init_510 : decode cX11_init 510 = .ok (.dup, 1) := by decide +kernel
theorem dX11_init_511 : decode cX11_init 511 = .ok (.bipush 83, 2) := by decide +kernel
theorem dX11_init_513 : decode cX11_init 513 = .ok (.bipush 108, 2) := by decide +kernel
theorem dX11_init_515 : decode cX11_init 515 = .ok (.iastore, 1) := by decide +kernel
theorem dX11_init_516 : decode cX11_init 516 = .ok (.dup, 1) := by decide +kernel
theorem dX11_init_517 : decode cX11_init 517 = .ok (.bipush 84, 2) := by decide +kernel
theorem dX11_init_519 : decode cX11_init 519 = .ok (.bipush 97, 2) := by decide +kernel
theorem dX11_init_521 : decode cX11_init 521 = .ok (.iastore, 1) := by decide +kernel
theorem dX11_init_522 : decode cX11_init 522 = .ok (.dup, 1) := by decide +kernel
theorem dX11_init_523 : decode cX11_init 523 = .ok (.bipush 85, 2) := by decide +kernel
theorem dX11_init_525 : decode cX11_init 525 = .ok (.bipush 99, 2) := by decide +kernel
theorem dX11_init_527 : decode cX11_init 527 = .ok (.iastore, 1) := by decide +kernel
theorem dX11_init_528 : decode cX11_init 528 = .ok (.dup, 1) := by decide +kernel
theorem dX11_init_529 : decode cX11_init 529 = .ok (.bipush 86, 2) := by decide +kernel
theorem dX11_init_531 : decode cX11_init 531 = .ok (.bipush 101, 2) := by decide +kernel
theorem dX11_init_533 : decode cX11_init 533 = .ok (.iastore, 1) := by decide +kernel
theorem dX11_init_534 : decode cX11_init 534 = .ok (.dup, 1) := by decide +kernel
theorem dX11_init_535 : decode cX11_init 535 = .ok (.bipush 87, 2) := by decide +kernel
theorem dX11_init_537 : decode cX11_init 537 = .ok (.bipush 32, 2) := by decide +kernel
theorem dX11_init_539 : decode cX11_init 539 = .ok (.iastore, 1) := by decide +kernel
theorem dX11_init_540 : decode cX11_init 540 = .ok (.dup, 1) := by decide +kernel
theorem dX11_init_541 : decode cX11_init 541 = .ok (.bipush 88, 2) := by decide +kernel
theorem dX11_init_543 : decode cX11_init 543 = .ok (.bipush 117, 2) := by decide +kernel
theorem dX11_init_545 : decode cX11_init 545 = .ok (.iastore, 1) := by decide +kernel
theorem dX11_init_546 : decode cX11_init 546 = .ok (.dup, 1) := by decide +kernel
theorem dX11_init_547 : decode cX11_init 547 = .ok (.bipush 89, 2) := by decide +kernel
theorem dX11_init_549 : decode cX11_init 549 = .ok (.bipush 112, 2) := by decide +kernel
theorem dX11_init_551 : decode cX11_init 551 = .ok (.iastore, 1) := by decide +kernel
theorem dX11_init_552 : decode cX11_init 552 = .ok (.dup, 1) := by decide +kernel
theorem dX11_init_553 : decode cX11_init 553 = .ok (.bipush 90, 2) := by decide +kernel
theorem dX11_init_555 : decode cX11_init 555 = .ok (.bipush 115, 2) := by decide +kernel
theorem dX11_init_557 : decode cX11_init 557 = .ok (.iastore, 1) := by decide +kernel
theorem dX11_init_558 : decode cX11_init 558 = .ok (.dup, 1) := by decide +kernel
theorem dX11_init_559 : decode cX11_init 559 = .ok (.bipush 91, 2) := by decide +kernel
theorem dX11_init_561 : decode cX11_init 561 = .ok (.bipush 32, 2) := by decide +kernel
theorem dX11_init_563 : decode cX11_init 563 = .ok (.iastore, 1) := by decide +kernel
theorem dX11_init_564 : decode cX11_init 564 = .ok (.dup, 1) := by decide +kernel
theorem dX11_init_565 : decode cX11_init 565 = .ok (.bipush 92, 2) := by decide +kernel
theorem dX11_init_567 : decode cX11_init 567 = .ok (.bipush 115, 2) := by decide +kernel
theorem dX11_init_569 : decode cX11_init 569 = .ok (.iastore, 1) := by decide +kernel
theorem dX11_init_570 : decode cX11_init 570 = .ok (.dup, 1) := by decide +kernel
theorem dX11_init_571 : decode cX11_init 571 = .ok (.bipush 93, 2) := by decide +kernel
theorem dX11_init_573 : decode cX11_init 573 = .ok (.bipush 101, 2) := by decide +kernel
theorem dX11_init_575 : decode cX11_init 575 = .ok (.iastore, 1) := by decide +kernel
theorem dX11_init_576 : decode cX11_init 576 = .ok (.dup, 1) := by decide +kernel
theorem dX11_init_577 : decode cX11_init 577 = .ok (.bipush 94, 2) := by decide +kernel
theorem dX11_init_579 : decode cX11_init 579 = .ok (.bipush 97, 2) := by decide +kernel
theorem dX11_init_581 : decode cX11_init 581 = .ok (.iastore, 1) := by decide +kernel
theorem dX11_init_582 : decode cX11_init 582 = .ok (.dup, 1) := by decide +kernel
theorem dX11_init_583 : decode cX11_init 583 = .ok (.bipush 95, 2) := by decide +kernel
theorem dX11_init_585 : decode cX11_init 585 = .ok (.bipush 108, 2) := by decide +kernel
theorem dX11_init_587 : decode cX11_init 587 = .ok (.iastore, 1) := by decide +kernel
theorem dX11_init_588 : decode cX11_init 588 = .ok (.dup, 1) := by decide +kernel
theorem dX11_init_589 : decode cX11_init 589 = .ok (.bipush 96, 2) := by decide +kernel
theorem dX11_init_591 : decode cX11_init 591 = .ok (.bipush 115, 2) := by decide +kernel
theorem dX11_init_593 : decode cX11_init 593 = .ok (.iastore, 1) := by decide +kernel
theorem dX11_init_594 : decode cX11_init 594 = .ok (.dup, 1) := by decide +kernel
theorem dX11_init_595 : decode cX11_init 595 = .ok (.bipush 97, 2) := by decide +kernel
theorem dX11_init_597 : decode cX11_init 597 = .ok (.bipush 32, 2) := by decide +kernel
theorem dX11_init_599 : decode cX11_init 599 = .ok (.iastore, 1) := by decide +kernel
theorem dX11_init_600 : decode cX11_init 600 = .ok (.dup, 1) := by decide +kernel
theorem dX11_init_601 : decode cX11_init 601 = .ok (.bipush 98, 2) := by decide +kernel
theorem dX11_init_603 : decode cX11_init 603 = .ok (.bipush 104, 2) := by decide +kernel
theorem dX11_init_605 : decode cX11_init 605 = .ok (.iastore, 1) := by decide +kernel
theorem dX11_init_606 : decode cX11_init 606 = .ok (.dup, 1) := by decide +kernel
theorem dX11_init_607 : decode cX11_init 607 = .ok (.bipush 99, 2) := by decide +kernel
theorem dX11_init_609 : decode cX11_init 609 = .ok (.bipush 105, 2) := by decide +kernel
theorem dX11_init_611 : decode cX11_init 611 = .ok (.iastore, 1) := by decide +kernel
theorem dX11_init_612 : decode cX11_init 612 = .ok (.dup, 1) := by decide +kernel
theorem dX11_init_613 : decode cX11_init 613 = .ok (.bipush 100, 2) := by decide +kernel
theorem dX11_init_615 : decode cX11_init 615 = .ok (.bipush 103, 2) := by decide +kernel
theorem dX11_init_617 : decode cX11_init 617 = .ok (.iastore, 1) := by decide +kernel
theorem dX11_init_618 : decode cX11_init 618 = .ok (.dup, 1) := by decide +kernel
theorem dX11_init_619 : decode cX11_init 619 = .ok (.bipush 101, 2) := by decide +kernel
theorem dX11_init_621 : decode cX11_init 621 = .ok (.bipush 104, 2) := by decide +kernel
theorem dX11_init_623 : decode cX11_init 623 = .ok (.iastore, 1) := by decide +kernel
theorem dX11_init_624 : decode cX11_init 624 = .ok (.dup, 1) := by decide +kernel
theorem dX11_init_625 : decode cX11_init 625 = .ok (.bipush 102, 2) := by decide +kernel
theorem dX11_init_627 : decode cX11_init 627 = .ok (.bipush 32, 2) := by decide +kernel
theorem dX11_init_629 : decode cX11_init 629 = .ok (.iastore, 1) := by decide +kernel
theorem dX11_init_630 : decode cX11_init 630 = .ok (.dup, 1) := by decide +kernel
theorem dX11_init_631 : decode cX11_init 631 = .ok (.bipush 103, 2) := by decide +kernel
theorem dX11_init_633 : decode cX11_init 633 = .ok (.bipush 116, 2) := by decide +kernel
theorem dX11_init_635 : decode cX11_init 635 = .ok (.iastore, 1) := by decide +kernel
theorem dX11_init_636 : decode cX11_init 636 = .ok (.dup, 1) := by decide +kernel
theorem dX11_init_637 : decode cX11_init 637 = .ok (.bipush 104, 2) := by decide +kernel
theorem dX11_init_639 : decode cX11_init 639 = .ok (.bipush 105, 2) := by decide +kernel
theorem dX11_init_641 : decode cX11_init 641 = .ok (.iastore, 1) := by decide +kernel
theorem dX11_init_642 : decode cX11_init 642 = .ok (.dup, 1) := by decide +kernel
theorem dX11_init_643 : decode cX11_init 643 = .ok (.bipush 105, 2) := by decide +kernel
theorem dX11_init_645 : decode cX11_init 645 = .ok (.bipush 114, 2) := by decide +kernel
theorem dX11_init_647 : decode cX11_init 647 = .ok (.iastore, 1) := by decide +kernel
theorem dX11_init_648 : decode cX11_init 648 = .ok (.dup, 1) := by decide +kernel
theorem dX11_init_649 : decode cX11_init 649 = .ok (.bipush 106, 2) := by decide +kernel
theorem dX11_init_651 : decode cX11_init 651 = .ok (.bipush 101, 2) := by decide +kernel
theorem dX11_init_653 : decode cX11_init 653 = .ok (.iastore, 1) := by decide +kernel
theorem dX11_init_654 : decode cX11_init 654 = .ok (.dup, 1) := by decide +kernel
theorem dX11_init_655 : decode cX11_init 655 = .ok (.bipush 107, 2) := by decide +kernel
theorem dX11_init_657 : decode cX11_init 657 = .ok (.bipush 100, 2) := by decide +kernel
theorem dX11_init_659 : decode cX11_init 659 = .ok (.iastore, 1) := by decide +kernel
theorem dX11_init_660 : decode cX11_init 660 = .ok (.dup, 1) := by decide +kernel
theorem dX11_init_661 : decode cX11_init 661 = .ok (.bipush 108, 2) := by decide +kernel
theorem dX11_init_663 : decode cX11_init 663 = .ok (.bipush 32, 2) := by decide +kernel
theorem dX11_init_665 : decode cX11_init 665 = .ok (.iastore, 1) := by decide +kernel
theorem dX11_init_666 : decode cX11_init 666 = .ok (.dup, 1) := by decide +kernel
theorem dX11_init_667 : decode cX11_init 667 = .ok (.bipush 109, 2) := by decide +kernel
theorem dX11_init_669 : decode cX11_init 669 = .ok (.bipush 109, 2) := by decide +kernel
theorem dX11_init_671 : decode cX11_init 671 = .ok (.iastore, 1) := by decide +kernel
theorem dX11_init_672 : decode cX11_init 672 = .ok (.dup, 1) := by decide +kernel
theorem dX11_init_673 : decode cX11_init 673 = .ok (.bipush 110, 2) := by decide +kernel
theorem dX11_init_675 : decode cX11_init 675 = .ok (.bipush 105, 2) := by decide +kernel
theorem dX11_init_677 : decode cX11_init 677 = .ok (.iastore, 1) := by decide +kernel
theorem dX11_init_678 : decode cX11_init 678 = .ok (.dup, 1) := by decide +kernel
theorem dX11_init_679 : decode cX11_init 679 = .ok (.bipush 111, 2) := by decide +kernel
theorem dX11_init_681 : decode cX11_init 681 = .ok (.bipush 110, 2) := by decide +kernel
theorem dX11_init_683 : decode cX11_init 683 = .ok (.iastore, 1) := by decide +kernel
theorem dX11_init_684 : decode cX11_init 684 = .ok (.dup, 1) := by decide +kernel
theorem dX11_init_685 : decode cX11_init 685 = .ok (.bipush 112, 2) := by decide +kernel
theorem dX11_init_687 : decode cX11_init 687 = .ok (.bipush 117, 2) := by decide +kernel
theorem dX11_init_689 : decode cX11_init 689 = .ok (.iastore, 1) := by decide +kernel
theorem dX11_init_690 : decode cX11_init 690 = .ok (.dup, 1) := by decide +kernel
theorem dX11_init_691 : decode cX11_init 691 = .ok (.bipush 113, 2) := by decide +kernel
theorem dX11_init_693 : decode cX11_init 693 = .ok (.bipush 116, 2) := by decide +kernel
theorem dX11_init_695 : decode cX11_init 695 = .ok (.iastore, 1) := by decide +kernel
theorem dX11_init_696 : decode cX11_init 696 = .ok (.dup, 1) := by decide +kernel
theorem dX11_init_697 : decode cX11_init 697 = .ok (.bipush 114, 2) := by decide +kernel
theorem dX11_init_699 : decode cX11_init 699 = .ok (.bipush 101, 2) := by decide +kernel
theorem dX11_init_701 : decode cX11_init 701 = .ok (.iastore, 1) := by decide +kernel
theorem dX11_init_702 : decode cX11_init 702 = .ok (.dup, 1) := by decide +kernel
theorem dX11_init_703 : decode cX11_init 703 = .ok (.bipush 115, 2) := by decide +kernel
theorem dX11_init_705 : decode cX11_init 705 = .ok (.bipush 32, 2) := by decide +kernel
theorem dX11_init_707 : decode cX11_init 707 = .ok (.iastore, 1) := by decide +kernel
theorem dX11_init_708 : decode cX11_init 708 = .ok (.putfield 13, 3) := by decide +kernel
theorem dX11_init_711 : decode cX11_init 711 = .ok (.aload_n 0, 1) := by decide +kernel
theorem dX11_init_712 : decode cX11_init 712 = .ok (.iconst (-1), 1) := by decide +kernel
theorem dX11_init_713 : decode cX11_init 713 = .ok (.putfield 16, 3) := by decide +kernel
theorem dX11_init_716 : decode cX11_init 716 = .ok (.aload_n 0, 1) := by decide +kernel
theorem dX11_init_717 : decode cX11_init 717 = .ok (.iconst 2, 1) := by decide +kernel
theorem dX11_init_718 : decode cX11_init 718 = .ok (.newarray .boolean, 2) := by decide +kernel
theorem dX11_init_720 : decode cX11_init 720 = .ok (.putfield 20, 3) := by decide +kernel
theorem dX11_init_723 : decode cX11_init 723 = .ok (.aload_n 0, 1) := by decide +kernel
theorem dX11_init_724 : decode cX11_init 724 = .ok (.iconst 4, 1) := by decide +kernel
theorem dX11_init_725 : decode cX11_init 725 = .ok (.newarray .int, 2) := by decide +kernel
theorem dX11_init_727 : decode cX11_init 727 = .ok (.putfield 24, 3) := by decide +kernel
theorem dX11_init_730 : decode cX11_init 730 = .ok (.aload_n 0, 1) := by decide +kernel
theorem dX11_init_731 : decode cX11_init 731 = .ok (.bipush 16, 2) := by decide +kernel
theorem dX11_init_733 : decode cX11_init 733 = .ok (.newarray .int, 2) := by decide +kernel
theorem dX11_init_735 : decode cX11_init 735 = .ok (.putfield 27, 3) := by decide +kernel
theorem dX11_init_738 : decode cX11_init 738 = .ok (.aload_n 0, 1) := by decide +kernel
theorem dX11_init_739 : decode cX11_init 739 = .ok (.bipush 16, 2) := by decide +kernel
theorem dX11_init_741 : decode cX11_init 741 = .ok (.newarray .int, 2) := by decide +kernel
theorem dX11_init_743 : decode cX11_init 743 = .ok (.putfield 30, 3) := by decide +kernel
theorem dX11_init_746 : decode cX11_init 746 = .ok (.aload_n 0, 1) := by decide +kernel
theorem dX11_init_747 : decode cX11_init 747 = .ok (.bipush 16, 2) := by decide +kernel
theorem dX11_init_749 : decode cX11_init 749 = .ok (.newarray .int, 2) := by decide +kernel
theorem dX11_init_751 : decode cX11_init 751 = .ok (.putfield 33, 3) := by decide +kernel
theorem dX11_init_754 : decode cX11_init 754 = .ok (.aload_n 0, 1) := by decide +kernel
theorem dX11_init_755 : decode cX11_init 755 = .ok (.bipush 16, 2) := by decide +kernel
theorem dX11_init_757 : decode cX11_init 757 = .ok (.newarray .int, 2) := by decide +kernel
theorem dX11_init_759 : decode cX11_init 759 = .ok (.putfield 36, 3) := by decide +kernel
theorem dX11_init_762 : decode cX11_init 762 = .ok (.aload_n 0, 1) := by decide +kernel
theorem dX11_init_763 : decode cX11_init 763 = .ok (.bipush 32, 2) := by decide +kernel
theorem dX11_init_765 : decode cX11_init 765 = .ok (.newarray .int, 2) := by decide +kernel
theorem dX11_init_767 : decode cX11_init 767 = .ok (.putfield 39, 3) := by decide +kernel
theorem dX11_init_770 : decode cX11_init 770 = .ok (.aload_n 0, 1) := by decide +kernel
theorem dX11_init_771 : decode cX11_init 771 = .ok (.bipush 32, 2) := by decide +kernel
theorem dX11_init_773 : decode cX11_init 773 = .ok (.newarray .int, 2) := by decide +kernel
theorem dX11_init_775 : decode cX11_init 775 = .ok (.putfield 42, 3) := by decide +kernel
theorem dX11_init_778 : decode cX11_init 778 = .ok (.aload_n 0, 1) := by decide +kernel
theorem dX11_init_779 : decode cX11_init 779 = .ok (.bipush 8, 2) := by decide +kernel
theorem dX11_init_781 : decode cX11_init 781 = .ok (.newarray .int, 2) := by decide +kernel
theorem dX11_init_783 : decode cX11_init 783 = .ok (.putfield 45, 3) := by decide +kernel
theorem dX11_init_786 : decode cX11_init 786 = .ok (.aload_n 0, 1) := by decide +kernel
theorem dX11_init_787 : decode cX11_init 787 = .ok (.sipush 128, 3) := by decide +kernel
theorem dX11_init_790 : decode cX11_init 790 = .ok (.newarray .int, 2) := by decide +kernel
theorem dX11_init_792 : decode cX11_init 792 = .ok (.putfield 48, 3) := by decide +kernel
theorem dX11_init_795 : decode cX11_init 795 = .ok (.aload_n 0, 1) := by decide +kernel
theorem dX11_init_796 : decode cX11_init 796 = .ok (.sipush 128, 3) := by decide +kernel
theorem dX11_init_799 : decode cX11_init 799 = .ok (.newarray .int, 2) := by decide +kernel
theorem dX11_init_801 : decode cX11_init 801 = .ok (.putfield 51, 3) := by decide +kernel
theorem dX11_init_804 : decode cX11_init 804 = .ok (.aload_n 0, 1) := by decide +kernel
theorem dX11_init_805 : decode cX11_init 805 = .ok (.sipush 128, 3) := by decide +kernel
theorem dX11_init_808 : decode cX11_init 808 = .ok (.newarray .int, 2) := by decide +kernel
theorem dX11_init_810 : decode cX11_init 810 = .ok (.putfield 54, 3) := by decide +kernel
theorem dX11_init_813 : decode cX11_init 813 = .ok (.aload_n 0, 1) := by decide +kernel
theorem dX11_init_814 : decode cX11_init 814 = .ok (.bipush 6, 2) := by decide +kernel
theorem dX11_init_816 : decode cX11_init 816 = .ok (.newarray .boolean, 2) := by decide +kernel
theorem dX11_init_818 : decode cX11_init 818 = .ok (.putfield 57, 3) := by decide +kernel
theorem dX11_init_821 : decode cX11_init 821 = .ok (.aload_n 0, 1) := by decide +kernel
theorem dX11_init_822 : decode cX11_init 822 = .ok (.bipush 6, 2) := by decide +kernel
theorem dX11_init_824 : decode cX11_init 824 = .ok (.newarray .int, 2) := by decide +kernel
theorem dX11_init_826 : decode cX11_init 826 = .ok (.putfield 60, 3) := by decide +kernel
theorem dX11_init_829 : decode cX11_init 829 = .ok (.aload_n 0, 1) := by decide +kernel
theorem dX11_init_830 : decode cX11_init 830 = .ok (.bipush 6, 2) := by decide +kernel
theorem dX11_init_832 : decode cX11_init 832 = .ok (.newarray .int, 2) := by decide +kernel
theorem dX11_init_834 : decode cX11_init 834 = .ok (.putfield 63, 3) := by decide +kernel
theorem dX11_init_837 : decode cX11_init 837 = .ok (.aload_n 0, 1) := by decide +kernel
theorem dX11_init_838 : decode cX11_init 838 = .ok (.sipush 128, 3) := by decide +kernel
theorem dX11_init_841 : decode cX11_init 841 = .ok (.newarray .int, 2) := by decide +kernel
theorem dX11_init_843 : decode cX11_init 843 = .ok (.putfield 66, 3) := by decide +kernel
theorem dX11_init_846 : decode cX11_init 846 = .ok (.aload_n 0, 1) := by decide +kernel
theorem dX11_init_847 : decode cX11_init 847 = .ok (.sipush 128, 3) := by decide +kernel
theorem dX11_init_850 : decode cX11_init 850 = .ok (.newarray .int, 2) := by decide +kernel
theorem dX11_init_852 : decode cX11_init 852 = .ok (.putfield 69, 3) := by decide +kernel
theorem dX11_init_855 : decode cX11_init 855 = .ok (.aload_n 0, 1) := by decide +kernel
theorem dX11_init_856 : decode cX11_init 856 = .ok (.sipush 128, 3) := by decide +kernel
theorem dX11_init_859 : decode cX11_init 859 = .ok (.newarray .int, 2) := by decide +kernel
theorem dX11_init_861 : decode cX11_init 861 = .ok (.putfield 72, 3) := by decide +kernel
theorem dX11_init_864 : decode cX11_init 864 = .ok (.aload_n 0, 1) := by decide +kernel
theorem dX11_init_865 : decode cX11_init 865 = .ok (.bipush 96, 2) := by decide +kernel
theorem dX11_init_867 : decode cX11_init 867 = .ok (.newarray .int, 2) := by decide +kernel
theorem dX11_init_869 : decode cX11_init 869 = .ok (.putfield 75, 3) := by decide +kernel
theorem dX11_init_872 : decode cX11_init 872 = .ok (.aload_n 0, 1) := by decide +kernel
theorem dX11_init_873 : decode cX11_init 873 = .ok (.bipush 96, 2) := by decide +kernel
theorem dX11_init_875 : decode cX11_init 875 = .ok (.newarray .int, 2) := by decide +kernel
theorem dX11_init_877 : decode cX11_init 877 = .ok (.putfield 78, 3) := by decide +kernel
theorem dX11_init_880 : decode cX11_init 880 = .ok (.aload_n 0, 1) := by decide +kernel
theorem dX11_init_881 : decode cX11_init 881 = .ok (.bipush 7, 2) := by decide +kernel
theorem dX11_init_883 : decode cX11_init 883 = .ok (.newarray .long, 2) := by decide +kernel
theorem dX11_init_885 : decode cX11_init 885 = .ok (.putfield 81, 3) := by decide +kernel
theorem dX11_init_888 : decode cX11_init 888 = .ok (.aload_n 0, 1) := by decide +kernel
theorem dX11_init_889 : decode cX11_init 889 = .ok (.bipush 64, 2) := by decide +kernel
theorem dX11_init_891 : decode cX11_init 891 = .ok (.newarray .long, 2) := by decide +kernel
theorem dX11_init_893 : decode cX11_init 893 = .ok (.putfield 85, 3) := by decide +kernel
theorem dX11_init_896 : decode cX11_init 896 = .ok (.aload_n 0, 1) := by decide +kernel
theorem dX11_init_897 : decode cX11_init 897 = .ok (.sipush 256, 3) := by decide +kernel
theorem dX11_init_900 : decode cX11_init 900 = .ok (.newarray .int, 2) := by decide +kernel
theorem dX11_init_902 : decode cX11_init 902 = .ok (.putfield 88, 3) := by decide +kernel
theorem dX11_init_905 : decode cX11_init 905 = .ok (.aload_n 0, 1) := by decide +kernel
theorem dX11_init_906 : decode cX11_init 906 = .ok (.bipush 64, 2) := by decide +kernel
theorem dX11_init_908 : decode cX11_init 908 = .ok (.newarray .boolean, 2) := by decide +kernel
theorem dX11_init_910 : decode cX11_init 910 = .ok (.putfield 91, 3) := by decide +kernel
theorem dX11_init_913 : decode cX11_init 913 = .ok (.aload_n 0, 1) := by decide +kernel
theorem dX11_init_914 : decode cX11_init 914 = .ok (.iconst 2, 1) := by decide +kernel
theorem dX11_init_915 : decode cX11_init 915 = .ok (.newarray .int, 2) := by decide +kernel
theorem dX11_init_917 : decode cX11_init 917 = .ok (.putfield 94, 3) := by decide +kernel
theorem dX11_init_920 : decode cX11_init 920 = .ok (.aload_n 0, 1) := by decide +kernel
theorem dX11_init_921 : decode cX11_init 921 = .ok (.iconst 2, 1) := by decide +kernel
theorem dX11_init_922 : decode cX11_init 922 = .ok (.newarray .int, 2) := by decide +kernel
theorem dX11_init_924 : decode cX11_init 924 = .ok (.putfield 97, 3) := by decide +kernel
theorem dX11_init_927 : decode cX11_init 927 = .ok (.aload_n 0, 1) := by decide +kernel
theorem dX11_init_928 : decode cX11_init 928 = .ok (.iconst 2, 1) := by decide +kernel
theorem dX11_init_929 : decode cX11_init 929 = .ok (.newarray .int, 2) := by decide +kernel
theorem dX11_init_931 : decode cX11_init 931 = .ok (.putfield 100, 3) := by decide +kernel
theorem dX11_init_934 : decode cX11_init 934 = .ok (.aload_n 0, 1) := by decide +kernel
theorem dX11_init_935 : decode cX11_init 935 = .ok (.iconst 2, 1) := by decide +kernel
theorem dX11_init_936 : decode cX11_init 936 = .ok (.newarray .int, 2) := by decide +kernel
theorem dX11_init_938 : decode cX11_init 938 = .ok (.putfield 103, 3) := by decide +kernel
theorem dX11_init_941 : decode cX11_init 941 = .ok (.aload_n 0, 1) := by decide +kernel
theorem dX11_init_942 : decode cX11_init 942 = .ok (.iconst 2, 1) := by decide +kernel
theorem dX11_init_943 : decode cX11_init 943 = .ok (.newarray .int, 2) := by decide +kernel
theorem dX11_init_945 : decode cX11_init 945 = .ok (.putfield 106, 3) := by decide +kernel
theorem dX11_init_948 : decode cX11_init 948 = .ok (.aload_n 0, 1) := by decide +kernel
theorem dX11_init_949 : decode cX11_init 949 = .ok (.bipush 16, 2) := by decide +kernel
theorem dX11_init_951 : decode cX11_init 951 = .ok (.newarray .int, 2) := by decide +kernel
theorem dX11_init_953 : decode cX11_init 953 = .ok (.putfield 109, 3) := by decide +kernel
theorem dX11_init_956 : decode cX11_init 956 = .ok (.aload_n 0, 1) := by decide +kernel
theorem dX11_init_957 : decode cX11_init 957 = .ok (.sipush 256, 3) := by decide +kernel
theorem dX11_init_960 : decode cX11_init 960 = .ok (.newarray .int, 2) := by decide +kernel
theorem dX11_init_962 : decode cX11_init 962 = .ok (.putfield 112, 3) := by decide +kernel
theorem dX11_init_965 : decode cX11_init 965 = .ok (.aload_n 0, 1) := by decide +kernel
theorem dX11_init_966 : decode cX11_init 966 = .ok (.sipush 256, 3) := by decide +kernel
theorem dX11_init_969 : decode cX11_init 969 = .ok (.newarray .int, 2) := by decide +kernel
theorem dX11_init_971 : decode cX11_init 971 = .ok (.putfield 115, 3) := by decide +kernel
theorem dX11_init_974 : decode cX11_init 974 = .ok (.aload_n 0, 1) := by decide +kernel
theorem dX11_init_975 : decode cX11_init 975 = .ok (.sipush 256, 3) := by decide +kernel
theorem dX11_init_978 : decode cX11_init 978 = .ok (.newarray .int, 2) := by decide +kernel
theorem dX11_init_980 : decode cX11_init 980 = .ok (.putfield 118, 3) := by decide +kernel
theorem dX11_init_983 : decode cX11_init 983 = .ok (.aload_n 0, 1) := by decide +kernel
theorem dX11_init_984 : decode cX11_init 984 = .ok (.sipush 256, 3) := by decide +kernel
theorem dX11_init_987 : decode cX11_init 987 = .ok (.newarray .int, 2) := by decide +kernel
theorem dX11_init_989 : decode cX11_init 989 = .ok (.putfield 121, 3) := by decide +kernel
theorem dX11_init_992 : decode cX11_init 992 = .ok (.aload_n 0, 1) := by decide +kernel
theorem dX11_init_993 : decode cX11_init 993 = .ok (.sipush 256, 3) := by decide +kernel
theorem dX11_init_996 : decode cX11_init 996 = .ok (.newarray .boolean, 2) := by decide +kernel
theorem dX11_init_998 : decode cX11_init 998 = .ok (.putfield 124, 3) := by decide +kernel
theorem dX11_init_1001 : decode cX11_init 1001 = .ok (.aload_n 0, 1) := by decide +kernel
theorem dX11_init_1002 : decode cX11_init 1002 = .ok (.sipush 256, 3) := by decide +kernel
theorem dX11_init_1005 : decode cX11_init 1005 = .ok (.newarray .int, 2) := by decide +kernel
theorem dX11_init_1007 : decode cX11_init 1007 = .ok (.putfield 127, 3) := by decide +kernel
theorem dX11_init_1010 : decode cX11_init 1010 = .ok (.aload_n 0, 1) := by decide +kernel
theorem dX11_init_1011 : decode cX11_init 1011 = .ok (.sipush 256, 3) := by decide +kernel
theorem dX11_init_1014 : decode cX11_init 1014 = .ok (.newarray .boolean, 2) := by decide +kernel
theorem dX11_init_1016 : decode cX11_init 1016 = .ok (.putfield 130, 3) := by decide +kernel
theorem dX11_init_1019 : decode cX11_init 1019 = .ok (.aload_n 0, 1) := by decide +kernel
theorem dX11_init_1020 : decode cX11_init 1020 = .ok (.sipush 256, 3) := by decide +kernel
theorem dX11_init_1023 : decode cX11_init 1023 = .ok (.newarray .long, 2) := by decide +kernel
theorem dX11_init_1025 : decode cX11_init 1025 = .ok (.putfield 133, 3) := by decide +kernel
theorem dX11_init_1028 : decode cX11_init 1028 = .ok (.aload_n 0, 1) := by decide +kernel
theorem dX11_init_1029 : decode cX11_init 1029 = .ok (.sipush 256, 3) := by decide +kernel
theorem dX11_init_1032 : decode cX11_init 1032 = .ok (.newarray .long, 2) := by decide +kernel
theorem dX11_init_1034 : decode cX11_init 1034 = .ok (.putfield 136, 3) := by decide +kernel
theorem dX11_init_1037 : decode cX11_init 1037 = .ok (.aload_n 0, 1) := by decide +kernel
theorem dX11_init_1038 : decode cX11_init 1038 = .ok (.iconst (-1), 1) := by decide +kernel
theorem dX11_init_1039 : decode cX11_init 1039 = .ok (.putfield 139, 3) := by decide +kernel
theorem dX11_init_1042 : decode cX11_init 1042 = .ok (.aload_n 0, 1) := by decide +kernel
theorem dX11_init_1043 : decode cX11_init 1043 = .ok (.bipush 72, 2) := by decide +kernel
theorem dX11_init_1045 : decode cX11_init 1045 = .ok (.newarray .int, 2) := by decide +kernel
theorem dX11_init_1047 : decode cX11_init 1047 = .ok (.putfield 142, 3) := by decide +kernel
theorem dX11_init_1050 : decode cX11_init 1050 = .ok (.aload_n 0, 1) := by decide +kernel
theorem dX11_init_1051 : decode cX11_init 1051 = .ok (.bipush 24, 2) := by decide +kernel
theorem dX11_init_1053 : decode cX11_init 1053 = .ok (.newarray .boolean, 2) := by decide +kernel
theorem dX11_init_1055 : decode cX11_init 1055 = .ok (.putfield 145, 3) := by decide +kernel
theorem dX11_init_1058 : decode cX11_init 1058 = .ok (.aload_n 0, 1) := by decide +kernel
theorem dX11_init_1059 : decode cX11_init 1059 = .ok (.sipush 220, 3) := by decide +kernel
theorem dX11_init_1062 : decode cX11_init 1062 = .ok (.newarray .int, 2) := by decide +kernel
theorem dX11_init_1064 : decode cX11_init 1064 = .ok (.putfield 148, 3) := by decide +kernel
theorem dX11_init_1067 : decode cX11_init 1067 = .ok (.aload_n 0, 1) := by decide +kernel
theorem dX11_init_1068 : decode cX11_init 1068 = .ok (.bipush 11, 2) := by decide +kernel
theorem dX11_init_1070 : decode cX11_init 1070 = .ok (.newarray .int, 2) := by decide +kernel
theorem dX11_init_1072 : decode cX11_init 1072 = .ok (.putfield 151, 3) := by decide +kernel
theorem dX11_init_1075 : decode cX11_init 1075 = .ok (.aload_n 0, 1) := by decide +kernel
theorem dX11_init_1076 : decode cX11_init 1076 = .ok (.invokevirtual 154, 3) := by decide +kernel
theorem dX11_init_1079 : decode cX11_init 1079 = .ok (.aload_n 0, 1) := by decide +kernel
theorem dX11_init_1080 : decode cX11_init 1080 = .ok (.invokevirtual 157, 3) := by decide +kernel
theorem dX11_init_1083 : decode cX11_init 1083 = .ok (.return_, 1) := by decide +kernel
theorem dX11_thrown_0 : decode cX11_thrown 0 = .ok (.aload_n 0, 1) := by decide +kernel
theorem dX11_thrown_1 : decode cX11_thrown 1 = .ok (.getfield 160, 3) := by decide +kernel
theorem dX11_thrown_4 : decode cX11_thrown 4 = .ok (.ireturn, 1) := by decide +kernel
theorem dX11_feed_0 : decode cX11_feed 0 = .ok (.aload_n 0, 1) := by decide +kernel
theorem dX11_feed_1 : decode cX11_feed 1 = .ok (.iconst 0, 1) := by decide +kernel
theorem dX11_feed_2 : decode cX11_feed 2 = .ok (.putfield 160, 3) := by decide +kernel
theorem dX11_feed_5 : decode cX11_feed 5 = .ok (.aload_n 0, 1) := by decide +kernel
theorem dX11_feed_6 : decode cX11_feed 6 = .ok (.getfield 163, 3) := by decide +kernel
theorem dX11_feed_9 : decode cX11_feed 9 = .ok (.bipush 20, 2) := by decide +kernel
theorem dX11_feed_11 : decode cX11_feed 11 = .ok (.iadd, 1) := by decide +kernel
theorem dX11_feed_12 : decode cX11_feed 12 = .ok (.sipush 700, 3) := by decide +kernel
theorem dX11_feed_15 : decode cX11_feed 15 = .ok (.if_icmp .le 5, 3) := by decide +kernel
theorem dX11_feed_18 : decode cX11_feed 18 = .ok (.iconst (-1), 1) := by decide +kernel
theorem dX11_feed_19 : decode cX11_feed 19 = .ok (.ireturn, 1) := by decide +kernel
theorem dX11_feed_20 : decode cX11_feed 20 = .ok (.iconst 0, 1) := by decide +kernel
theorem dX11_feed_21 : decode cX11_feed 21 = .ok (.istore 6, 2) := by decide +kernel
theorem dX11_feed_23 : decode cX11_feed 23 = .ok (.iload 6, 2) := by decide +kernel
theorem dX11_feed_25 : decode cX11_feed 25 = .ok (.bipush 20, 2) := by decide +kernel
theorem dX11_feed_27 : decode cX11_feed 27 = .ok (.if_icmp .ge 86, 3) := by decide +kernel
theorem dX11_feed_30 : decode cX11_feed 30 = .ok (.iload 6, 2) := by decide +kernel
theorem dX11_feed_32 : decode cX11_feed 32 = .ok (.iconst 4, 1) := by decide +kernel
theorem dX11_feed_33 : decode cX11_feed 33 = .ok (.if_icmp .ge 7, 3) := by decide +kernel
theorem dX11_feed_36 : decode cX11_feed 36 = .ok (.iload_n 1, 1) := by decide +kernel
theorem dX11_feed_37 : decode cX11_feed 37 = .ok (.goto 39, 3) := by decide +kernel
theorem dX11_feed_40 : decode cX11_feed 40 = .ok (.iload 6, 2) := by decide +kernel
theorem dX11_feed_42 : decode cX11_feed 42 = .ok (.bipush 8, 2) := by decide +kernel
theorem dX11_feed_44 : decode cX11_feed 44 = .ok (.if_icmp .ge 7, 3) := by decide +kernel
theorem dX11_feed_47 : decode cX11_feed 47 = .ok (.iload_n 2, 1) := by decide +kernel
theorem dX11_feed_48 : decode cX11_feed 48 = .ok (.goto 28, 3) := by decide +kernel
theorem dX11_feed_51 : decode cX11_feed 51 = .ok (.iload 6, 2) := by decide +kernel
theorem dX11_feed_53 : decode cX11_feed 53 = .ok (.bipush 12, 2) := by decide +kernel
theorem dX11_feed_55 : decode cX11_feed 55 = .ok (.if_icmp .ge 7, 3) := by decide +kernel
theorem dX11_feed_58 : decode cX11_feed 58 = .ok (.iload_n 3, 1) := by decide +kernel
theorem dX11_feed_59 : decode cX11_feed 59 = .ok (.goto 17, 3) := by decide +kernel
theorem dX11_feed_62 : decode cX11_feed 62 = .ok (.iload 6, 2) := by decide +kernel
theorem dX11_feed_64 : decode cX11_feed 64 = .ok (.bipush 16, 2) := by decide +kernel
theorem dX11_feed_66 : decode cX11_feed 66 = .ok (.if_icmp .ge 8, 3) := by decide +kernel
theorem dX11_feed_69 : decode cX11_feed 69 = .ok (.iload 4, 2) := by decide +kernel
theorem dX11_feed_71 : decode cX11_feed 71 = .ok (.goto 5, 3) := by decide +kernel
theorem dX11_feed_74 : decode cX11_feed 74 = .ok (.iload 5, 2) := by decide +kernel
theorem dX11_feed_76 : decode cX11_feed 76 = .ok (.istore 7, 2) := by decide +kernel
theorem dX11_feed_78 : decode cX11_feed 78 = .ok (.aload_n 0, 1) := by decide +kernel
theorem dX11_feed_79 : decode cX11_feed 79 = .ok (.getfield 7, 3) := by decide +kernel
theorem dX11_feed_82 : decode cX11_feed 82 = .ok (.aload_n 0, 1) := by decide +kernel
theorem dX11_feed_83 : decode cX11_feed 83 = .ok (.getfield 163, 3) := by decide +kernel
theorem dX11_feed_86 : decode cX11_feed 86 = .ok (.iload 6, 2) := by decide +kernel
theorem dX11_feed_88 : decode cX11_feed 88 = .ok (.iadd, 1) := by decide +kernel
theorem dX11_feed_89 : decode cX11_feed 89 = .ok (.iload 7, 2) := by decide +kernel
theorem dX11_feed_91 : decode cX11_feed 91 = .ok (.bipush 24, 2) := by decide +kernel
theorem dX11_feed_93 : decode cX11_feed 93 = .ok (.bipush 8, 2) := by decide +kernel
theorem dX11_feed_95 : decode cX11_feed 95 = .ok (.iload 6, 2) := by decide +kernel
theorem dX11_feed_97 : decode cX11_feed 97 = .ok (.iconst 4, 1) := by decide +kernel
theorem dX11_feed_98 : decode cX11_feed 98 = .ok (.irem, 1) := by decide +kernel
theorem dX11_feed_99 : decode cX11_feed 99 = .ok (.imul, 1) := by decide +kernel
theorem dX11_feed_100 : decode cX11_feed 100 = .ok (.isub, 1) := by decide +kernel
theorem dX11_feed_101 : decode cX11_feed 101 = .ok (.ishr, 1) := by decide +kernel
theorem dX11_feed_102 : decode cX11_feed 102 = .ok (.sipush 255, 3) := by decide +kernel
theorem dX11_feed_105 : decode cX11_feed 105 = .ok (.iand, 1) := by decide +kernel
theorem dX11_feed_106 : decode cX11_feed 106 = .ok (.iastore, 1) := by decide +kernel
theorem dX11_feed_107 : decode cX11_feed 107 = .ok (.iinc 6 1, 3) := by decide +kernel
theorem dX11_feed_110 : decode cX11_feed 110 = .ok (.goto (-87), 3) := by decide +kernel
theorem dX11_feed_113 : decode cX11_feed 113 = .ok (.aload_n 0, 1) := by decide +kernel
theorem dX11_feed_114 : decode cX11_feed 114 = .ok (.dup, 1) := by decide +kernel
theorem dX11_feed_115 : decode cX11_feed 115 = .ok (.getfield 163, 3) := by decide +kernel
theorem dX11_feed_118 : decode cX11_feed 118 = .ok (.bipush 20, 2) := by decide +kernel
theorem dX11_feed_120 : decode cX11_feed 120 = .ok (.iadd, 1) := by decide +kernel
theorem dX11_feed_121 : decode cX11_feed 121 = .ok (.putfield 163, 3) := by decide +kernel
theorem dX11_feed_124 : decode cX11_feed 124 = .ok (.aload_n 0, 1) := by decide +kernel
theorem dX11_feed_125 : decode cX11_feed 125 = .ok (.getfield 163, 3) := by decide +kernel
theorem dX11_feed_128 : decode cX11_feed 128 = .ok (.ireturn, 1) := by decide +kernel
theorem dX11_isIn_0 : decode cX11_isIn 0 = .ok (.iload_n 0, 1) := by decide +kernel
theorem dX11_isIn_1 : decode cX11_isIn 1 = .ok (.iload_n 1, 1) := by decide +kernel
theorem dX11_isIn_2 : decode cX11_isIn 2 = .ok (.if_icmp .lt 12, 3) := by decide +kernel
theorem dX11_isIn_5 : decode cX11_isIn 5 = .ok (.iload_n 0, 1) := by decide +kernel
theorem dX11_isIn_6 : decode cX11_isIn 6 = .ok (.iload_n 2, 1) := by decide +kernel
theorem dX11_isIn_7 : decode cX11_isIn 7 = .ok (.if_icmp .gt 7, 3) := by decide +kernel
theorem dX11_isIn_10 : decode cX11_isIn 10 = .ok (.iconst 1, 1) := by decide +kernel
theorem dX11_isIn_11 : decode cX11_isIn 11 = .ok (.goto 4, 3) := by decide +kernel
theorem dX11_isIn_14 : decode cX11_isIn 14 = .ok (.iconst 0, 1) := by decide +kernel
theorem dX11_isIn_15 : decode cX11_isIn 15 = .ok (.ireturn, 1) := by decide +kernel
theorem dX11_isOf_0 : decode cX11_isOf 0 = .ok (.iload_n 0, 1) := by decide +kernel
theorem dX11_isOf_1 : decode cX11_isOf 1 = .ok (.iload_n 1, 1) := by decide +kernel
theorem dX11_isOf_2 : decode cX11_isOf 2 = .ok (.ishr, 1) := by decide +kernel
theorem dX11_isOf_3 : decode cX11_isOf 3 = .ok (.iconst 1, 1) := by decide +kernel
theorem dX11_isOf_4 : decode cX11_isOf 4 = .ok (.iand, 1) := by decide +kernel
theorem dX11_isOf_5 : decode cX11_isOf 5 = .ok (.iconst 1, 1) := by decide +kernel
theorem dX11_isOf_6 : decode cX11_isOf 6 = .ok (.if_icmp .ne 7, 3) := by decide +kernel
theorem dX11_isOf_9 : decode cX11_isOf 9 = .ok (.iconst 1, 1) := by decide +kernel
theorem dX11_isOf_10 : decode cX11_isOf 10 = .ok (.goto 4, 3) := by decide +kernel
theorem dX11_isOf_13 : decode cX11_isOf 13 = .ok (.iconst 0, 1) := by decide +kernel
theorem dX11_isOf_14 : decode cX11_isOf 14 = .ok (.ireturn, 1) := by decide +kernel
theorem dX11_wrong_0 : decode cX11_wrong 0 = .ok (.aload_n 0, 1) := by decide +kernel
theorem dX11_wrong_1 : decode cX11_wrong 1 = .ok (.iload_n 1, 1) := by decide +kernel
theorem dX11_wrong_2 : decode cX11_wrong 2 = .ok (.putfield 166, 3) := by decide +kernel
theorem dX11_wrong_5 : decode cX11_wrong 5 = .ok (.aload_n 0, 1) := by decide +kernel
theorem dX11_wrong_6 : decode cX11_wrong 6 = .ok (.aload_n 0, 1) := by decide +kernel
theorem dX11_wrong_7 : decode cX11_wrong 7 = .ok (.getfield 169, 3) := by decide +kernel
theorem dX11_wrong_10 : decode cX11_wrong 10 = .ok (.putfield 16, 3) := by decide +kernel
theorem dX11_wrong_13 : decode cX11_wrong 13 = .ok (.iconst 0, 1) := by decide +kernel
theorem dX11_wrong_14 : decode cX11_wrong 14 = .ok (.ireturn, 1) := by decide +kernel
theorem dX11_wordAt_0 : decode cX11_wordAt 0 = .ok (.iconst 0, 1) := by decide +kernel
theorem dX11_wordAt_1 : decode cX11_wordAt 1 = .ok (.istore_n 3, 1) := by decide +kernel
theorem dX11_wordAt_2 : decode cX11_wordAt 2 = .ok (.iconst 0, 1) := by decide +kernel
theorem dX11_wordAt_3 : decode cX11_wordAt 3 = .ok (.istore 4, 2) := by decide +kernel
theorem dX11_wordAt_5 : decode cX11_wordAt 5 = .ok (.iload 4, 2) := by decide +kernel
theorem dX11_wordAt_7 : decode cX11_wordAt 7 = .ok (.aload_n 0, 1) := by decide +kernel
theorem dX11_wordAt_8 : decode cX11_wordAt 8 = .ok (.getfield 13, 3) := by decide +kernel
theorem dX11_wordAt_11 : decode cX11_wordAt 11 = .ok (.arraylength, 1) := by decide +kernel
theorem dX11_wordAt_12 : decode cX11_wordAt 12 = .ok (.if_icmp .ge 114, 3) := by decide +kernel
theorem dX11_wordAt_15 : decode cX11_wordAt 15 = .ok (.iconst 0, 1) := by decide +kernel
theorem dX11_wordAt_16 : decode cX11_wordAt 16 = .ok (.istore 5, 2) := by decide +kernel
theorem dX11_wordAt_18 : decode cX11_wordAt 18 = .ok (.aload_n 0, 1) := by decide +kernel
theorem dX11_wordAt_19 : decode cX11_wordAt 19 = .ok (.getfield 13, 3) := by decide +kernel
theorem dX11_wordAt_22 : decode cX11_wordAt 22 = .ok (.iload 4, 2) := by decide +kernel
theorem dX11_wordAt_24 : decode cX11_wordAt 24 = .ok (.iload 5, 2) := by decide +kernel
theorem dX11_wordAt_26 : decode cX11_wordAt 26 = .ok (.iadd, 1) := by decide +kernel
theorem dX11_wordAt_27 : decode cX11_wordAt 27 = .ok (.iaload, 1) := by decide +kernel
theorem dX11_wordAt_28 : decode cX11_wordAt 28 = .ok (.bipush 32, 2) := by decide +kernel
theorem dX11_wordAt_30 : decode cX11_wordAt 30 = .ok (.if_icmp .eq 9, 3) := by decide +kernel
theorem dX11_wordAt_33 : decode cX11_wordAt 33 = .ok (.iinc 5 1, 3) := by decide +kernel
theorem dX11_wordAt_36 : decode cX11_wordAt 36 = .ok (.goto (-18), 3) := by decide +kernel
theorem dX11_wordAt_39 : decode cX11_wordAt 39 = .ok (.iload 5, 2) := by decide +kernel
theorem dX11_wordAt_41 : decode cX11_wordAt 41 = .ok (.iload_n 2, 1) := by decide +kernel
theorem dX11_wordAt_42 : decode cX11_wordAt 42 = .ok (.iload_n 1, 1) := by decide +kernel
theorem dX11_wordAt_43 : decode cX11_wordAt 43 = .ok (.isub, 1) := by decide +kernel
theorem dX11_wordAt_44 : decode cX11_wordAt 44 = .ok (.if_icmp .ne 7, 3) := by decide +kernel
theorem dX11_wordAt_47 : decode cX11_wordAt 47 = .ok (.iconst 1, 1) := by decide +kernel
theorem dX11_wordAt_48 : decode cX11_wordAt 48 = .ok (.goto 4, 3) := by decide +kernel
theorem dX11_wordAt_51 : decode cX11_wordAt 51 = .ok (.iconst 0, 1) := by decide +kernel
theorem dX11_wordAt_52 : decode cX11_wordAt 52 = .ok (.istore 6, 2) := by decide +kernel
theorem dX11_wordAt_54 : decode cX11_wordAt 54 = .ok (.iconst 0, 1) := by decide +kernel
theorem dX11_wordAt_55 : decode cX11_wordAt 55 = .ok (.istore 7, 2) := by decide +kernel
theorem dX11_wordAt_57 : decode cX11_wordAt 57 = .ok (.iload 7, 2) := by decide +kernel
theorem dX11_wordAt_59 : decode cX11_wordAt 59 = .ok (.iload 5, 2) := by decide +kernel
theorem dX11_wordAt_61 : decode cX11_wordAt 61 = .ok (.if_icmp .ge 43, 3) := by decide +kernel
theorem dX11_wordAt_64 : decode cX11_wordAt 64 = .ok (.iload 6, 2) := by decide +kernel
theorem dX11_wordAt_66 : decode cX11_wordAt 66 = .ok (.ifCond .eq 38, 3) := by decide +kernel
theorem dX11_wordAt_69 : decode cX11_wordAt 69 = .ok (.aload_n 0, 1) := by decide +kernel
theorem dX11_wordAt_70 : decode cX11_wordAt 70 = .ok (.getfield 13, 3) := by decide +kernel
theorem dX11_wordAt_73 : decode cX11_wordAt 73 = .ok (.iload 4, 2) := by decide +kernel
theorem dX11_wordAt_75 : decode cX11_wordAt 75 = .ok (.iload 7, 2) := by decide +kernel
theorem dX11_wordAt_77 : decode cX11_wordAt 77 = .ok (.iadd, 1) := by decide +kernel
theorem dX11_wordAt_78 : decode cX11_wordAt 78 = .ok (.iaload, 1) := by decide +kernel
theorem dX11_wordAt_79 : decode cX11_wordAt 79 = .ok (.aload_n 0, 1) := by decide +kernel
theorem dX11_wordAt_80 : decode cX11_wordAt 80 = .ok (.getfield 7, 3) := by decide +kernel
theorem dX11_wordAt_83 : decode cX11_wordAt 83 = .ok (.iload_n 1, 1) := by decide +kernel
theorem dX11_wordAt_84 : decode cX11_wordAt 84 = .ok (.iload 7, 2) := by decide +kernel
theorem dX11_wordAt_86 : decode cX11_wordAt 86 = .ok (.iadd, 1) := by decide +kernel
theorem dX11_wordAt_87 : decode cX11_wordAt 87 = .ok (.iaload, 1) := by decide +kernel
theorem dX11_wordAt_88 : decode cX11_wordAt 88 = .ok (.if_icmp .ne 7, 3) := by decide +kernel
theorem dX11_wordAt_91 : decode cX11_wordAt 91 = .ok (.iconst 1, 1) := by decide +kernel
theorem dX11_wordAt_92 : decode cX11_wordAt 92 = .ok (.goto 4, 3) := by decide +kernel
theorem dX11_wordAt_95 : decode cX11_wordAt 95 = .ok (.iconst 0, 1) := by decide +kernel
theorem dX11_wordAt_96 : decode cX11_wordAt 96 = .ok (.istore 6, 2) := by decide +kernel
theorem dX11_wordAt_98 : decode cX11_wordAt 98 = .ok (.iinc 7 1, 3) := by decide +kernel
theorem dX11_wordAt_101 : decode cX11_wordAt 101 = .ok (.goto (-44), 3) := by decide +kernel
theorem dX11_wordAt_104 : decode cX11_wordAt 104 = .ok (.iload 6, 2) := by decide +kernel
theorem dX11_wordAt_106 : decode cX11_wordAt 106 = .ok (.ifCond .eq 5, 3) := by decide +kernel
theorem dX11_wordAt_109 : decode cX11_wordAt 109 = .ok (.iload_n 3, 1) := by decide +kernel
theorem dX11_wordAt_110 : decode cX11_wordAt 110 = .ok (.ireturn, 1) := by decide +kernel
theorem dX11_wordAt_111 : decode cX11_wordAt 111 = .ok (.iload 4, 2) := by decide +kernel
theorem dX11_wordAt_113 : decode cX11_wordAt 113 = .ok (.iload 5, 2) := by decide +kernel
theorem dX11_wordAt_115 : decode cX11_wordAt 115 = .ok (.iconst 1, 1) := by decide +kernel
theorem dX11_wordAt_116 : decode cX11_wordAt 116 = .ok (.iadd, 1) := by decide +kernel
theorem dX11_wordAt_117 : decode cX11_wordAt 117 = .ok (.iadd, 1) := by decide +kernel
theorem dX11_wordAt_118 : decode cX11_wordAt 118 = .ok (.istore 4, 2) := by decide +kernel
theorem dX11_wordAt_120 : decode cX11_wordAt 120 = .ok (.iinc 3 1, 3) := by decide +kernel
theorem dX11_wordAt_123 : decode cX11_wordAt 123 = .ok (.goto (-118), 3) := by decide +kernel
theorem dX11_wordAt_126 : decode cX11_wordAt 126 = .ok (.iconst (-1), 1) := by decide +kernel
theorem dX11_wordAt_127 : decode cX11_wordAt 127 = .ok (.ireturn, 1) := by decide +kernel
theorem dX11_isSmall_0 : decode cX11_isSmall 0 = .ok (.iload_n 1, 1) := by decide +kernel
theorem dX11_isSmall_1 : decode cX11_isSmall 1 = .ok (.aload_n 0, 1) := by decide +kernel
theorem dX11_isSmall_2 : decode cX11_isSmall 2 = .ok (.getfield 172, 3) := by decide +kernel
theorem dX11_isSmall_5 : decode cX11_isSmall 5 = .ok (.if_icmp .ge 29, 3) := by decide +kernel
theorem dX11_isSmall_8 : decode cX11_isSmall 8 = .ok (.aload_n 0, 1) := by decide +kernel
theorem dX11_isSmall_9 : decode cX11_isSmall 9 = .ok (.getfield 7, 3) := by decide +kernel
theorem dX11_isSmall_12 : decode cX11_isSmall 12 = .ok (.iload_n 1, 1) := by decide +kernel
theorem dX11_isSmall_13 : decode cX11_isSmall 13 = .ok (.iaload, 1) := by decide +kernel
theorem dX11_isSmall_14 : decode cX11_isSmall 14 = .ok (.bipush 97, 2) := by decide +kernel
theorem dX11_isSmall_16 : decode cX11_isSmall 16 = .ok (.if_icmp .lt 18, 3) := by decide +kernel
theorem dX11_isSmall_19 : decode cX11_isSmall 19 = .ok (.aload_n 0, 1) := by decide +kernel
theorem dX11_isSmall_20 : decode cX11_isSmall 20 = .ok (.getfield 7, 3) := by decide +kernel
theorem dX11_isSmall_23 : decode cX11_isSmall 23 = .ok (.iload_n 1, 1) := by decide +kernel
theorem dX11_isSmall_24 : decode cX11_isSmall 24 = .ok (.iaload, 1) := by decide +kernel
theorem dX11_isSmall_25 : decode cX11_isSmall 25 = .ok (.bipush 122, 2) := by decide +kernel
theorem dX11_isSmall_27 : decode cX11_isSmall 27 = .ok (.if_icmp .gt 7, 3) := by decide +kernel
theorem dX11_isSmall_30 : decode cX11_isSmall 30 = .ok (.iconst 1, 1) := by decide +kernel
theorem dX11_isSmall_31 : decode cX11_isSmall 31 = .ok (.goto 4, 3) := by decide +kernel
theorem dX11_isSmall_34 : decode cX11_isSmall 34 = .ok (.iconst 0, 1) := by decide +kernel
theorem dX11_isSmall_35 : decode cX11_isSmall 35 = .ok (.ireturn, 1) := by decide +kernel
theorem dX11_isDigit_0 : decode cX11_isDigit 0 = .ok (.iload_n 1, 1) := by decide +kernel
theorem dX11_isDigit_1 : decode cX11_isDigit 1 = .ok (.aload_n 0, 1) := by decide +kernel
theorem dX11_isDigit_2 : decode cX11_isDigit 2 = .ok (.getfield 172, 3) := by decide +kernel
theorem dX11_isDigit_5 : decode cX11_isDigit 5 = .ok (.if_icmp .ge 29, 3) := by decide +kernel
theorem dX11_isDigit_8 : decode cX11_isDigit 8 = .ok (.aload_n 0, 1) := by decide +kernel
theorem dX11_isDigit_9 : decode cX11_isDigit 9 = .ok (.getfield 7, 3) := by decide +kernel
theorem dX11_isDigit_12 : decode cX11_isDigit 12 = .ok (.iload_n 1, 1) := by decide +kernel
theorem dX11_isDigit_13 : decode cX11_isDigit 13 = .ok (.iaload, 1) := by decide +kernel
theorem dX11_isDigit_14 : decode cX11_isDigit 14 = .ok (.bipush 48, 2) := by decide +kernel
theorem dX11_isDigit_16 : decode cX11_isDigit 16 = .ok (.if_icmp .lt 18, 3) := by decide +kernel
theorem dX11_isDigit_19 : decode cX11_isDigit 19 = .ok (.aload_n 0, 1) := by decide +kernel
theorem dX11_isDigit_20 : decode cX11_isDigit 20 = .ok (.getfield 7, 3) := by decide +kernel
theorem dX11_isDigit_23 : decode cX11_isDigit 23 = .ok (.iload_n 1, 1) := by decide +kernel
theorem dX11_isDigit_24 : decode cX11_isDigit 24 = .ok (.iaload, 1) := by decide +kernel
theorem dX11_isDigit_25 : decode cX11_isDigit 25 = .ok (.bipush 57, 2) := by decide +kernel
theorem dX11_isDigit_27 : decode cX11_isDigit 27 = .ok (.if_icmp .gt 7, 3) := by decide +kernel
theorem dX11_isDigit_30 : decode cX11_isDigit 30 = .ok (.iconst 1, 1) := by decide +kernel
theorem dX11_isDigit_31 : decode cX11_isDigit 31 = .ok (.goto 4, 3) := by decide +kernel
theorem dX11_isDigit_34 : decode cX11_isDigit 34 = .ok (.iconst 0, 1) := by decide +kernel
theorem dX11_isDigit_35 : decode cX11_isDigit 35 = .ok (.ireturn, 1) := by decide +kernel
theorem dX11_token_0 : decode cX11_token 0 = .ok (.aload_n 0, 1) := by decide +kernel
theorem dX11_token_1 : decode cX11_token 1 = .ok (.getfield 175, 3) := by decide +kernel
theorem dX11_token_4 : decode cX11_token 4 = .ok (.aload_n 0, 1) := by decide +kernel
theorem dX11_token_5 : decode cX11_token 5 = .ok (.getfield 172, 3) := by decide +kernel
theorem dX11_token_8 : decode cX11_token 8 = .ok (.if_icmp .ge 44, 3) := by decide +kernel
theorem dX11_token_11 : decode cX11_token 11 = .ok (.aload_n 0, 1) := by decide +kernel
theorem dX11_token_12 : decode cX11_token 12 = .ok (.getfield 7, 3) := by decide +kernel
theorem dX11_token_15 : decode cX11_token 15 = .ok (.aload_n 0, 1) := by decide +kernel
theorem dX11_token_16 : decode cX11_token 16 = .ok (.getfield 175, 3) := by decide +kernel
theorem dX11_token_19 : decode cX11_token 19 = .ok (.iaload, 1) := by decide +kernel
theorem dX11_token_20 : decode cX11_token 20 = .ok (.bipush 10, 2) := by decide +kernel
theorem dX11_token_22 : decode cX11_token 22 = .ok (.if_icmp .eq 17, 3) := by decide +kernel
theorem dX11_token_25 : decode cX11_token 25 = .ok (.aload_n 0, 1) := by decide +kernel
theorem dX11_token_26 : decode cX11_token 26 = .ok (.getfield 7, 3) := by decide +kernel
theorem dX11_token_29 : decode cX11_token 29 = .ok (.aload_n 0, 1) := by decide +kernel
theorem dX11_token_30 : decode cX11_token 30 = .ok (.getfield 175, 3) := by decide +kernel
theorem dX11_token_33 : decode cX11_token 33 = .ok (.iaload, 1) := by decide +kernel
theorem dX11_token_34 : decode cX11_token 34 = .ok (.bipush 32, 2) := by decide +kernel
theorem dX11_token_36 : decode cX11_token 36 = .ok (.if_icmp .ne 16, 3) := by decide +kernel
theorem dX11_token_39 : decode cX11_token 39 = .ok (.aload_n 0, 1) := by decide +kernel
theorem dX11_token_40 : decode cX11_token 40 = .ok (.dup, 1) := by decide +kernel
theorem dX11_token_41 : decode cX11_token 41 = .ok (.getfield 175, 3) := by decide +kernel
theorem dX11_token_44 : decode cX11_token 44 = .ok (.iconst 1, 1) := by decide +kernel
theorem dX11_token_45 : decode cX11_token 45 = .ok (.iadd, 1) := by decide +kernel
theorem dX11_token_46 : decode cX11_token 46 = .ok (.putfield 175, 3) := by decide +kernel
theorem dX11_token_49 : decode cX11_token 49 = .ok (.goto (-49), 3) := by decide +kernel
theorem dX11_token_52 : decode cX11_token 52 = .ok (.aload_n 0, 1) := by decide +kernel
theorem dX11_token_53 : decode cX11_token 53 = .ok (.aload_n 0, 1) := by decide +kernel
theorem dX11_token_54 : decode cX11_token 54 = .ok (.getfield 175, 3) := by decide +kernel
theorem dX11_token_57 : decode cX11_token 57 = .ok (.putfield 169, 3) := by decide +kernel
theorem dX11_token_60 : decode cX11_token 60 = .ok (.aload_n 0, 1) := by decide +kernel
theorem dX11_token_61 : decode cX11_token 61 = .ok (.getfield 175, 3) := by decide +kernel
theorem dX11_token_64 : decode cX11_token 64 = .ok (.aload_n 0, 1) := by decide +kernel
theorem dX11_token_65 : decode cX11_token 65 = .ok (.getfield 172, 3) := by decide +kernel
theorem dX11_token_68 : decode cX11_token 68 = .ok (.if_icmp .ne 11, 3) := by decide +kernel
theorem dX11_token_71 : decode cX11_token 71 = .ok (.aload_n 0, 1) := by decide +kernel
theorem dX11_token_72 : decode cX11_token 72 = .ok (.iconst 0, 1) := by decide +kernel
theorem dX11_token_73 : decode cX11_token 73 = .ok (.putfield 178, 3) := by decide +kernel
theorem dX11_token_76 : decode cX11_token 76 = .ok (.goto 205, 3) := by decide +kernel
theorem dX11_token_79 : decode cX11_token 79 = .ok (.aload_n 0, 1) := by decide +kernel
theorem dX11_token_80 : decode cX11_token 80 = .ok (.aload_n 0, 1) := by decide +kernel
theorem dX11_token_81 : decode cX11_token 81 = .ok (.getfield 175, 3) := by decide +kernel
theorem dX11_token_84 : decode cX11_token 84 = .ok (.invokevirtual 181, 3) := by decide +kernel
theorem dX11_token_87 : decode cX11_token 87 = .ok (.ifCond .eq 105, 3) := by decide +kernel
theorem dX11_token_90 : decode cX11_token 90 = .ok (.aload_n 0, 1) := by decide +kernel
theorem dX11_token_91 : decode cX11_token 91 = .ok (.aload_n 0, 1) := by decide +kernel
theorem dX11_token_92 : decode cX11_token 92 = .ok (.getfield 175, 3) := by decide +kernel
theorem dX11_token_95 : decode cX11_token 95 = .ok (.invokevirtual 181, 3) := by decide +kernel
theorem dX11_token_98 : decode cX11_token 98 = .ok (.ifCond .eq 16, 3) := by decide +kernel
theorem dX11_token_101 : decode cX11_token 101 = .ok (.aload_n 0, 1) := by decide +kernel
theorem dX11_token_102 : decode cX11_token 102 = .ok (.dup, 1) := by decide +kernel
theorem dX11_token_103 : decode cX11_token 103 = .ok (.getfield 175, 3) := by decide +kernel
theorem dX11_token_106 : decode cX11_token 106 = .ok (.iconst 1, 1) := by decide +kernel
theorem dX11_token_107 : decode cX11_token 107 = .ok (.iadd, 1) := by decide +kernel
theorem dX11_token_108 : decode cX11_token 108 = .ok (.putfield 175, 3) := by decide +kernel
theorem dX11_token_111 : decode cX11_token 111 = .ok (.goto (-21), 3) := by decide +kernel
theorem dX11_token_114 : decode cX11_token 114 = .ok (.aload_n 0, 1) := by decide +kernel
theorem dX11_token_115 : decode cX11_token 115 = .ok (.aload_n 0, 1) := by decide +kernel
theorem dX11_token_116 : decode cX11_token 116 = .ok (.aload_n 0, 1) := by decide +kernel
theorem dX11_token_117 : decode cX11_token 117 = .ok (.getfield 169, 3) := by decide +kernel
theorem dX11_token_120 : decode cX11_token 120 = .ok (.aload_n 0, 1) := by decide +kernel
theorem dX11_token_121 : decode cX11_token 121 = .ok (.getfield 175, 3) := by decide +kernel
theorem dX11_token_124 : decode cX11_token 124 = .ok (.invokevirtual 185, 3) := by decide +kernel
theorem dX11_token_127 : decode cX11_token 127 = .ok (.putfield 189, 3) := by decide +kernel
theorem dX11_token_130 : decode cX11_token 130 = .ok (.aload_n 0, 1) := by decide +kernel
theorem dX11_token_131 : decode cX11_token 131 = .ok (.aload_n 0, 1) := by decide +kernel
theorem dX11_token_132 : decode cX11_token 132 = .ok (.getfield 189, 3) := by decide +kernel
theorem dX11_token_135 : decode cX11_token 135 = .ok (.ifCond .lt 7, 3) := by decide +kernel
theorem dX11_token_138 : decode cX11_token 138 = .ok (.iconst 1, 1) := by decide +kernel
theorem dX11_token_139 : decode cX11_token 139 = .ok (.goto 23, 3) := by decide +kernel
theorem dX11_token_142 : decode cX11_token 142 = .ok (.aload_n 0, 1) := by decide +kernel
theorem dX11_token_143 : decode cX11_token 143 = .ok (.getfield 175, 3) := by decide +kernel
theorem dX11_token_146 : decode cX11_token 146 = .ok (.aload_n 0, 1) := by decide +kernel
theorem dX11_token_147 : decode cX11_token 147 = .ok (.getfield 169, 3) := by decide +kernel
theorem dX11_token_150 : decode cX11_token 150 = .ok (.isub, 1) := by decide +kernel
theorem dX11_token_151 : decode cX11_token 151 = .ok (.bipush 6, 2) := by decide +kernel
theorem dX11_token_153 : decode cX11_token 153 = .ok (.if_icmp .le 8, 3) := by decide +kernel
theorem dX11_token_156 : decode cX11_token 156 = .ok (.bipush 6, 2) := by decide +kernel
theorem dX11_token_158 : decode cX11_token 158 = .ok (.goto 4, 3) := by decide +kernel
theorem dX11_token_161 : decode cX11_token 161 = .ok (.iconst 2, 1) := by decide +kernel
theorem dX11_token_162 : decode cX11_token 162 = .ok (.putfield 178, 3) := by decide +kernel
theorem dX11_token_165 : decode cX11_token 165 = .ok (.aload_n 0, 1) := by decide +kernel
theorem dX11_token_166 : decode cX11_token 166 = .ok (.getfield 178, 3) := by decide +kernel
theorem dX11_token_169 : decode cX11_token 169 = .ok (.iconst 2, 1) := by decide +kernel
theorem dX11_token_170 : decode cX11_token 170 = .ok (.if_icmp .ne 111, 3) := by decide +kernel
theorem dX11_token_173 : decode cX11_token 173 = .ok (.aload_n 0, 1) := by decide +kernel
theorem dX11_token_174 : decode cX11_token 174 = .ok (.aload_n 0, 1) := by decide +kernel
theorem dX11_token_175 : decode cX11_token 175 = .ok (.aload_n 0, 1) := by decide +kernel
theorem dX11_token_176 : decode cX11_token 176 = .ok (.getfield 169, 3) := by decide +kernel
theorem dX11_token_179 : decode cX11_token 179 = .ok (.aload_n 0, 1) := by decide +kernel
theorem dX11_token_180 : decode cX11_token 180 = .ok (.getfield 175, 3) := by decide +kernel
theorem dX11_token_183 : decode cX11_token 183 = .ok (.invokevirtual 192, 3) := by decide +kernel
theorem dX11_token_186 : decode cX11_token 186 = .ok (.putfield 189, 3) := by decide +kernel
theorem dX11_token_189 : decode cX11_token 189 = .ok (.goto 92, 3) := by decide +kernel
theorem dX11_token_192 : decode cX11_token 192 = .ok (.aload_n 0, 1) := by decide +kernel
theorem dX11_token_193 : decode cX11_token 193 = .ok (.aload_n 0, 1) := by decide +kernel
theorem dX11_token_194 : decode cX11_token 194 = .ok (.getfield 175, 3) := by decide +kernel
theorem dX11_token_197 : decode cX11_token 197 = .ok (.invokevirtual 195, 3) := by decide +kernel
theorem dX11_token_200 : decode cX11_token 200 = .ok (.ifCond .eq 77, 3) := by decide +kernel
theorem dX11_token_203 : decode cX11_token 203 = .ok (.aload_n 0, 1) := by decide +kernel
theorem dX11_token_204 : decode cX11_token 204 = .ok (.iconst 3, 1) := by decide +kernel
theorem dX11_token_205 : decode cX11_token 205 = .ok (.putfield 178, 3) := by decide +kernel
theorem dX11_token_208 : decode cX11_token 208 = .ok (.aload_n 0, 1) := by decide +kernel
theorem dX11_token_209 : decode cX11_token 209 = .ok (.iconst 0, 1) := by decide +kernel
theorem dX11_token_210 : decode cX11_token 210 = .ok (.putfield 189, 3) := by decide +kernel
theorem dX11_token_213 : decode cX11_token 213 = .ok (.aload_n 0, 1) := by decide +kernel
theorem dX11_token_214 : decode cX11_token 214 = .ok (.aload_n 0, 1) := by decide +kernel
theorem dX11_token_215 : decode cX11_token 215 = .ok (.getfield 175, 3) := by decide +kernel
theorem dX11_token_218 : decode cX11_token 218 = .ok (.invokevirtual 195, 3) := by decide +kernel
theorem dX11_token_221 : decode cX11_token 221 = .ok (.ifCond .eq 60, 3) := by decide +kernel
theorem dX11_token_224 : decode cX11_token 224 = .ok (.aload_n 0, 1) := by decide +kernel
theorem dX11_token_225 : decode cX11_token 225 = .ok (.aload_n 0, 1) := by decide +kernel
theorem dX11_token_226 : decode cX11_token 226 = .ok (.getfield 189, 3) := by decide +kernel
theorem dX11_token_229 : decode cX11_token 229 = .ok (.ldc 198, 2) := by decide +kernel
theorem dX11_token_231 : decode cX11_token 231 = .ok (.if_icmp .le 10, 3) := by decide +kernel
theorem dX11_token_234 : decode cX11_token 234 = .ok (.aload_n 0, 1) := by decide +kernel
theorem dX11_token_235 : decode cX11_token 235 = .ok (.getfield 189, 3) := by decide +kernel
theorem dX11_token_238 : decode cX11_token 238 = .ok (.goto 23, 3) := by decide +kernel
theorem dX11_token_241 : decode cX11_token 241 = .ok (.bipush 10, 2) := by decide +kernel
theorem dX11_token_243 : decode cX11_token 243 = .ok (.aload_n 0, 1) := by decide +kernel
theorem dX11_token_244 : decode cX11_token 244 = .ok (.getfield 189, 3) := by decide +kernel
theorem dX11_token_247 : decode cX11_token 247 = .ok (.imul, 1) := by decide +kernel
theorem dX11_token_248 : decode cX11_token 248 = .ok (.aload_n 0, 1) := by decide +kernel
theorem dX11_token_249 : decode cX11_token 249 = .ok (.getfield 7, 3) := by decide +kernel
theorem dX11_token_252 : decode cX11_token 252 = .ok (.aload_n 0, 1) := by decide +kernel
theorem dX11_token_253 : decode cX11_token 253 = .ok (.getfield 175, 3) := by decide +kernel
theorem dX11_token_256 : decode cX11_token 256 = .ok (.iaload, 1) := by decide +kernel
theorem dX11_token_257 : decode cX11_token 257 = .ok (.iadd, 1) := by decide +kernel
theorem dX11_token_258 : decode cX11_token 258 = .ok (.bipush 48, 2) := by decide +kernel
theorem dX11_token_260 : decode cX11_token 260 = .ok (.isub, 1) := by decide +kernel
theorem dX11_token_261 : decode cX11_token 261 = .ok (.putfield 189, 3) := by decide +kernel
theorem dX11_token_264 : decode cX11_token 264 = .ok (.aload_n 0, 1) := by decide +kernel
theorem dX11_token_265 : decode cX11_token 265 = .ok (.dup, 1) := by decide +kernel
theorem dX11_token_266 : decode cX11_token 266 = .ok (.getfield 175, 3) := by decide +kernel
theorem dX11_token_269 : decode cX11_token 269 = .ok (.iconst 1, 1) := by decide +kernel
theorem dX11_token_270 : decode cX11_token 270 = .ok (.iadd, 1) := by decide +kernel
theorem dX11_token_271 : decode cX11_token 271 = .ok (.putfield 175, 3) := by decide +kernel
theorem dX11_token_274 : decode cX11_token 274 = .ok (.goto (-61), 3) := by decide +kernel
theorem dX11_token_277 : decode cX11_token 277 = .ok (.aload_n 0, 1) := by decide +kernel
theorem dX11_token_278 : decode cX11_token 278 = .ok (.invokevirtual 199, 3) := by decide +kernel
theorem dX11_token_281 : decode cX11_token 281 = .ok (.return_, 1) := by decide +kernel
theorem dX11_signToken_0 : decode cX11_signToken 0 = .ok (.aload_n 0, 1) := by decide +kernel
theorem dX11_signToken_1 : decode cX11_signToken 1 = .ok (.aload_n 0, 1) := by decide +kernel
theorem dX11_signToken_2 : decode cX11_signToken 2 = .ok (.getfield 7, 3) := by decide +kernel
theorem dX11_signToken_5 : decode cX11_signToken 5 = .ok (.aload_n 0, 1) := by decide +kernel
theorem dX11_signToken_6 : decode cX11_signToken 6 = .ok (.getfield 175, 3) := by decide +kernel
theorem dX11_signToken_9 : decode cX11_signToken 9 = .ok (.iaload, 1) := by decide +kernel
theorem dX11_signToken_10 : decode cX11_signToken 10 = .ok (.putfield 189, 3) := by decide +kernel
theorem dX11_signToken_13 : decode cX11_signToken 13 = .ok (.aload_n 0, 1) := by decide +kernel
theorem dX11_signToken_14 : decode cX11_signToken 14 = .ok (.dup, 1) := by decide +kernel
theorem dX11_signToken_15 : decode cX11_signToken 15 = .ok (.getfield 175, 3) := by decide +kernel
theorem dX11_signToken_18 : decode cX11_signToken 18 = .ok (.iconst 1, 1) := by decide +kernel
theorem dX11_signToken_19 : decode cX11_signToken 19 = .ok (.iadd, 1) := by decide +kernel
theorem dX11_signToken_20 : decode cX11_signToken 20 = .ok (.putfield 175, 3) := by decide +kernel
theorem dX11_signToken_23 : decode cX11_signToken 23 = .ok (.aload_n 0, 1) := by decide +kernel
theorem dX11_signToken_24 : decode cX11_signToken 24 = .ok (.getfield 189, 3) := by decide +kernel
theorem dX11_signToken_27 : decode cX11_signToken 27 = .ok (.bipush 60, 2) := by decide +kernel
theorem dX11_signToken_29 : decode cX11_signToken 29 = .ok (.if_icmp .eq 21, 3) := by decide +kernel
theorem dX11_signToken_32 : decode cX11_signToken 32 = .ok (.aload_n 0, 1) := by decide +kernel
theorem dX11_signToken_33 : decode cX11_signToken 33 = .ok (.getfield 189, 3) := by decide +kernel
theorem dX11_signToken_36 : decode cX11_signToken 36 = .ok (.bipush 62, 2) := by decide +kernel
theorem dX11_signToken_38 : decode cX11_signToken 38 = .ok (.if_icmp .eq 12, 3) := by decide +kernel
theorem dX11_signToken_41 : decode cX11_signToken 41 = .ok (.aload_n 0, 1) := by decide +kernel
theorem dX11_signToken_42 : decode cX11_signToken 42 = .ok (.getfield 189, 3) := by decide +kernel
theorem dX11_signToken_45 : decode cX11_signToken 45 = .ok (.bipush 61, 2) := by decide +kernel
theorem dX11_signToken_47 : decode cX11_signToken 47 = .ok (.if_icmp .ne 151, 3) := by decide +kernel
theorem dX11_signToken_50 : decode cX11_signToken 50 = .ok (.aload_n 0, 1) := by decide +kernel
theorem dX11_signToken_51 : decode cX11_signToken 51 = .ok (.getfield 175, 3) := by decide +kernel
theorem dX11_signToken_54 : decode cX11_signToken 54 = .ok (.aload_n 0, 1) := by decide +kernel
theorem dX11_signToken_55 : decode cX11_signToken 55 = .ok (.getfield 172, 3) := by decide +kernel
theorem dX11_signToken_58 : decode cX11_signToken 58 = .ok (.if_icmp .ge 15, 3) := by decide +kernel
theorem dX11_signToken_61 : decode cX11_signToken 61 = .ok (.aload_n 0, 1) := by decide +kernel
theorem dX11_signToken_62 : decode cX11_signToken 62 = .ok (.getfield 7, 3) := by decide +kernel
theorem dX11_signToken_65 : decode cX11_signToken 65 = .ok (.aload_n 0, 1) := by decide +kernel
theorem dX11_signToken_66 : decode cX11_signToken 66 = .ok (.getfield 175, 3) := by decide +kernel
theorem dX11_signToken_69 : decode cX11_signToken 69 = .ok (.iaload, 1) := by decide +kernel
theorem dX11_signToken_70 : decode cX11_signToken 70 = .ok (.goto 4, 3) := by decide +kernel
theorem dX11_signToken_73 : decode cX11_signToken 73 = .ok (.iconst 0, 1) := by decide +kernel
theorem dX11_signToken_74 : decode cX11_signToken 74 = .ok (.istore_n 1, 1) := by decide +kernel
theorem dX11_signToken_75 : decode cX11_signToken 75 = .ok (.aload_n 0, 1) := by decide +kernel
theorem dX11_signToken_76 : decode cX11_signToken 76 = .ok (.getfield 189, 3) := by decide +kernel
theorem dX11_signToken_79 : decode cX11_signToken 79 = .ok (.bipush 61, 2) := by decide +kernel
theorem dX11_signToken_81 : decode cX11_signToken 81 = .ok (.if_icmp .eq 13, 3) := by decide +kernel
theorem dX11_signToken_84 : decode cX11_signToken 84 = .ok (.iload_n 1, 1) := by decide +kernel
theorem dX11_signToken_85 : decode cX11_signToken 85 = .ok (.bipush 61, 2) := by decide +kernel
theorem dX11_signToken_87 : decode cX11_signToken 87 = .ok (.if_icmp .ne 7, 3) := by decide +kernel
theorem dX11_signToken_90 : decode cX11_signToken 90 = .ok (.iconst 1, 1) := by decide +kernel
theorem dX11_signToken_91 : decode cX11_signToken 91 = .ok (.goto 4, 3) := by decide +kernel
theorem dX11_signToken_94 : decode cX11_signToken 94 = .ok (.iconst 0, 1) := by decide +kernel
theorem dX11_signToken_95 : decode cX11_signToken 95 = .ok (.istore_n 2, 1) := by decide +kernel
theorem dX11_signToken_96 : decode cX11_signToken 96 = .ok (.aload_n 0, 1) := by decide +kernel
theorem dX11_signToken_97 : decode cX11_signToken 97 = .ok (.getfield 189, 3) := by decide +kernel
theorem dX11_signToken_100 : decode cX11_signToken 100 = .ok (.bipush 60, 2) := by decide +kernel
theorem dX11_signToken_102 : decode cX11_signToken 102 = .ok (.if_icmp .ne 13, 3) := by decide +kernel
theorem dX11_signToken_105 : decode cX11_signToken 105 = .ok (.iload_n 1, 1) := by decide +kernel
theorem dX11_signToken_106 : decode cX11_signToken 106 = .ok (.bipush 62, 2) := by decide +kernel
theorem dX11_signToken_108 : decode cX11_signToken 108 = .ok (.if_icmp .ne 7, 3) := by decide +kernel
theorem dX11_signToken_111 : decode cX11_signToken 111 = .ok (.iconst 1, 1) := by decide +kernel
theorem dX11_signToken_112 : decode cX11_signToken 112 = .ok (.goto 4, 3) := by decide +kernel
theorem dX11_signToken_115 : decode cX11_signToken 115 = .ok (.iconst 0, 1) := by decide +kernel
theorem dX11_signToken_116 : decode cX11_signToken 116 = .ok (.istore_n 3, 1) := by decide +kernel
theorem dX11_signToken_117 : decode cX11_signToken 117 = .ok (.iload_n 2, 1) := by decide +kernel
theorem dX11_signToken_118 : decode cX11_signToken 118 = .ok (.ifCond .ne 7, 3) := by decide +kernel
theorem dX11_signToken_121 : decode cX11_signToken 121 = .ok (.iload_n 3, 1) := by decide +kernel
theorem dX11_signToken_122 : decode cX11_signToken 122 = .ok (.ifCond .eq 13, 3) := by decide +kernel
theorem dX11_signToken_125 : decode cX11_signToken 125 = .ok (.aload_n 0, 1) := by decide +kernel
theorem dX11_signToken_126 : decode cX11_signToken 126 = .ok (.dup, 1) := by decide +kernel
theorem dX11_signToken_127 : decode cX11_signToken 127 = .ok (.getfield 175, 3) := by decide +kernel
theorem dX11_signToken_130 : decode cX11_signToken 130 = .ok (.iconst 1, 1) := by decide +kernel
theorem dX11_signToken_131 : decode cX11_signToken 131 = .ok (.iadd, 1) := by decide +kernel
theorem dX11_signToken_132 : decode cX11_signToken 132 = .ok (.putfield 175, 3) := by decide +kernel
theorem dX11_signToken_135 : decode cX11_signToken 135 = .ok (.aload_n 0, 1) := by decide +kernel
theorem dX11_signToken_136 : decode cX11_signToken 136 = .ok (.iconst 5, 1) := by decide +kernel
theorem dX11_signToken_137 : decode cX11_signToken 137 = .ok (.putfield 178, 3) := by decide +kernel
theorem dX11_signToken_140 : decode cX11_signToken 140 = .ok (.aload_n 0, 1) := by decide +kernel
theorem dX11_signToken_141 : decode cX11_signToken 141 = .ok (.aload_n 0, 1) := by decide +kernel
theorem dX11_signToken_142 : decode cX11_signToken 142 = .ok (.getfield 189, 3) := by decide +kernel
theorem dX11_signToken_145 : decode cX11_signToken 145 = .ok (.bipush 61, 2) := by decide +kernel
theorem dX11_signToken_147 : decode cX11_signToken 147 = .ok (.if_icmp .ne 7, 3) := by decide +kernel
theorem dX11_signToken_150 : decode cX11_signToken 150 = .ok (.iconst 2, 1) := by decide +kernel
theorem dX11_signToken_151 : decode cX11_signToken 151 = .ok (.goto 41, 3) := by decide +kernel
theorem dX11_signToken_154 : decode cX11_signToken 154 = .ok (.aload_n 0, 1) := by decide +kernel
theorem dX11_signToken_155 : decode cX11_signToken 155 = .ok (.getfield 189, 3) := by decide +kernel
theorem dX11_signToken_158 : decode cX11_signToken 158 = .ok (.bipush 60, 2) := by decide +kernel
theorem dX11_signToken_160 : decode cX11_signToken 160 = .ok (.if_icmp .ne 23, 3) := by decide +kernel
theorem dX11_signToken_163 : decode cX11_signToken 163 = .ok (.iload_n 2, 1) := by decide +kernel
theorem dX11_signToken_164 : decode cX11_signToken 164 = .ok (.ifCond .eq 7, 3) := by decide +kernel
theorem dX11_signToken_167 : decode cX11_signToken 167 = .ok (.iconst 1, 1) := by decide +kernel
theorem dX11_signToken_168 : decode cX11_signToken 168 = .ok (.goto 24, 3) := by decide +kernel
theorem dX11_signToken_171 : decode cX11_signToken 171 = .ok (.iload_n 3, 1) := by decide +kernel
theorem dX11_signToken_172 : decode cX11_signToken 172 = .ok (.ifCond .eq 7, 3) := by decide +kernel
theorem dX11_signToken_175 : decode cX11_signToken 175 = .ok (.iconst 3, 1) := by decide +kernel
theorem dX11_signToken_176 : decode cX11_signToken 176 = .ok (.goto 16, 3) := by decide +kernel
theorem dX11_signToken_179 : decode cX11_signToken 179 = .ok (.iconst 0, 1) := by decide +kernel
theorem dX11_signToken_180 : decode cX11_signToken 180 = .ok (.goto 12, 3) := by decide +kernel
theorem dX11_signToken_183 : decode cX11_signToken 183 = .ok (.iload_n 2, 1) := by decide +kernel
theorem dX11_signToken_184 : decode cX11_signToken 184 = .ok (.ifCond .eq 7, 3) := by decide +kernel
theorem dX11_signToken_187 : decode cX11_signToken 187 = .ok (.iconst 4, 1) := by decide +kernel
theorem dX11_signToken_188 : decode cX11_signToken 188 = .ok (.goto 4, 3) := by decide +kernel
theorem dX11_signToken_191 : decode cX11_signToken 191 = .ok (.iconst 5, 1) := by decide +kernel
theorem dX11_signToken_192 : decode cX11_signToken 192 = .ok (.putfield 189, 3) := by decide +kernel
theorem dX11_signToken_195 : decode cX11_signToken 195 = .ok (.goto 95, 3) := by decide +kernel
theorem dX11_signToken_198 : decode cX11_signToken 198 = .ok (.aload_n 0, 1) := by decide +kernel
theorem dX11_signToken_199 : decode cX11_signToken 199 = .ok (.getfield 189, 3) := by decide +kernel
theorem dX11_signToken_202 : decode cX11_signToken 202 = .ok (.bipush 59, 2) := by decide +kernel
theorem dX11_signToken_204 : decode cX11_signToken 204 = .ok (.if_icmp .eq 66, 3) := by decide +kernel
theorem dX11_signToken_207 : decode cX11_signToken 207 = .ok (.aload_n 0, 1) := by decide +kernel
theorem dX11_signToken_208 : decode cX11_signToken 208 = .ok (.getfield 189, 3) := by decide +kernel
theorem dX11_signToken_211 : decode cX11_signToken 211 = .ok (.bipush 40, 2) := by decide +kernel
theorem dX11_signToken_213 : decode cX11_signToken 213 = .ok (.if_icmp .eq 57, 3) := by decide +kernel
theorem dX11_signToken_216 : decode cX11_signToken 216 = .ok (.aload_n 0, 1) := by decide +kernel
theorem dX11_signToken_217 : decode cX11_signToken 217 = .ok (.getfield 189, 3) := by decide +kernel
theorem dX11_signToken_220 : decode cX11_signToken 220 = .ok (.bipush 41, 2) := by decide +kernel
theorem dX11_signToken_222 : decode cX11_signToken 222 = .ok (.if_icmp .eq 48, 3) := by decide +kernel
theorem dX11_signToken_225 : decode cX11_signToken 225 = .ok (.aload_n 0, 1) := by decide +kernel
theorem dX11_signToken_226 : decode cX11_signToken 226 = .ok (.getfield 189, 3) := by decide +kernel
theorem dX11_signToken_229 : decode cX11_signToken 229 = .ok (.bipush 43, 2) := by decide +kernel
theorem dX11_signToken_231 : decode cX11_signToken 231 = .ok (.if_icmp .eq 39, 3) := by decide +kernel
theorem dX11_signToken_234 : decode cX11_signToken 234 = .ok (.aload_n 0, 1) := by decide +kernel
theorem dX11_signToken_235 : decode cX11_signToken 235 = .ok (.getfield 189, 3) := by decide +kernel
theorem dX11_signToken_238 : decode cX11_signToken 238 = .ok (.bipush 45, 2) := by decide +kernel
theorem dX11_signToken_240 : decode cX11_signToken 240 = .ok (.if_icmp .eq 30, 3) := by decide +kernel
theorem dX11_signToken_243 : decode cX11_signToken 243 = .ok (.aload_n 0, 1) := by decide +kernel
theorem dX11_signToken_244 : decode cX11_signToken 244 = .ok (.getfield 189, 3) := by decide +kernel
theorem dX11_signToken_247 : decode cX11_signToken 247 = .ok (.bipush 42, 2) := by decide +kernel
theorem dX11_signToken_249 : decode cX11_signToken 249 = .ok (.if_icmp .eq 21, 3) := by decide +kernel
theorem dX11_signToken_252 : decode cX11_signToken 252 = .ok (.aload_n 0, 1) := by decide +kernel
theorem dX11_signToken_253 : decode cX11_signToken 253 = .ok (.getfield 189, 3) := by decide +kernel
theorem dX11_signToken_256 : decode cX11_signToken 256 = .ok (.bipush 47, 2) := by decide +kernel
theorem dX11_signToken_258 : decode cX11_signToken 258 = .ok (.if_icmp .eq 12, 3) := by decide +kernel
theorem dX11_signToken_261 : decode cX11_signToken 261 = .ok (.aload_n 0, 1) := by decide +kernel
theorem dX11_signToken_262 : decode cX11_signToken 262 = .ok (.getfield 189, 3) := by decide +kernel
theorem dX11_signToken_265 : decode cX11_signToken 265 = .ok (.bipush 37, 2) := by decide +kernel
theorem dX11_signToken_267 : decode cX11_signToken 267 = .ok (.if_icmp .ne 7, 3) := by decide +kernel
theorem dX11_signToken_270 : decode cX11_signToken 270 = .ok (.iconst 1, 1) := by decide +kernel
theorem dX11_signToken_271 : decode cX11_signToken 271 = .ok (.goto 4, 3) := by decide +kernel
theorem dX11_signToken_274 : decode cX11_signToken 274 = .ok (.iconst 0, 1) := by decide +kernel
theorem dX11_signToken_275 : decode cX11_signToken 275 = .ok (.istore_n 1, 1) := by decide +kernel
theorem dX11_signToken_276 : decode cX11_signToken 276 = .ok (.aload_n 0, 1) := by decide +kernel
theorem dX11_signToken_277 : decode cX11_signToken 277 = .ok (.iload_n 1, 1) := by decide +kernel
theorem dX11_signToken_278 : decode cX11_signToken 278 = .ok (.ifCond .eq 7, 3) := by decide +kernel
theorem dX11_signToken_281 : decode cX11_signToken 281 = .ok (.iconst 4, 1) := by decide +kernel
theorem dX11_signToken_282 : decode cX11_signToken 282 = .ok (.goto 5, 3) := by decide +kernel
theorem dX11_signToken_285 : decode cX11_signToken 285 = .ok (.bipush 6, 2) := by decide +kernel
theorem dX11_signToken_287 : decode cX11_signToken 287 = .ok (.putfield 178, 3) := by decide +kernel
theorem dX11_signToken_290 : decode cX11_signToken 290 = .ok (.return_, 1) := by decide +kernel
theorem dX11_packed_0 : decode cX11_packed 0 = .ok (.iconst 0, 1) := by decide +kernel
theorem dX11_packed_1 : decode cX11_packed 1 = .ok (.istore_n 3, 1) := by decide +kernel
theorem dX11_packed_2 : decode cX11_packed 2 = .ok (.iload_n 1, 1) := by decide +kernel
theorem dX11_packed_3 : decode cX11_packed 3 = .ok (.istore 4, 2) := by decide +kernel
theorem dX11_packed_5 : decode cX11_packed 5 = .ok (.iload 4, 2) := by decide +kernel
theorem dX11_packed_7 : decode cX11_packed 7 = .ok (.iload_n 1, 1) := by decide +kernel
theorem dX11_packed_8 : decode cX11_packed 8 = .ok (.bipush 6, 2) := by decide +kernel
theorem dX11_packed_10 : decode cX11_packed 10 = .ok (.iadd, 1) := by decide +kernel
theorem dX11_packed_11 : decode cX11_packed 11 = .ok (.if_icmp .ge 34, 3) := by decide +kernel
theorem dX11_packed_14 : decode cX11_packed 14 = .ok (.iload_n 3, 1) := by decide +kernel
theorem dX11_packed_15 : decode cX11_packed 15 = .ok (.iconst 5, 1) := by decide +kernel
theorem dX11_packed_16 : decode cX11_packed 16 = .ok (.ishl, 1) := by decide +kernel
theorem dX11_packed_17 : decode cX11_packed 17 = .ok (.iload 4, 2) := by decide +kernel
theorem dX11_packed_19 : decode cX11_packed 19 = .ok (.iload_n 2, 1) := by decide +kernel
theorem dX11_packed_20 : decode cX11_packed 20 = .ok (.if_icmp .ge 16, 3) := by decide +kernel
theorem dX11_packed_23 : decode cX11_packed 23 = .ok (.aload_n 0, 1) := by decide +kernel
theorem dX11_packed_24 : decode cX11_packed 24 = .ok (.getfield 7, 3) := by decide +kernel
theorem dX11_packed_27 : decode cX11_packed 27 = .ok (.iload 4, 2) := by decide +kernel
theorem dX11_packed_29 : decode cX11_packed 29 = .ok (.iaload, 1) := by decide +kernel
theorem dX11_packed_30 : decode cX11_packed 30 = .ok (.bipush 96, 2) := by decide +kernel
theorem dX11_packed_32 : decode cX11_packed 32 = .ok (.isub, 1) := by decide +kernel
theorem dX11_packed_33 : decode cX11_packed 33 = .ok (.goto 4, 3) := by decide +kernel
theorem dX11_packed_36 : decode cX11_packed 36 = .ok (.iconst 0, 1) := by decide +kernel
theorem dX11_packed_37 : decode cX11_packed 37 = .ok (.ior, 1) := by decide +kernel
theorem dX11_packed_38 : decode cX11_packed 38 = .ok (.istore_n 3, 1) := by decide +kernel
theorem dX11_packed_39 : decode cX11_packed 39 = .ok (.iinc 4 1, 3) := by decide +kernel
theorem dX11_packed_42 : decode cX11_packed 42 = .ok (.goto (-37), 3) := by decide +kernel
theorem dX11_packed_45 : decode cX11_packed 45 = .ok (.iload_n 3, 1) := by decide +kernel
theorem dX11_packed_46 : decode cX11_packed 46 = .ok (.ireturn, 1) := by decide +kernel
theorem dX11_isKey_0 : decode cX11_isKey 0 = .ok (.aload_n 0, 1) := by decide +kernel
theorem dX11_isKey_1 : decode cX11_isKey 1 = .ok (.getfield 178, 3) := by decide +kernel
theorem dX11_isKey_4 : decode cX11_isKey 4 = .ok (.iconst 1, 1) := by decide +kernel
theorem dX11_isKey_5 : decode cX11_isKey 5 = .ok (.if_icmp .ne 15, 3) := by decide +kernel
theorem dX11_isKey_8 : decode cX11_isKey 8 = .ok (.aload_n 0, 1) := by decide +kernel
theorem dX11_isKey_9 : decode cX11_isKey 9 = .ok (.getfield 189, 3) := by decide +kernel
theorem dX11_isKey_12 : decode cX11_isKey 12 = .ok (.iload_n 1, 1) := by decide +kernel
theorem dX11_isKey_13 : decode cX11_isKey 13 = .ok (.if_icmp .ne 7, 3) := by decide +kernel
theorem dX11_isKey_16 : decode cX11_isKey 16 = .ok (.iconst 1, 1) := by decide +kernel
theorem dX11_isKey_17 : decode cX11_isKey 17 = .ok (.goto 4, 3) := by decide +kernel
theorem dX11_isKey_20 : decode cX11_isKey 20 = .ok (.iconst 0, 1) := by decide +kernel
theorem dX11_isKey_21 : decode cX11_isKey 21 = .ok (.ireturn, 1) := by decide +kernel
theorem dX11_isSign_0 : decode cX11_isSign 0 = .ok (.aload_n 0, 1) := by decide +kernel
theorem dX11_isSign_1 : decode cX11_isSign 1 = .ok (.getfield 178, 3) := by decide +kernel
theorem dX11_isSign_4 : decode cX11_isSign 4 = .ok (.iconst 4, 1) := by decide +kernel
theorem dX11_isSign_5 : decode cX11_isSign 5 = .ok (.if_icmp .ne 15, 3) := by decide +kernel
theorem dX11_isSign_8 : decode cX11_isSign 8 = .ok (.aload_n 0, 1) := by decide +kernel
theorem dX11_isSign_9 : decode cX11_isSign 9 = .ok (.getfield 189, 3) := by decide +kernel
theorem dX11_isSign_12 : decode cX11_isSign 12 = .ok (.iload_n 1, 1) := by decide +kernel
theorem dX11_isSign_13 : decode cX11_isSign 13 = .ok (.if_icmp .ne 7, 3) := by decide +kernel
theorem dX11_isSign_16 : decode cX11_isSign 16 = .ok (.iconst 1, 1) := by decide +kernel
theorem dX11_isSign_17 : decode cX11_isSign 17 = .ok (.goto 4, 3) := by decide +kernel
theorem dX11_isSign_20 : decode cX11_isSign 20 = .ok (.iconst 0, 1) := by decide +kernel
theorem dX11_isSign_21 : decode cX11_isSign 21 = .ok (.ireturn, 1) := by decide +kernel
theorem dX11_number_0 : decode cX11_number 0 = .ok (.aload_n 0, 1) := by decide +kernel
theorem dX11_number_1 : decode cX11_number 1 = .ok (.getfield 178, 3) := by decide +kernel
theorem dX11_number_4 : decode cX11_number 4 = .ok (.iconst 3, 1) := by decide +kernel
theorem dX11_number_5 : decode cX11_number 5 = .ok (.if_icmp .eq 9, 3) := by decide +kernel
theorem dX11_number_8 : decode cX11_number 8 = .ok (.aload_n 0, 1) := by decide +kernel
theorem dX11_number_9 : decode cX11_number 9 = .ok (.iconst 1, 1) := by decide +kernel
theorem dX11_number_10 : decode cX11_number 10 = .ok (.invokevirtual 202, 3) := by decide +kernel
theorem dX11_number_13 : decode cX11_number 13 = .ok (.ireturn, 1) := by decide +kernel
theorem dX11_number_14 : decode cX11_number 14 = .ok (.aload_n 0, 1) := by decide +kernel
theorem dX11_number_15 : decode cX11_number 15 = .ok (.getfield 189, 3) := by decide +kernel
