def lDX4_spill_1 : List (Nat × Instr × Nat) := [(97, .lastore, 1), (98, .iinc 5 1, 3), (101, .goto (-50), 3), (104, .return_, 1)]
theorem DX4_spill_1 : dAll cX4_spill lDX4_spill_1 = true := by decide +kernel
theorem dX4_spill_97 : decode cX4_spill 97 = .ok (.lastore, 1) := dAt (x := (97, .lastore, 1)) DX4_spill_1 0 rfl
theorem dX4_spill_98 : decode cX4_spill 98 = .ok (.iinc 5 1, 3) := dAt (x := (98, .iinc 5 1, 3)) DX4_spill_1 1 rfl
theorem dX4_spill_101 : decode cX4_spill 101 = .ok (.goto (-50), 3) := dAt (x := (101, .goto (-50), 3)) DX4_spill_1 2 rfl
theorem dX4_spill_104 : decode cX4_spill 104 = .ok (.return_, 1) := dAt (x := (104, .return_, 1)) DX4_spill_1 3 rfl
def lDX5_init_0 : List (Nat × Instr × Nat) := [(0, .aload_n 0, 1), (1, .invokespecial 3, 3), (4, .aload_n 0, 1), (5, .new 9, 3), (8, .dup, 1), (9, .invokespecial 11, 3), (12, .putfield 12, 3), (15, .aload_n 0, 1), (16, .new 18, 3), (19, .dup, 1), (20, .invokespecial 20, 3), (23, .putfield 21, 3), (26, .aload_n 0, 1), (27, .bipush 72, 2), (29, .newarray .int, 2), (31, .putfield 25, 3), (34, .aload_n 0, 1), (35, .iconst (-1), 1), (36, .putfield 29, 3), (39, .aload_n 0, 1), (40, .iconst (-1), 1), (41, .putfield 33, 3), (44, .return_, 1)]
theorem DX5_init_0 : dAll cX5_init lDX5_init_0 = true := by decide +kernel
theorem dX5_init_0 : decode cX5_init 0 = .ok (.aload_n 0, 1) := dAt (x := (0, .aload_n 0, 1)) DX5_init_0 0 rfl
theorem dX5_init_1 : decode cX5_init 1 = .ok (.invokespecial 3, 3) := dAt (x := (1, .invokespecial 3, 3)) DX5_init_0 1 rfl
theorem dX5_init_4 : decode cX5_init 4 = .ok (.aload_n 0, 1) := dAt (x := (4, .aload_n 0, 1)) DX5_init_0 2 rfl
theorem dX5_init_5 : decode cX5_init 5 = .ok (.new 9, 3) := dAt (x := (5, .new 9, 3)) DX5_init_0 3 rfl
theorem dX5_init_8 : decode cX5_init 8 = .ok (.dup, 1) := dAt (x := (8, .dup, 1)) DX5_init_0 4 rfl
theorem dX5_init_9 : decode cX5_init 9 = .ok (.invokespecial 11, 3) := dAt (x := (9, .invokespecial 11, 3)) DX5_init_0 5 rfl
theorem dX5_init_12 : decode cX5_init 12 = .ok (.putfield 12, 3) := dAt (x := (12, .putfield 12, 3)) DX5_init_0 6 rfl
theorem dX5_init_15 : decode cX5_init 15 = .ok (.aload_n 0, 1) := dAt (x := (15, .aload_n 0, 1)) DX5_init_0 7 rfl
theorem dX5_init_16 : decode cX5_init 16 = .ok (.new 18, 3) := dAt (x := (16, .new 18, 3)) DX5_init_0 8 rfl
theorem dX5_init_19 : decode cX5_init 19 = .ok (.dup, 1) := dAt (x := (19, .dup, 1)) DX5_init_0 9 rfl
theorem dX5_init_20 : decode cX5_init 20 = .ok (.invokespecial 20, 3) := dAt (x := (20, .invokespecial 20, 3)) DX5_init_0 10 rfl
theorem dX5_init_23 : decode cX5_init 23 = .ok (.putfield 21, 3) := dAt (x := (23, .putfield 21, 3)) DX5_init_0 11 rfl
theorem dX5_init_26 : decode cX5_init 26 = .ok (.aload_n 0, 1) := dAt (x := (26, .aload_n 0, 1)) DX5_init_0 12 rfl
theorem dX5_init_27 : decode cX5_init 27 = .ok (.bipush 72, 2) := dAt (x := (27, .bipush 72, 2)) DX5_init_0 13 rfl
theorem dX5_init_29 : decode cX5_init 29 = .ok (.newarray .int, 2) := dAt (x := (29, .newarray .int, 2)) DX5_init_0 14 rfl
theorem dX5_init_31 : decode cX5_init 31 = .ok (.putfield 25, 3) := dAt (x := (31, .putfield 25, 3)) DX5_init_0 15 rfl
theorem dX5_init_34 : decode cX5_init 34 = .ok (.aload_n 0, 1) := dAt (x := (34, .aload_n 0, 1)) DX5_init_0 16 rfl
theorem dX5_init_35 : decode cX5_init 35 = .ok (.iconst (-1), 1) := dAt (x := (35, .iconst (-1), 1)) DX5_init_0 17 rfl
theorem dX5_init_36 : decode cX5_init 36 = .ok (.putfield 29, 3) := dAt (x := (36, .putfield 29, 3)) DX5_init_0 18 rfl
theorem dX5_init_39 : decode cX5_init 39 = .ok (.aload_n 0, 1) := dAt (x := (39, .aload_n 0, 1)) DX5_init_0 19 rfl
theorem dX5_init_40 : decode cX5_init 40 = .ok (.iconst (-1), 1) := dAt (x := (40, .iconst (-1), 1)) DX5_init_0 20 rfl
theorem dX5_init_41 : decode cX5_init 41 = .ok (.putfield 33, 3) := dAt (x := (41, .putfield 33, 3)) DX5_init_0 21 rfl
theorem dX5_init_44 : decode cX5_init 44 = .ok (.return_, 1) := dAt (x := (44, .return_, 1)) DX5_init_0 22 rfl
def lDX5_reads_0 : List (Nat × Instr × Nat) := [(0, .aload_n 0, 1), (1, .getfield 21, 3), (4, .invokevirtual 36, 3), (7, .aload_n 0, 1), (8, .iconst 0, 1), (9, .putfield 39, 3), (12, .aload_n 0, 1), (13, .iconst 0, 1), (14, .putfield 42, 3), (17, .aload_n 0, 1), (18, .iconst 0, 1), (19, .putfield 46, 3), (22, .aload_n 0, 1), (23, .iconst 0, 1), (24, .putfield 49, 3), (27, .aload_n 0, 1), (28, .iconst (-1), 1), (29, .putfield 33, 3), (32, .aload_n 0, 1), (33, .getfield 12, 3), (36, .iload_n 1, 1), (37, .invokevirtual 52, 3), (40, .iconst 0, 1), (41, .istore_n 2, 1), (42, .iload_n 2, 1), (43, .sipush 700, 3), (46, .if_icmp .gt 50, 3), (49, .aload_n 0, 1), (50, .getfield 12, 3), (53, .getfield 56, 3), (56, .bipush 39, 2), (58, .if_icmp .eq 38, 3), (61, .aload_n 0, 1), (62, .invokevirtual 59, 3), (65, .ifCond .eq 10, 3), (68, .aload_n 0, 1), (69, .invokevirtual 63, 3), (72, .ifCond .ne 5, 3), (75, .iconst 0, 1), (76, .ireturn, 1), (77, .aload_n 0, 1), (78, .getfield 21, 3), (81, .dup, 1), (82, .getfield 66, 3), (85, .iconst 1, 1), (86, .iadd, 1), (87, .putfield 66, 3), (90, .iinc 2 1, 3), (93, .goto (-51), 3), (96, .aload_n 0, 1), (97, .getfield 21, 3), (100, .invokevirtual 69, 3), (103, .iconst 1, 1), (104, .ireturn, 1)]
theorem DX5_reads_0 : dAll cX5_reads lDX5_reads_0 = true := by decide +kernel
theorem dX5_reads_0 : decode cX5_reads 0 = .ok (.aload_n 0, 1) := dAt (x := (0, .aload_n 0, 1)) DX5_reads_0 0 rfl
theorem dX5_reads_1 : decode cX5_reads 1 = .ok (.getfield 21, 3) := dAt (x := (1, .getfield 21, 3)) DX5_reads_0 1 rfl
theorem dX5_reads_4 : decode cX5_reads 4 = .ok (.invokevirtual 36, 3) := dAt (x := (4, .invokevirtual 36, 3)) DX5_reads_0 2 rfl
theorem dX5_reads_7 : decode cX5_reads 7 = .ok (.aload_n 0, 1) := dAt (x := (7, .aload_n 0, 1)) DX5_reads_0 3 rfl
theorem dX5_reads_8 : decode cX5_reads 8 = .ok (.iconst 0, 1) := dAt (x := (8, .iconst 0, 1)) DX5_reads_0 4 rfl
theorem dX5_reads_9 : decode cX5_reads 9 = .ok (.putfield 39, 3) := dAt (x := (9, .putfield 39, 3)) DX5_reads_0 5 rfl
theorem dX5_reads_12 : decode cX5_reads 12 = .ok (.aload_n 0, 1) := dAt (x := (12, .aload_n 0, 1)) DX5_reads_0 6 rfl
theorem dX5_reads_13 : decode cX5_reads 13 = .ok (.iconst 0, 1) := dAt (x := (13, .iconst 0, 1)) DX5_reads_0 7 rfl
theorem dX5_reads_14 : decode cX5_reads 14 = .ok (.putfield 42, 3) := dAt (x := (14, .putfield 42, 3)) DX5_reads_0 8 rfl
theorem dX5_reads_17 : decode cX5_reads 17 = .ok (.aload_n 0, 1) := dAt (x := (17, .aload_n 0, 1)) DX5_reads_0 9 rfl
theorem dX5_reads_18 : decode cX5_reads 18 = .ok (.iconst 0, 1) := dAt (x := (18, .iconst 0, 1)) DX5_reads_0 10 rfl
theorem dX5_reads_19 : decode cX5_reads 19 = .ok (.putfield 46, 3) := dAt (x := (19, .putfield 46, 3)) DX5_reads_0 11 rfl
theorem dX5_reads_22 : decode cX5_reads 22 = .ok (.aload_n 0, 1) := dAt (x := (22, .aload_n 0, 1)) DX5_reads_0 12 rfl
theorem dX5_reads_23 : decode cX5_reads 23 = .ok (.iconst 0, 1) := dAt (x := (23, .iconst 0, 1)) DX5_reads_0 13 rfl
theorem dX5_reads_24 : decode cX5_reads 24 = .ok (.putfield 49, 3) := dAt (x := (24, .putfield 49, 3)) DX5_reads_0 14 rfl
theorem dX5_reads_27 : decode cX5_reads 27 = .ok (.aload_n 0, 1) := dAt (x := (27, .aload_n 0, 1)) DX5_reads_0 15 rfl
theorem dX5_reads_28 : decode cX5_reads 28 = .ok (.iconst (-1), 1) := dAt (x := (28, .iconst (-1), 1)) DX5_reads_0 16 rfl
theorem dX5_reads_29 : decode cX5_reads 29 = .ok (.putfield 33, 3) := dAt (x := (29, .putfield 33, 3)) DX5_reads_0 17 rfl
theorem dX5_reads_32 : decode cX5_reads 32 = .ok (.aload_n 0, 1) := dAt (x := (32, .aload_n 0, 1)) DX5_reads_0 18 rfl
theorem dX5_reads_33 : decode cX5_reads 33 = .ok (.getfield 12, 3) := dAt (x := (33, .getfield 12, 3)) DX5_reads_0 19 rfl
theorem dX5_reads_36 : decode cX5_reads 36 = .ok (.iload_n 1, 1) := dAt (x := (36, .iload_n 1, 1)) DX5_reads_0 20 rfl
theorem dX5_reads_37 : decode cX5_reads 37 = .ok (.invokevirtual 52, 3) := dAt (x := (37, .invokevirtual 52, 3)) DX5_reads_0 21 rfl
theorem dX5_reads_40 : decode cX5_reads 40 = .ok (.iconst 0, 1) := dAt (x := (40, .iconst 0, 1)) DX5_reads_0 22 rfl
theorem dX5_reads_41 : decode cX5_reads 41 = .ok (.istore_n 2, 1) := dAt (x := (41, .istore_n 2, 1)) DX5_reads_0 23 rfl
theorem dX5_reads_42 : decode cX5_reads 42 = .ok (.iload_n 2, 1) := dAt (x := (42, .iload_n 2, 1)) DX5_reads_0 24 rfl
theorem dX5_reads_43 : decode cX5_reads 43 = .ok (.sipush 700, 3) := dAt (x := (43, .sipush 700, 3)) DX5_reads_0 25 rfl
theorem dX5_reads_46 : decode cX5_reads 46 = .ok (.if_icmp .gt 50, 3) := dAt (x := (46, .if_icmp .gt 50, 3)) DX5_reads_0 26 rfl
theorem dX5_reads_49 : decode cX5_reads 49 = .ok (.aload_n 0, 1) := dAt (x := (49, .aload_n 0, 1)) DX5_reads_0 27 rfl
theorem dX5_reads_50 : decode cX5_reads 50 = .ok (.getfield 12, 3) := dAt (x := (50, .getfield 12, 3)) DX5_reads_0 28 rfl
theorem dX5_reads_53 : decode cX5_reads 53 = .ok (.getfield 56, 3) := dAt (x := (53, .getfield 56, 3)) DX5_reads_0 29 rfl
theorem dX5_reads_56 : decode cX5_reads 56 = .ok (.bipush 39, 2) := dAt (x := (56, .bipush 39, 2)) DX5_reads_0 30 rfl
theorem dX5_reads_58 : decode cX5_reads 58 = .ok (.if_icmp .eq 38, 3) := dAt (x := (58, .if_icmp .eq 38, 3)) DX5_reads_0 31 rfl
theorem dX5_reads_61 : decode cX5_reads 61 = .ok (.aload_n 0, 1) := dAt (x := (61, .aload_n 0, 1)) DX5_reads_0 32 rfl
theorem dX5_reads_62 : decode cX5_reads 62 = .ok (.invokevirtual 59, 3) := dAt (x := (62, .invokevirtual 59, 3)) DX5_reads_0 33 rfl
theorem dX5_reads_65 : decode cX5_reads 65 = .ok (.ifCond .eq 10, 3) := dAt (x := (65, .ifCond .eq 10, 3)) DX5_reads_0 34 rfl
theorem dX5_reads_68 : decode cX5_reads 68 = .ok (.aload_n 0, 1) := dAt (x := (68, .aload_n 0, 1)) DX5_reads_0 35 rfl
theorem dX5_reads_69 : decode cX5_reads 69 = .ok (.invokevirtual 63, 3) := dAt (x := (69, .invokevirtual 63, 3)) DX5_reads_0 36 rfl
theorem dX5_reads_72 : decode cX5_reads 72 = .ok (.ifCond .ne 5, 3) := dAt (x := (72, .ifCond .ne 5, 3)) DX5_reads_0 37 rfl
theorem dX5_reads_75 : decode cX5_reads 75 = .ok (.iconst 0, 1) := dAt (x := (75, .iconst 0, 1)) DX5_reads_0 38 rfl
theorem dX5_reads_76 : decode cX5_reads 76 = .ok (.ireturn, 1) := dAt (x := (76, .ireturn, 1)) DX5_reads_0 39 rfl
theorem dX5_reads_77 : decode cX5_reads 77 = .ok (.aload_n 0, 1) := dAt (x := (77, .aload_n 0, 1)) DX5_reads_0 40 rfl
theorem dX5_reads_78 : decode cX5_reads 78 = .ok (.getfield 21, 3) := dAt (x := (78, .getfield 21, 3)) DX5_reads_0 41 rfl
theorem dX5_reads_81 : decode cX5_reads 81 = .ok (.dup, 1) := dAt (x := (81, .dup, 1)) DX5_reads_0 42 rfl
theorem dX5_reads_82 : decode cX5_reads 82 = .ok (.getfield 66, 3) := dAt (x := (82, .getfield 66, 3)) DX5_reads_0 43 rfl
theorem dX5_reads_85 : decode cX5_reads 85 = .ok (.iconst 1, 1) := dAt (x := (85, .iconst 1, 1)) DX5_reads_0 44 rfl
theorem dX5_reads_86 : decode cX5_reads 86 = .ok (.iadd, 1) := dAt (x := (86, .iadd, 1)) DX5_reads_0 45 rfl
theorem dX5_reads_87 : decode cX5_reads 87 = .ok (.putfield 66, 3) := dAt (x := (87, .putfield 66, 3)) DX5_reads_0 46 rfl
theorem dX5_reads_90 : decode cX5_reads 90 = .ok (.iinc 2 1, 3) := dAt (x := (90, .iinc 2 1, 3)) DX5_reads_0 47 rfl
theorem dX5_reads_93 : decode cX5_reads 93 = .ok (.goto (-51), 3) := dAt (x := (93, .goto (-51), 3)) DX5_reads_0 48 rfl
theorem dX5_reads_96 : decode cX5_reads 96 = .ok (.aload_n 0, 1) := dAt (x := (96, .aload_n 0, 1)) DX5_reads_0 49 rfl
theorem dX5_reads_97 : decode cX5_reads 97 = .ok (.getfield 21, 3) := dAt (x := (97, .getfield 21, 3)) DX5_reads_0 50 rfl
theorem dX5_reads_100 : decode cX5_reads 100 = .ok (.invokevirtual 69, 3) := dAt (x := (100, .invokevirtual 69, 3)) DX5_reads_0 51 rfl
theorem dX5_reads_103 : decode cX5_reads 103 = .ok (.iconst 1, 1) := dAt (x := (103, .iconst 1, 1)) DX5_reads_0 52 rfl
theorem dX5_reads_104 : decode cX5_reads 104 = .ok (.ireturn, 1) := dAt (x := (104, .ireturn, 1)) DX5_reads_0 53 rfl
def lDX5_fails_0 : List (Nat × Instr × Nat) := [(0, .aload_n 0, 1), (1, .iload_n 1, 1), (2, .putfield 49, 3), (5, .aload_n 0, 1), (6, .aload_n 0, 1), (7, .getfield 12, 3), (10, .getfield 72, 3), (13, .putfield 33, 3), (16, .iconst 0, 1), (17, .ireturn, 1)]
theorem DX5_fails_0 : dAll cX5_fails lDX5_fails_0 = true := by decide +kernel
theorem dX5_fails_0 : decode cX5_fails 0 = .ok (.aload_n 0, 1) := dAt (x := (0, .aload_n 0, 1)) DX5_fails_0 0 rfl
theorem dX5_fails_1 : decode cX5_fails 1 = .ok (.iload_n 1, 1) := dAt (x := (1, .iload_n 1, 1)) DX5_fails_0 1 rfl
theorem dX5_fails_2 : decode cX5_fails 2 = .ok (.putfield 49, 3) := dAt (x := (2, .putfield 49, 3)) DX5_fails_0 2 rfl
theorem dX5_fails_5 : decode cX5_fails 5 = .ok (.aload_n 0, 1) := dAt (x := (5, .aload_n 0, 1)) DX5_fails_0 3 rfl
theorem dX5_fails_6 : decode cX5_fails 6 = .ok (.aload_n 0, 1) := dAt (x := (6, .aload_n 0, 1)) DX5_fails_0 4 rfl
theorem dX5_fails_7 : decode cX5_fails 7 = .ok (.getfield 12, 3) := dAt (x := (7, .getfield 12, 3)) DX5_fails_0 5 rfl
theorem dX5_fails_10 : decode cX5_fails 10 = .ok (.getfield 72, 3) := dAt (x := (10, .getfield 72, 3)) DX5_fails_0 6 rfl
theorem dX5_fails_13 : decode cX5_fails 13 = .ok (.putfield 33, 3) := dAt (x := (13, .putfield 33, 3)) DX5_fails_0 7 rfl
theorem dX5_fails_16 : decode cX5_fails 16 = .ok (.iconst 0, 1) := dAt (x := (16, .iconst 0, 1)) DX5_fails_0 8 rfl
theorem dX5_fails_17 : decode cX5_fails 17 = .ok (.ireturn, 1) := dAt (x := (17, .ireturn, 1)) DX5_fails_0 9 rfl
def lDX5_ends_0 : List (Nat × Instr × Nat) := [(0, .aload_n 0, 1), (1, .getfield 12, 3), (4, .getfield 56, 3), (7, .bipush 24, 2), (9, .if_icmp .eq 9, 3), (12, .aload_n 0, 1), (13, .iconst 1, 1), (14, .invokevirtual 75, 3), (17, .ireturn, 1), (18, .aload_n 0, 1), (19, .getfield 12, 3), (22, .invokevirtual 79, 3), (25, .iconst 1, 1), (26, .ireturn, 1)]
theorem DX5_ends_0 : dAll cX5_ends lDX5_ends_0 = true := by decide +kernel
theorem dX5_ends_0 : decode cX5_ends 0 = .ok (.aload_n 0, 1) := dAt (x := (0, .aload_n 0, 1)) DX5_ends_0 0 rfl
theorem dX5_ends_1 : decode cX5_ends 1 = .ok (.getfield 12, 3) := dAt (x := (1, .getfield 12, 3)) DX5_ends_0 1 rfl
theorem dX5_ends_4 : decode cX5_ends 4 = .ok (.getfield 56, 3) := dAt (x := (4, .getfield 56, 3)) DX5_ends_0 2 rfl
theorem dX5_ends_7 : decode cX5_ends 7 = .ok (.bipush 24, 2) := dAt (x := (7, .bipush 24, 2)) DX5_ends_0 3 rfl
theorem dX5_ends_9 : decode cX5_ends 9 = .ok (.if_icmp .eq 9, 3) := dAt (x := (9, .if_icmp .eq 9, 3)) DX5_ends_0 4 rfl
theorem dX5_ends_12 : decode cX5_ends 12 = .ok (.aload_n 0, 1) := dAt (x := (12, .aload_n 0, 1)) DX5_ends_0 5 rfl
theorem dX5_ends_13 : decode cX5_ends 13 = .ok (.iconst 1, 1) := dAt (x := (13, .iconst 1, 1)) DX5_ends_0 6 rfl
theorem dX5_ends_14 : decode cX5_ends 14 = .ok (.invokevirtual 75, 3) := dAt (x := (14, .invokevirtual 75, 3)) DX5_ends_0 7 rfl
theorem dX5_ends_17 : decode cX5_ends 17 = .ok (.ireturn, 1) := dAt (x := (17, .ireturn, 1)) DX5_ends_0 8 rfl
theorem dX5_ends_18 : decode cX5_ends 18 = .ok (.aload_n 0, 1) := dAt (x := (18, .aload_n 0, 1)) DX5_ends_0 9 rfl
theorem dX5_ends_19 : decode cX5_ends 19 = .ok (.getfield 12, 3) := dAt (x := (19, .getfield 12, 3)) DX5_ends_0 10 rfl
theorem dX5_ends_22 : decode cX5_ends 22 = .ok (.invokevirtual 79, 3) := dAt (x := (22, .invokevirtual 79, 3)) DX5_ends_0 11 rfl
theorem dX5_ends_25 : decode cX5_ends 25 = .ok (.iconst 1, 1) := dAt (x := (25, .iconst 1, 1)) DX5_ends_0 12 rfl
theorem dX5_ends_26 : decode cX5_ends 26 = .ok (.ireturn, 1) := dAt (x := (26, .ireturn, 1)) DX5_ends_0 13 rfl
def lDX5_line_0 : List (Nat × Instr × Nat) := [(0, .aload_n 0, 1), (1, .getfield 12, 3), (4, .getfield 56, 3), (7, .tableswitch 76 0 6 #[41, 46, 51, 56, 61, 66, 71], 41), (48, .aload_n 0, 1), (49, .invokevirtual 82, 3), (52, .ireturn, 1), (53, .aload_n 0, 1), (54, .invokevirtual 85, 3), (57, .ireturn, 1), (58, .aload_n 0, 1), (59, .invokevirtual 88, 3), (62, .ireturn, 1), (63, .aload_n 0, 1), (64, .invokevirtual 91, 3), (67, .ireturn, 1), (68, .aload_n 0, 1), (69, .invokevirtual 94, 3), (72, .ireturn, 1), (73, .aload_n 0, 1), (74, .invokevirtual 97, 3), (77, .ireturn, 1), (78, .aload_n 0, 1), (79, .invokevirtual 100, 3), (82, .ireturn, 1), (83, .aload_n 0, 1), (84, .iconst 1, 1), (85, .invokevirtual 75, 3), (88, .ireturn, 1)]
theorem DX5_line_0 : dAll cX5_line lDX5_line_0 = true := by decide +kernel
theorem dX5_line_0 : decode cX5_line 0 = .ok (.aload_n 0, 1) := dAt (x := (0, .aload_n 0, 1)) DX5_line_0 0 rfl
theorem dX5_line_1 : decode cX5_line 1 = .ok (.getfield 12, 3) := dAt (x := (1, .getfield 12, 3)) DX5_line_0 1 rfl
theorem dX5_line_4 : decode cX5_line 4 = .ok (.getfield 56, 3) := dAt (x := (4, .getfield 56, 3)) DX5_line_0 2 rfl
theorem dX5_line_7 : decode cX5_line 7 = .ok (.tableswitch 76 0 6 #[41, 46, 51, 56, 61, 66, 71], 41) := dAt (x := (7, .tableswitch 76 0 6 #[41, 46, 51, 56, 61, 66, 71], 41)) DX5_line_0 3 rfl
theorem dX5_line_48 : decode cX5_line 48 = .ok (.aload_n 0, 1) := dAt (x := (48, .aload_n 0, 1)) DX5_line_0 4 rfl
theorem dX5_line_49 : decode cX5_line 49 = .ok (.invokevirtual 82, 3) := dAt (x := (49, .invokevirtual 82, 3)) DX5_line_0 5 rfl
theorem dX5_line_52 : decode cX5_line 52 = .ok (.ireturn, 1) := dAt (x := (52, .ireturn, 1)) DX5_line_0 6 rfl
theorem dX5_line_53 : decode cX5_line 53 = .ok (.aload_n 0, 1) := dAt (x := (53, .aload_n 0, 1)) DX5_line_0 7 rfl
theorem dX5_line_54 : decode cX5_line 54 = .ok (.invokevirtual 85, 3) := dAt (x := (54, .invokevirtual 85, 3)) DX5_line_0 8 rfl
theorem dX5_line_57 : decode cX5_line 57 = .ok (.ireturn, 1) := dAt (x := (57, .ireturn, 1)) DX5_line_0 9 rfl
theorem dX5_line_58 : decode cX5_line 58 = .ok (.aload_n 0, 1) := dAt (x := (58, .aload_n 0, 1)) DX5_line_0 10 rfl
theorem dX5_line_59 : decode cX5_line 59 = .ok (.invokevirtual 88, 3) := dAt (x := (59, .invokevirtual 88, 3)) DX5_line_0 11 rfl
theorem dX5_line_62 : decode cX5_line 62 = .ok (.ireturn, 1) := dAt (x := (62, .ireturn, 1)) DX5_line_0 12 rfl
theorem dX5_line_63 : decode cX5_line 63 = .ok (.aload_n 0, 1) := dAt (x := (63, .aload_n 0, 1)) DX5_line_0 13 rfl
theorem dX5_line_64 : decode cX5_line 64 = .ok (.invokevirtual 91, 3) := dAt (x := (64, .invokevirtual 91, 3)) DX5_line_0 14 rfl
theorem dX5_line_67 : decode cX5_line 67 = .ok (.ireturn, 1) := dAt (x := (67, .ireturn, 1)) DX5_line_0 15 rfl
theorem dX5_line_68 : decode cX5_line 68 = .ok (.aload_n 0, 1) := dAt (x := (68, .aload_n 0, 1)) DX5_line_0 16 rfl
theorem dX5_line_69 : decode cX5_line 69 = .ok (.invokevirtual 94, 3) := dAt (x := (69, .invokevirtual 94, 3)) DX5_line_0 17 rfl
theorem dX5_line_72 : decode cX5_line 72 = .ok (.ireturn, 1) := dAt (x := (72, .ireturn, 1)) DX5_line_0 18 rfl
theorem dX5_line_73 : decode cX5_line 73 = .ok (.aload_n 0, 1) := dAt (x := (73, .aload_n 0, 1)) DX5_line_0 19 rfl
theorem dX5_line_74 : decode cX5_line 74 = .ok (.invokevirtual 97, 3) := dAt (x := (74, .invokevirtual 97, 3)) DX5_line_0 20 rfl
theorem dX5_line_77 : decode cX5_line 77 = .ok (.ireturn, 1) := dAt (x := (77, .ireturn, 1)) DX5_line_0 21 rfl
theorem dX5_line_78 : decode cX5_line 78 = .ok (.aload_n 0, 1) := dAt (x := (78, .aload_n 0, 1)) DX5_line_0 22 rfl
theorem dX5_line_79 : decode cX5_line 79 = .ok (.invokevirtual 100, 3) := dAt (x := (79, .invokevirtual 100, 3)) DX5_line_0 23 rfl
theorem dX5_line_82 : decode cX5_line 82 = .ok (.ireturn, 1) := dAt (x := (82, .ireturn, 1)) DX5_line_0 24 rfl
theorem dX5_line_83 : decode cX5_line 83 = .ok (.aload_n 0, 1) := dAt (x := (83, .aload_n 0, 1)) DX5_line_0 25 rfl
theorem dX5_line_84 : decode cX5_line 84 = .ok (.iconst 1, 1) := dAt (x := (84, .iconst 1, 1)) DX5_line_0 26 rfl
theorem dX5_line_85 : decode cX5_line 85 = .ok (.invokevirtual 75, 3) := dAt (x := (85, .invokevirtual 75, 3)) DX5_line_0 27 rfl
theorem dX5_line_88 : decode cX5_line 88 = .ok (.ireturn, 1) := dAt (x := (88, .ireturn, 1)) DX5_line_0 28 rfl
def lDX5_latchLine_0 : List (Nat × Instr × Nat) := [(0, .aload_n 0, 1), (1, .getfield 21, 3), (4, .getfield 103, 3), (7, .bipush 8, 2), (9, .if_icmp .lt 9, 3), (12, .aload_n 0, 1), (13, .iconst 2, 1), (14, .invokevirtual 75, 3), (17, .ireturn, 1), (18, .aload_n 0, 1), (19, .getfield 12, 3), (22, .invokevirtual 79, 3), (25, .aload_n 0, 1), (26, .getfield 12, 3), (29, .getfield 56, 3), (32, .bipush 38, 2), (34, .if_icmp .eq 9, 3), (37, .aload_n 0, 1), (38, .iconst 1, 1), (39, .invokevirtual 75, 3), (42, .ireturn, 1), (43, .aload_n 0, 1), (44, .getfield 12, 3), (47, .getfield 106, 3), (50, .istore_n 1, 1), (51, .aload_n 0, 1), (52, .getfield 21, 3), (55, .iload_n 1, 1), (56, .invokevirtual 109, 3), (59, .iconst (-1), 1), (60, .if_icmp .eq 9, 3), (63, .aload_n 0, 1), (64, .iconst 3, 1), (65, .invokevirtual 75, 3), (68, .ireturn, 1), (69, .aload_n 0, 1), (70, .getfield 12, 3), (73, .invokevirtual 79, 3), (76, .aload_n 0, 1), (77, .iconst 1, 1), (78, .invokevirtual 113, 3), (81, .ifCond .ne 5, 3), (84, .iconst 0, 1), (85, .ireturn, 1), (86, .aload_n 0, 1), (87, .getfield 21, 3), (90, .iload_n 1, 1), (91, .aload_n 0, 1), (92, .getfield 12, 3), (95, .getfield 106, 3), (98, .invokevirtual 116, 3), (101, .aload_n 0, 1), (102, .getfield 12, 3), (105, .invokevirtual 79, 3), (108, .iconst 1, 1), (109, .ireturn, 1)]
theorem DX5_latchLine_0 : dAll cX5_latchLine lDX5_latchLine_0 = true := by decide +kernel
theorem dX5_latchLine_0 : decode cX5_latchLine 0 = .ok (.aload_n 0, 1) := dAt (x := (0, .aload_n 0, 1)) DX5_latchLine_0 0 rfl
theorem dX5_latchLine_1 : decode cX5_latchLine 1 = .ok (.getfield 21, 3) := dAt (x := (1, .getfield 21, 3)) DX5_latchLine_0 1 rfl
theorem dX5_latchLine_4 : decode cX5_latchLine 4 = .ok (.getfield 103, 3) := dAt (x := (4, .getfield 103, 3)) DX5_latchLine_0 2 rfl
theorem dX5_latchLine_7 : decode cX5_latchLine 7 = .ok (.bipush 8, 2) := dAt (x := (7, .bipush 8, 2)) DX5_latchLine_0 3 rfl
theorem dX5_latchLine_9 : decode cX5_latchLine 9 = .ok (.if_icmp .lt 9, 3) := dAt (x := (9, .if_icmp .lt 9, 3)) DX5_latchLine_0 4 rfl
theorem dX5_latchLine_12 : decode cX5_latchLine 12 = .ok (.aload_n 0, 1) := dAt (x := (12, .aload_n 0, 1)) DX5_latchLine_0 5 rfl
theorem dX5_latchLine_13 : decode cX5_latchLine 13 = .ok (.iconst 2, 1) := dAt (x := (13, .iconst 2, 1)) DX5_latchLine_0 6 rfl
theorem dX5_latchLine_14 : decode cX5_latchLine 14 = .ok (.invokevirtual 75, 3) := dAt (x := (14, .invokevirtual 75, 3)) DX5_latchLine_0 7 rfl
theorem dX5_latchLine_17 : decode cX5_latchLine 17 = .ok (.ireturn, 1) := dAt (x := (17, .ireturn, 1)) DX5_latchLine_0 8 rfl
theorem dX5_latchLine_18 : decode cX5_latchLine 18 = .ok (.aload_n 0, 1) := dAt (x := (18, .aload_n 0, 1)) DX5_latchLine_0 9 rfl
theorem dX5_latchLine_19 : decode cX5_latchLine 19 = .ok (.getfield 12, 3) := dAt (x := (19, .getfield 12, 3)) DX5_latchLine_0 10 rfl
theorem dX5_latchLine_22 : decode cX5_latchLine 22 = .ok (.invokevirtual 79, 3) := dAt (x := (22, .invokevirtual 79, 3)) DX5_latchLine_0 11 rfl
theorem dX5_latchLine_25 : decode cX5_latchLine 25 = .ok (.aload_n 0, 1) := dAt (x := (25, .aload_n 0, 1)) DX5_latchLine_0 12 rfl
theorem dX5_latchLine_26 : decode cX5_latchLine 26 = .ok (.getfield 12, 3) := dAt (x := (26, .getfield 12, 3)) DX5_latchLine_0 13 rfl
theorem dX5_latchLine_29 : decode cX5_latchLine 29 = .ok (.getfield 56, 3) := dAt (x := (29, .getfield 56, 3)) DX5_latchLine_0 14 rfl
theorem dX5_latchLine_32 : decode cX5_latchLine 32 = .ok (.bipush 38, 2) := dAt (x := (32, .bipush 38, 2)) DX5_latchLine_0 15 rfl
theorem dX5_latchLine_34 : decode cX5_latchLine 34 = .ok (.if_icmp .eq 9, 3) := dAt (x := (34, .if_icmp .eq 9, 3)) DX5_latchLine_0 16 rfl
theorem dX5_latchLine_37 : decode cX5_latchLine 37 = .ok (.aload_n 0, 1) := dAt (x := (37, .aload_n 0, 1)) DX5_latchLine_0 17 rfl
theorem dX5_latchLine_38 : decode cX5_latchLine 38 = .ok (.iconst 1, 1) := dAt (x := (38, .iconst 1, 1)) DX5_latchLine_0 18 rfl
theorem dX5_latchLine_39 : decode cX5_latchLine 39 = .ok (.invokevirtual 75, 3) := dAt (x := (39, .invokevirtual 75, 3)) DX5_latchLine_0 19 rfl
theorem dX5_latchLine_42 : decode cX5_latchLine 42 = .ok (.ireturn, 1) := dAt (x := (42, .ireturn, 1)) DX5_latchLine_0 20 rfl
theorem dX5_latchLine_43 : decode cX5_latchLine 43 = .ok (.aload_n 0, 1) := dAt (x := (43, .aload_n 0, 1)) DX5_latchLine_0 21 rfl
theorem dX5_latchLine_44 : decode cX5_latchLine 44 = .ok (.getfield 12, 3) := dAt (x := (44, .getfield 12, 3)) DX5_latchLine_0 22 rfl
theorem dX5_latchLine_47 : decode cX5_latchLine 47 = .ok (.getfield 106, 3) := dAt (x := (47, .getfield 106, 3)) DX5_latchLine_0 23 rfl
theorem dX5_latchLine_50 : decode cX5_latchLine 50 = .ok (.istore_n 1, 1) := dAt (x := (50, .istore_n 1, 1)) DX5_latchLine_0 24 rfl
theorem dX5_latchLine_51 : decode cX5_latchLine 51 = .ok (.aload_n 0, 1) := dAt (x := (51, .aload_n 0, 1)) DX5_latchLine_0 25 rfl
theorem dX5_latchLine_52 : decode cX5_latchLine 52 = .ok (.getfield 21, 3) := dAt (x := (52, .getfield 21, 3)) DX5_latchLine_0 26 rfl
theorem dX5_latchLine_55 : decode cX5_latchLine 55 = .ok (.iload_n 1, 1) := dAt (x := (55, .iload_n 1, 1)) DX5_latchLine_0 27 rfl
theorem dX5_latchLine_56 : decode cX5_latchLine 56 = .ok (.invokevirtual 109, 3) := dAt (x := (56, .invokevirtual 109, 3)) DX5_latchLine_0 28 rfl
theorem dX5_latchLine_59 : decode cX5_latchLine 59 = .ok (.iconst (-1), 1) := dAt (x := (59, .iconst (-1), 1)) DX5_latchLine_0 29 rfl
theorem dX5_latchLine_60 : decode cX5_latchLine 60 = .ok (.if_icmp .eq 9, 3) := dAt (x := (60, .if_icmp .eq 9, 3)) DX5_latchLine_0 30 rfl
theorem dX5_latchLine_63 : decode cX5_latchLine 63 = .ok (.aload_n 0, 1) := dAt (x := (63, .aload_n 0, 1)) DX5_latchLine_0 31 rfl
theorem dX5_latchLine_64 : decode cX5_latchLine 64 = .ok (.iconst 3, 1) := dAt (x := (64, .iconst 3, 1)) DX5_latchLine_0 32 rfl
theorem dX5_latchLine_65 : decode cX5_latchLine 65 = .ok (.invokevirtual 75, 3) := dAt (x := (65, .invokevirtual 75, 3)) DX5_latchLine_0 33 rfl
theorem dX5_latchLine_68 : decode cX5_latchLine 68 = .ok (.ireturn, 1) := dAt (x := (68, .ireturn, 1)) DX5_latchLine_0 34 rfl
theorem dX5_latchLine_69 : decode cX5_latchLine 69 = .ok (.aload_n 0, 1) := dAt (x := (69, .aload_n 0, 1)) DX5_latchLine_0 35 rfl
theorem dX5_latchLine_70 : decode cX5_latchLine 70 = .ok (.getfield 12, 3) := dAt (x := (70, .getfield 12, 3)) DX5_latchLine_0 36 rfl
theorem dX5_latchLine_73 : decode cX5_latchLine 73 = .ok (.invokevirtual 79, 3) := dAt (x := (73, .invokevirtual 79, 3)) DX5_latchLine_0 37 rfl
theorem dX5_latchLine_76 : decode cX5_latchLine 76 = .ok (.aload_n 0, 1) := dAt (x := (76, .aload_n 0, 1)) DX5_latchLine_0 38 rfl
theorem dX5_latchLine_77 : decode cX5_latchLine 77 = .ok (.iconst 1, 1) := dAt (x := (77, .iconst 1, 1)) DX5_latchLine_0 39 rfl
theorem dX5_latchLine_78 : decode cX5_latchLine 78 = .ok (.invokevirtual 113, 3) := dAt (x := (78, .invokevirtual 113, 3)) DX5_latchLine_0 40 rfl
theorem dX5_latchLine_81 : decode cX5_latchLine 81 = .ok (.ifCond .ne 5, 3) := dAt (x := (81, .ifCond .ne 5, 3)) DX5_latchLine_0 41 rfl
theorem dX5_latchLine_84 : decode cX5_latchLine 84 = .ok (.iconst 0, 1) := dAt (x := (84, .iconst 0, 1)) DX5_latchLine_0 42 rfl
theorem dX5_latchLine_85 : decode cX5_latchLine 85 = .ok (.ireturn, 1) := dAt (x := (85, .ireturn, 1)) DX5_latchLine_0 43 rfl
theorem dX5_latchLine_86 : decode cX5_latchLine 86 = .ok (.aload_n 0, 1) := dAt (x := (86, .aload_n 0, 1)) DX5_latchLine_0 44 rfl
theorem dX5_latchLine_87 : decode cX5_latchLine 87 = .ok (.getfield 21, 3) := dAt (x := (87, .getfield 21, 3)) DX5_latchLine_0 45 rfl
theorem dX5_latchLine_90 : decode cX5_latchLine 90 = .ok (.iload_n 1, 1) := dAt (x := (90, .iload_n 1, 1)) DX5_latchLine_0 46 rfl
theorem dX5_latchLine_91 : decode cX5_latchLine 91 = .ok (.aload_n 0, 1) := dAt (x := (91, .aload_n 0, 1)) DX5_latchLine_0 47 rfl
theorem dX5_latchLine_92 : decode cX5_latchLine 92 = .ok (.getfield 12, 3) := dAt (x := (92, .getfield 12, 3)) DX5_latchLine_0 48 rfl
theorem dX5_latchLine_95 : decode cX5_latchLine 95 = .ok (.getfield 106, 3) := dAt (x := (95, .getfield 106, 3)) DX5_latchLine_0 49 rfl
theorem dX5_latchLine_98 : decode cX5_latchLine 98 = .ok (.invokevirtual 116, 3) := dAt (x := (98, .invokevirtual 116, 3)) DX5_latchLine_0 50 rfl
theorem dX5_latchLine_101 : decode cX5_latchLine 101 = .ok (.aload_n 0, 1) := dAt (x := (101, .aload_n 0, 1)) DX5_latchLine_0 51 rfl
theorem dX5_latchLine_102 : decode cX5_latchLine 102 = .ok (.getfield 12, 3) := dAt (x := (102, .getfield 12, 3)) DX5_latchLine_0 52 rfl
theorem dX5_latchLine_105 : decode cX5_latchLine 105 = .ok (.invokevirtual 79, 3) := dAt (x := (105, .invokevirtual 79, 3)) DX5_latchLine_0 53 rfl
theorem dX5_latchLine_108 : decode cX5_latchLine 108 = .ok (.iconst 1, 1) := dAt (x := (108, .iconst 1, 1)) DX5_latchLine_0 54 rfl
theorem dX5_latchLine_109 : decode cX5_latchLine 109 = .ok (.ireturn, 1) := dAt (x := (109, .ireturn, 1)) DX5_latchLine_0 55 rfl
def lDX5_leanLine_0 : List (Nat × Instr × Nat) := [(0, .aload_n 0, 1), (1, .getfield 12, 3), (4, .invokevirtual 79, 3), (7, .aload_n 0, 1), (8, .invokevirtual 120, 3), (11, .ifCond .ne 5, 3), (14, .iconst 0, 1), (15, .ireturn, 1), (16, .aload_n 0, 1), (17, .getfield 21, 3), (20, .aload_n 0, 1), (21, .getfield 12, 3), (24, .getfield 106, 3), (27, .invokevirtual 109, 3), (30, .istore_n 1, 1), (31, .aload_n 0, 1), (32, .getfield 21, 3), (35, .iload_n 1, 1), (36, .invokevirtual 123, 3), (39, .ifCond .eq 9, 3), (42, .aload_n 0, 1), (43, .iconst 3, 1), (44, .invokevirtual 75, 3), (47, .ireturn, 1), (48, .aload_n 0, 1), (49, .getfield 12, 3), (52, .invokevirtual 79, 3), (55, .aload_n 0, 1), (56, .getfield 21, 3), (59, .getfield 126, 3), (62, .getfield 130, 3), (65, .istore_n 2, 1), (66, .aload_n 0, 1), (67, .iload_n 1, 1), (68, .invokevirtual 135, 3), (71, .ifCond .ne 5, 3), (74, .iconst 0, 1), (75, .ireturn, 1), (76, .aload_n 0, 1), (77, .getfield 21, 3), (80, .iload_n 1, 1), (81, .iload_n 2, 1), (82, .invokevirtual 138, 3), (85, .iconst 1, 1), (86, .ireturn, 1)]
theorem DX5_leanLine_0 : dAll cX5_leanLine lDX5_leanLine_0 = true := by decide +kernel
theorem dX5_leanLine_0 : decode cX5_leanLine 0 = .ok (.aload_n 0, 1) := dAt (x := (0, .aload_n 0, 1)) DX5_leanLine_0 0 rfl
theorem dX5_leanLine_1 : decode cX5_leanLine 1 = .ok (.getfield 12, 3) := dAt (x := (1, .getfield 12, 3)) DX5_leanLine_0 1 rfl
theorem dX5_leanLine_4 : decode cX5_leanLine 4 = .ok (.invokevirtual 79, 3) := dAt (x := (4, .invokevirtual 79, 3)) DX5_leanLine_0 2 rfl
theorem dX5_leanLine_7 : decode cX5_leanLine 7 = .ok (.aload_n 0, 1) := dAt (x := (7, .aload_n 0, 1)) DX5_leanLine_0 3 rfl
theorem dX5_leanLine_8 : decode cX5_leanLine 8 = .ok (.invokevirtual 120, 3) := dAt (x := (8, .invokevirtual 120, 3)) DX5_leanLine_0 4 rfl
theorem dX5_leanLine_11 : decode cX5_leanLine 11 = .ok (.ifCond .ne 5, 3) := dAt (x := (11, .ifCond .ne 5, 3)) DX5_leanLine_0 5 rfl
theorem dX5_leanLine_14 : decode cX5_leanLine 14 = .ok (.iconst 0, 1) := dAt (x := (14, .iconst 0, 1)) DX5_leanLine_0 6 rfl
theorem dX5_leanLine_15 : decode cX5_leanLine 15 = .ok (.ireturn, 1) := dAt (x := (15, .ireturn, 1)) DX5_leanLine_0 7 rfl
theorem dX5_leanLine_16 : decode cX5_leanLine 16 = .ok (.aload_n 0, 1) := dAt (x := (16, .aload_n 0, 1)) DX5_leanLine_0 8 rfl
theorem dX5_leanLine_17 : decode cX5_leanLine 17 = .ok (.getfield 21, 3) := dAt (x := (17, .getfield 21, 3)) DX5_leanLine_0 9 rfl
theorem dX5_leanLine_20 : decode cX5_leanLine 20 = .ok (.aload_n 0, 1) := dAt (x := (20, .aload_n 0, 1)) DX5_leanLine_0 10 rfl
theorem dX5_leanLine_21 : decode cX5_leanLine 21 = .ok (.getfield 12, 3) := dAt (x := (21, .getfield 12, 3)) DX5_leanLine_0 11 rfl
theorem dX5_leanLine_24 : decode cX5_leanLine 24 = .ok (.getfield 106, 3) := dAt (x := (24, .getfield 106, 3)) DX5_leanLine_0 12 rfl
theorem dX5_leanLine_27 : decode cX5_leanLine 27 = .ok (.invokevirtual 109, 3) := dAt (x := (27, .invokevirtual 109, 3)) DX5_leanLine_0 13 rfl
theorem dX5_leanLine_30 : decode cX5_leanLine 30 = .ok (.istore_n 1, 1) := dAt (x := (30, .istore_n 1, 1)) DX5_leanLine_0 14 rfl
theorem dX5_leanLine_31 : decode cX5_leanLine 31 = .ok (.aload_n 0, 1) := dAt (x := (31, .aload_n 0, 1)) DX5_leanLine_0 15 rfl
theorem dX5_leanLine_32 : decode cX5_leanLine 32 = .ok (.getfield 21, 3) := dAt (x := (32, .getfield 21, 3)) DX5_leanLine_0 16 rfl
theorem dX5_leanLine_35 : decode cX5_leanLine 35 = .ok (.iload_n 1, 1) := dAt (x := (35, .iload_n 1, 1)) DX5_leanLine_0 17 rfl
theorem dX5_leanLine_36 : decode cX5_leanLine 36 = .ok (.invokevirtual 123, 3) := dAt (x := (36, .invokevirtual 123, 3)) DX5_leanLine_0 18 rfl
theorem dX5_leanLine_39 : decode cX5_leanLine 39 = .ok (.ifCond .eq 9, 3) := dAt (x := (39, .ifCond .eq 9, 3)) DX5_leanLine_0 19 rfl
theorem dX5_leanLine_42 : decode cX5_leanLine 42 = .ok (.aload_n 0, 1) := dAt (x := (42, .aload_n 0, 1)) DX5_leanLine_0 20 rfl
theorem dX5_leanLine_43 : decode cX5_leanLine 43 = .ok (.iconst 3, 1) := dAt (x := (43, .iconst 3, 1)) DX5_leanLine_0 21 rfl
theorem dX5_leanLine_44 : decode cX5_leanLine 44 = .ok (.invokevirtual 75, 3) := dAt (x := (44, .invokevirtual 75, 3)) DX5_leanLine_0 22 rfl
theorem dX5_leanLine_47 : decode cX5_leanLine 47 = .ok (.ireturn, 1) := dAt (x := (47, .ireturn, 1)) DX5_leanLine_0 23 rfl
theorem dX5_leanLine_48 : decode cX5_leanLine 48 = .ok (.aload_n 0, 1) := dAt (x := (48, .aload_n 0, 1)) DX5_leanLine_0 24 rfl
theorem dX5_leanLine_49 : decode cX5_leanLine 49 = .ok (.getfield 12, 3) := dAt (x := (49, .getfield 12, 3)) DX5_leanLine_0 25 rfl
theorem dX5_leanLine_52 : decode cX5_leanLine 52 = .ok (.invokevirtual 79, 3) := dAt (x := (52, .invokevirtual 79, 3)) DX5_leanLine_0 26 rfl
theorem dX5_leanLine_55 : decode cX5_leanLine 55 = .ok (.aload_n 0, 1) := dAt (x := (55, .aload_n 0, 1)) DX5_leanLine_0 27 rfl
theorem dX5_leanLine_56 : decode cX5_leanLine 56 = .ok (.getfield 21, 3) := dAt (x := (56, .getfield 21, 3)) DX5_leanLine_0 28 rfl
theorem dX5_leanLine_59 : decode cX5_leanLine 59 = .ok (.getfield 126, 3) := dAt (x := (59, .getfield 126, 3)) DX5_leanLine_0 29 rfl
theorem dX5_leanLine_62 : decode cX5_leanLine 62 = .ok (.getfield 130, 3) := dAt (x := (62, .getfield 130, 3)) DX5_leanLine_0 30 rfl
theorem dX5_leanLine_65 : decode cX5_leanLine 65 = .ok (.istore_n 2, 1) := dAt (x := (65, .istore_n 2, 1)) DX5_leanLine_0 31 rfl
theorem dX5_leanLine_66 : decode cX5_leanLine 66 = .ok (.aload_n 0, 1) := dAt (x := (66, .aload_n 0, 1)) DX5_leanLine_0 32 rfl
theorem dX5_leanLine_67 : decode cX5_leanLine 67 = .ok (.iload_n 1, 1) := dAt (x := (67, .iload_n 1, 1)) DX5_leanLine_0 33 rfl
theorem dX5_leanLine_68 : decode cX5_leanLine 68 = .ok (.invokevirtual 135, 3) := dAt (x := (68, .invokevirtual 135, 3)) DX5_leanLine_0 34 rfl
theorem dX5_leanLine_71 : decode cX5_leanLine 71 = .ok (.ifCond .ne 5, 3) := dAt (x := (71, .ifCond .ne 5, 3)) DX5_leanLine_0 35 rfl
theorem dX5_leanLine_74 : decode cX5_leanLine 74 = .ok (.iconst 0, 1) := dAt (x := (74, .iconst 0, 1)) DX5_leanLine_0 36 rfl
theorem dX5_leanLine_75 : decode cX5_leanLine 75 = .ok (.ireturn, 1) := dAt (x := (75, .ireturn, 1)) DX5_leanLine_0 37 rfl
theorem dX5_leanLine_76 : decode cX5_leanLine 76 = .ok (.aload_n 0, 1) := dAt (x := (76, .aload_n 0, 1)) DX5_leanLine_0 38 rfl
theorem dX5_leanLine_77 : decode cX5_leanLine 77 = .ok (.getfield 21, 3) := dAt (x := (77, .getfield 21, 3)) DX5_leanLine_0 39 rfl
theorem dX5_leanLine_80 : decode cX5_leanLine 80 = .ok (.iload_n 1, 1) := dAt (x := (80, .iload_n 1, 1)) DX5_leanLine_0 40 rfl
theorem dX5_leanLine_81 : decode cX5_leanLine 81 = .ok (.iload_n 2, 1) := dAt (x := (81, .iload_n 2, 1)) DX5_leanLine_0 41 rfl
theorem dX5_leanLine_82 : decode cX5_leanLine 82 = .ok (.invokevirtual 138, 3) := dAt (x := (82, .invokevirtual 138, 3)) DX5_leanLine_0 42 rfl
theorem dX5_leanLine_85 : decode cX5_leanLine 85 = .ok (.iconst 1, 1) := dAt (x := (85, .iconst 1, 1)) DX5_leanLine_0 43 rfl
theorem dX5_leanLine_86 : decode cX5_leanLine 86 = .ok (.ireturn, 1) := dAt (x := (86, .ireturn, 1)) DX5_leanLine_0 44 rfl
def lDX5_pushLine_0 : List (Nat × Instr × Nat) := [(0, .aload_n 0, 1), (1, .getfield 21, 3), (4, .getfield 141, 3), (7, .bipush 16, 2), (9, .if_icmp .lt 9, 3), (12, .aload_n 0, 1), (13, .iconst 2, 1), (14, .invokevirtual 75, 3), (17, .ireturn, 1), (18, .aload_n 0, 1), (19, .getfield 12, 3), (22, .invokevirtual 79, 3), (25, .aload_n 0, 1), (26, .invokevirtual 120, 3), (29, .ifCond .ne 5, 3), (32, .iconst 0, 1), (33, .ireturn, 1), (34, .aload_n 0, 1), (35, .getfield 21, 3), (38, .aload_n 0, 1), (39, .getfield 12, 3), (42, .getfield 106, 3), (45, .invokevirtual 109, 3), (48, .istore_n 1, 1), (49, .aload_n 0, 1), (50, .getfield 12, 3), (53, .invokevirtual 79, 3), (56, .aload_n 0, 1), (57, .bipush 99, 2), (59, .invokevirtual 113, 3), (62, .ifCond .ne 5, 3), (65, .iconst 0, 1), (66, .ireturn, 1), (67, .aload_n 0, 1), (68, .getfield 21, 3), (71, .iload_n 1, 1), (72, .aload_n 0, 1), (73, .getfield 12, 3), (76, .getfield 106, 3), (79, .invokevirtual 144, 3), (82, .aload_n 0, 1), (83, .getfield 12, 3), (86, .invokevirtual 79, 3), (89, .iconst 1, 1), (90, .ireturn, 1)]
theorem DX5_pushLine_0 : dAll cX5_pushLine lDX5_pushLine_0 = true := by decide +kernel
theorem dX5_pushLine_0 : decode cX5_pushLine 0 = .ok (.aload_n 0, 1) := dAt (x := (0, .aload_n 0, 1)) DX5_pushLine_0 0 rfl
theorem dX5_pushLine_1 : decode cX5_pushLine 1 = .ok (.getfield 21, 3) := dAt (x := (1, .getfield 21, 3)) DX5_pushLine_0 1 rfl
theorem dX5_pushLine_4 : decode cX5_pushLine 4 = .ok (.getfield 141, 3) := dAt (x := (4, .getfield 141, 3)) DX5_pushLine_0 2 rfl
theorem dX5_pushLine_7 : decode cX5_pushLine 7 = .ok (.bipush 16, 2) := dAt (x := (7, .bipush 16, 2)) DX5_pushLine_0 3 rfl
theorem dX5_pushLine_9 : decode cX5_pushLine 9 = .ok (.if_icmp .lt 9, 3) := dAt (x := (9, .if_icmp .lt 9, 3)) DX5_pushLine_0 4 rfl
theorem dX5_pushLine_12 : decode cX5_pushLine 12 = .ok (.aload_n 0, 1) := dAt (x := (12, .aload_n 0, 1)) DX5_pushLine_0 5 rfl
theorem dX5_pushLine_13 : decode cX5_pushLine 13 = .ok (.iconst 2, 1) := dAt (x := (13, .iconst 2, 1)) DX5_pushLine_0 6 rfl
theorem dX5_pushLine_14 : decode cX5_pushLine 14 = .ok (.invokevirtual 75, 3) := dAt (x := (14, .invokevirtual 75, 3)) DX5_pushLine_0 7 rfl
theorem dX5_pushLine_17 : decode cX5_pushLine 17 = .ok (.ireturn, 1) := dAt (x := (17, .ireturn, 1)) DX5_pushLine_0 8 rfl
theorem dX5_pushLine_18 : decode cX5_pushLine 18 = .ok (.aload_n 0, 1) := dAt (x := (18, .aload_n 0, 1)) DX5_pushLine_0 9 rfl
theorem dX5_pushLine_19 : decode cX5_pushLine 19 = .ok (.getfield 12, 3) := dAt (x := (19, .getfield 12, 3)) DX5_pushLine_0 10 rfl
theorem dX5_pushLine_22 : decode cX5_pushLine 22 = .ok (.invokevirtual 79, 3) := dAt (x := (22, .invokevirtual 79, 3)) DX5_pushLine_0 11 rfl
theorem dX5_pushLine_25 : decode cX5_pushLine 25 = .ok (.aload_n 0, 1) := dAt (x := (25, .aload_n 0, 1)) DX5_pushLine_0 12 rfl
theorem dX5_pushLine_26 : decode cX5_pushLine 26 = .ok (.invokevirtual 120, 3) := dAt (x := (26, .invokevirtual 120, 3)) DX5_pushLine_0 13 rfl
theorem dX5_pushLine_29 : decode cX5_pushLine 29 = .ok (.ifCond .ne 5, 3) := dAt (x := (29, .ifCond .ne 5, 3)) DX5_pushLine_0 14 rfl
theorem dX5_pushLine_32 : decode cX5_pushLine 32 = .ok (.iconst 0, 1) := dAt (x := (32, .iconst 0, 1)) DX5_pushLine_0 15 rfl
theorem dX5_pushLine_33 : decode cX5_pushLine 33 = .ok (.ireturn, 1) := dAt (x := (33, .ireturn, 1)) DX5_pushLine_0 16 rfl
theorem dX5_pushLine_34 : decode cX5_pushLine 34 = .ok (.aload_n 0, 1) := dAt (x := (34, .aload_n 0, 1)) DX5_pushLine_0 17 rfl
theorem dX5_pushLine_35 : decode cX5_pushLine 35 = .ok (.getfield 21, 3) := dAt (x := (35, .getfield 21, 3)) DX5_pushLine_0 18 rfl
theorem dX5_pushLine_38 : decode cX5_pushLine 38 = .ok (.aload_n 0, 1) := dAt (x := (38, .aload_n 0, 1)) DX5_pushLine_0 19 rfl
theorem dX5_pushLine_39 : decode cX5_pushLine 39 = .ok (.getfield 12, 3) := dAt (x := (39, .getfield 12, 3)) DX5_pushLine_0 20 rfl
theorem dX5_pushLine_42 : decode cX5_pushLine 42 = .ok (.getfield 106, 3) := dAt (x := (42, .getfield 106, 3)) DX5_pushLine_0 21 rfl
theorem dX5_pushLine_45 : decode cX5_pushLine 45 = .ok (.invokevirtual 109, 3) := dAt (x := (45, .invokevirtual 109, 3)) DX5_pushLine_0 22 rfl
theorem dX5_pushLine_48 : decode cX5_pushLine 48 = .ok (.istore_n 1, 1) := dAt (x := (48, .istore_n 1, 1)) DX5_pushLine_0 23 rfl
theorem dX5_pushLine_49 : decode cX5_pushLine 49 = .ok (.aload_n 0, 1) := dAt (x := (49, .aload_n 0, 1)) DX5_pushLine_0 24 rfl
theorem dX5_pushLine_50 : decode cX5_pushLine 50 = .ok (.getfield 12, 3) := dAt (x := (50, .getfield 12, 3)) DX5_pushLine_0 25 rfl
theorem dX5_pushLine_53 : decode cX5_pushLine 53 = .ok (.invokevirtual 79, 3) := dAt (x := (53, .invokevirtual 79, 3)) DX5_pushLine_0 26 rfl
theorem dX5_pushLine_56 : decode cX5_pushLine 56 = .ok (.aload_n 0, 1) := dAt (x := (56, .aload_n 0, 1)) DX5_pushLine_0 27 rfl
theorem dX5_pushLine_57 : decode cX5_pushLine 57 = .ok (.bipush 99, 2) := dAt (x := (57, .bipush 99, 2)) DX5_pushLine_0 28 rfl
theorem dX5_pushLine_59 : decode cX5_pushLine 59 = .ok (.invokevirtual 113, 3) := dAt (x := (59, .invokevirtual 113, 3)) DX5_pushLine_0 29 rfl
theorem dX5_pushLine_62 : decode cX5_pushLine 62 = .ok (.ifCond .ne 5, 3) := dAt (x := (62, .ifCond .ne 5, 3)) DX5_pushLine_0 30 rfl
theorem dX5_pushLine_65 : decode cX5_pushLine 65 = .ok (.iconst 0, 1) := dAt (x := (65, .iconst 0, 1)) DX5_pushLine_0 31 rfl
theorem dX5_pushLine_66 : decode cX5_pushLine 66 = .ok (.ireturn, 1) := dAt (x := (66, .ireturn, 1)) DX5_pushLine_0 32 rfl
theorem dX5_pushLine_67 : decode cX5_pushLine 67 = .ok (.aload_n 0, 1) := dAt (x := (67, .aload_n 0, 1)) DX5_pushLine_0 33 rfl
theorem dX5_pushLine_68 : decode cX5_pushLine 68 = .ok (.getfield 21, 3) := dAt (x := (68, .getfield 21, 3)) DX5_pushLine_0 34 rfl
theorem dX5_pushLine_71 : decode cX5_pushLine 71 = .ok (.iload_n 1, 1) := dAt (x := (71, .iload_n 1, 1)) DX5_pushLine_0 35 rfl
theorem dX5_pushLine_72 : decode cX5_pushLine 72 = .ok (.aload_n 0, 1) := dAt (x := (72, .aload_n 0, 1)) DX5_pushLine_0 36 rfl
theorem dX5_pushLine_73 : decode cX5_pushLine 73 = .ok (.getfield 12, 3) := dAt (x := (73, .getfield 12, 3)) DX5_pushLine_0 37 rfl
theorem dX5_pushLine_76 : decode cX5_pushLine 76 = .ok (.getfield 106, 3) := dAt (x := (76, .getfield 106, 3)) DX5_pushLine_0 38 rfl
theorem dX5_pushLine_79 : decode cX5_pushLine 79 = .ok (.invokevirtual 144, 3) := dAt (x := (79, .invokevirtual 144, 3)) DX5_pushLine_0 39 rfl
theorem dX5_pushLine_82 : decode cX5_pushLine 82 = .ok (.aload_n 0, 1) := dAt (x := (82, .aload_n 0, 1)) DX5_pushLine_0 40 rfl
theorem dX5_pushLine_83 : decode cX5_pushLine 83 = .ok (.getfield 12, 3) := dAt (x := (83, .getfield 12, 3)) DX5_pushLine_0 41 rfl
theorem dX5_pushLine_86 : decode cX5_pushLine 86 = .ok (.invokevirtual 79, 3) := dAt (x := (86, .invokevirtual 79, 3)) DX5_pushLine_0 42 rfl
theorem dX5_pushLine_89 : decode cX5_pushLine 89 = .ok (.iconst 1, 1) := dAt (x := (89, .iconst 1, 1)) DX5_pushLine_0 43 rfl
theorem dX5_pushLine_90 : decode cX5_pushLine 90 = .ok (.ireturn, 1) := dAt (x := (90, .ireturn, 1)) DX5_pushLine_0 44 rfl
def lDX5_oilLine_0 : List (Nat × Instr × Nat) := [(0, .aload_n 0, 1), (1, .getfield 21, 3), (4, .getfield 147, 3), (7, .iconst 4, 1), (8, .if_icmp .lt 9, 3), (11, .aload_n 0, 1), (12, .iconst 2, 1), (13, .invokevirtual 75, 3), (16, .ireturn, 1), (17, .aload_n 0, 1), (18, .getfield 12, 3), (21, .invokevirtual 79, 3), (24, .aload_n 0, 1), (25, .bipush 99, 2), (27, .invokevirtual 113, 3), (30, .ifCond .ne 5, 3), (33, .iconst 0, 1), (34, .ireturn, 1), (35, .aload_n 0, 1), (36, .getfield 21, 3), (39, .aload_n 0, 1), (40, .getfield 12, 3), (43, .getfield 106, 3), (46, .invokevirtual 150, 3), (49, .aload_n 0, 1), (50, .getfield 12, 3), (53, .invokevirtual 79, 3), (56, .iconst 1, 1), (57, .ireturn, 1)]
theorem DX5_oilLine_0 : dAll cX5_oilLine lDX5_oilLine_0 = true := by decide +kernel
theorem dX5_oilLine_0 : decode cX5_oilLine 0 = .ok (.aload_n 0, 1) := dAt (x := (0, .aload_n 0, 1)) DX5_oilLine_0 0 rfl
theorem dX5_oilLine_1 : decode cX5_oilLine 1 = .ok (.getfield 21, 3) := dAt (x := (1, .getfield 21, 3)) DX5_oilLine_0 1 rfl
theorem dX5_oilLine_4 : decode cX5_oilLine 4 = .ok (.getfield 147, 3) := dAt (x := (4, .getfield 147, 3)) DX5_oilLine_0 2 rfl
theorem dX5_oilLine_7 : decode cX5_oilLine 7 = .ok (.iconst 4, 1) := dAt (x := (7, .iconst 4, 1)) DX5_oilLine_0 3 rfl
theorem dX5_oilLine_8 : decode cX5_oilLine 8 = .ok (.if_icmp .lt 9, 3) := dAt (x := (8, .if_icmp .lt 9, 3)) DX5_oilLine_0 4 rfl
theorem dX5_oilLine_11 : decode cX5_oilLine 11 = .ok (.aload_n 0, 1) := dAt (x := (11, .aload_n 0, 1)) DX5_oilLine_0 5 rfl
theorem dX5_oilLine_12 : decode cX5_oilLine 12 = .ok (.iconst 2, 1) := dAt (x := (12, .iconst 2, 1)) DX5_oilLine_0 6 rfl
theorem dX5_oilLine_13 : decode cX5_oilLine 13 = .ok (.invokevirtual 75, 3) := dAt (x := (13, .invokevirtual 75, 3)) DX5_oilLine_0 7 rfl
theorem dX5_oilLine_16 : decode cX5_oilLine 16 = .ok (.ireturn, 1) := dAt (x := (16, .ireturn, 1)) DX5_oilLine_0 8 rfl
theorem dX5_oilLine_17 : decode cX5_oilLine 17 = .ok (.aload_n 0, 1) := dAt (x := (17, .aload_n 0, 1)) DX5_oilLine_0 9 rfl
theorem dX5_oilLine_18 : decode cX5_oilLine 18 = .ok (.getfield 12, 3) := dAt (x := (18, .getfield 12, 3)) DX5_oilLine_0 10 rfl
theorem dX5_oilLine_21 : decode cX5_oilLine 21 = .ok (.invokevirtual 79, 3) := dAt (x := (21, .invokevirtual 79, 3)) DX5_oilLine_0 11 rfl
theorem dX5_oilLine_24 : decode cX5_oilLine 24 = .ok (.aload_n 0, 1) := dAt (x := (24, .aload_n 0, 1)) DX5_oilLine_0 12 rfl
theorem dX5_oilLine_25 : decode cX5_oilLine 25 = .ok (.bipush 99, 2) := dAt (x := (25, .bipush 99, 2)) DX5_oilLine_0 13 rfl
theorem dX5_oilLine_27 : decode cX5_oilLine 27 = .ok (.invokevirtual 113, 3) := dAt (x := (27, .invokevirtual 113, 3)) DX5_oilLine_0 14 rfl
theorem dX5_oilLine_30 : decode cX5_oilLine 30 = .ok (.ifCond .ne 5, 3) := dAt (x := (30, .ifCond .ne 5, 3)) DX5_oilLine_0 15 rfl
theorem dX5_oilLine_33 : decode cX5_oilLine 33 = .ok (.iconst 0, 1) := dAt (x := (33, .iconst 0, 1)) DX5_oilLine_0 16 rfl
theorem dX5_oilLine_34 : decode cX5_oilLine 34 = .ok (.ireturn, 1) := dAt (x := (34, .ireturn, 1)) DX5_oilLine_0 17 rfl
theorem dX5_oilLine_35 : decode cX5_oilLine 35 = .ok (.aload_n 0, 1) := dAt (x := (35, .aload_n 0, 1)) DX5_oilLine_0 18 rfl
theorem dX5_oilLine_36 : decode cX5_oilLine 36 = .ok (.getfield 21, 3) := dAt (x := (36, .getfield 21, 3)) DX5_oilLine_0 19 rfl
theorem dX5_oilLine_39 : decode cX5_oilLine 39 = .ok (.aload_n 0, 1) := dAt (x := (39, .aload_n 0, 1)) DX5_oilLine_0 20 rfl
theorem dX5_oilLine_40 : decode cX5_oilLine 40 = .ok (.getfield 12, 3) := dAt (x := (40, .getfield 12, 3)) DX5_oilLine_0 21 rfl
theorem dX5_oilLine_43 : decode cX5_oilLine 43 = .ok (.getfield 106, 3) := dAt (x := (43, .getfield 106, 3)) DX5_oilLine_0 22 rfl
theorem dX5_oilLine_46 : decode cX5_oilLine 46 = .ok (.invokevirtual 150, 3) := dAt (x := (46, .invokevirtual 150, 3)) DX5_oilLine_0 23 rfl
theorem dX5_oilLine_49 : decode cX5_oilLine 49 = .ok (.aload_n 0, 1) := dAt (x := (49, .aload_n 0, 1)) DX5_oilLine_0 24 rfl
theorem dX5_oilLine_50 : decode cX5_oilLine 50 = .ok (.getfield 12, 3) := dAt (x := (50, .getfield 12, 3)) DX5_oilLine_0 25 rfl
theorem dX5_oilLine_53 : decode cX5_oilLine 53 = .ok (.invokevirtual 79, 3) := dAt (x := (53, .invokevirtual 79, 3)) DX5_oilLine_0 26 rfl
theorem dX5_oilLine_56 : decode cX5_oilLine 56 = .ok (.iconst 1, 1) := dAt (x := (56, .iconst 1, 1)) DX5_oilLine_0 27 rfl
theorem dX5_oilLine_57 : decode cX5_oilLine 57 = .ok (.ireturn, 1) := dAt (x := (57, .ireturn, 1)) DX5_oilLine_0 28 rfl
def lDX5_rustLine_0 : List (Nat × Instr × Nat) := [(0, .aload_n 0, 1), (1, .aload_n 0, 1), (2, .getfield 42, 3), (5, .bipush 100, 2), (7, .invokevirtual 153, 3), (10, .ifCond .ne 5, 3), (13, .iconst 0, 1), (14, .ireturn, 1), (15, .aload_n 0, 1), (16, .iconst 1, 1), (17, .putfield 42, 3), (20, .aload_n 0, 1), (21, .getfield 21, 3), (24, .aload_n 0, 1), (25, .getfield 12, 3), (28, .getfield 106, 3), (31, .putfield 157, 3), (34, .aload_n 0, 1), (35, .getfield 12, 3), (38, .invokevirtual 79, 3), (41, .iconst 1, 1), (42, .ireturn, 1)]
theorem DX5_rustLine_0 : dAll cX5_rustLine lDX5_rustLine_0 = true := by decide +kernel
theorem dX5_rustLine_0 : decode cX5_rustLine 0 = .ok (.aload_n 0, 1) := dAt (x := (0, .aload_n 0, 1)) DX5_rustLine_0 0 rfl
theorem dX5_rustLine_1 : decode cX5_rustLine 1 = .ok (.aload_n 0, 1) := dAt (x := (1, .aload_n 0, 1)) DX5_rustLine_0 1 rfl
theorem dX5_rustLine_2 : decode cX5_rustLine 2 = .ok (.getfield 42, 3) := dAt (x := (2, .getfield 42, 3)) DX5_rustLine_0 2 rfl
theorem dX5_rustLine_5 : decode cX5_rustLine 5 = .ok (.bipush 100, 2) := dAt (x := (5, .bipush 100, 2)) DX5_rustLine_0 3 rfl
theorem dX5_rustLine_7 : decode cX5_rustLine 7 = .ok (.invokevirtual 153, 3) := dAt (x := (7, .invokevirtual 153, 3)) DX5_rustLine_0 4 rfl
theorem dX5_rustLine_10 : decode cX5_rustLine 10 = .ok (.ifCond .ne 5, 3) := dAt (x := (10, .ifCond .ne 5, 3)) DX5_rustLine_0 5 rfl
theorem dX5_rustLine_13 : decode cX5_rustLine 13 = .ok (.iconst 0, 1) := dAt (x := (13, .iconst 0, 1)) DX5_rustLine_0 6 rfl
theorem dX5_rustLine_14 : decode cX5_rustLine 14 = .ok (.ireturn, 1) := dAt (x := (14, .ireturn, 1)) DX5_rustLine_0 7 rfl
theorem dX5_rustLine_15 : decode cX5_rustLine 15 = .ok (.aload_n 0, 1) := dAt (x := (15, .aload_n 0, 1)) DX5_rustLine_0 8 rfl
theorem dX5_rustLine_16 : decode cX5_rustLine 16 = .ok (.iconst 1, 1) := dAt (x := (16, .iconst 1, 1)) DX5_rustLine_0 9 rfl
theorem dX5_rustLine_17 : decode cX5_rustLine 17 = .ok (.putfield 42, 3) := dAt (x := (17, .putfield 42, 3)) DX5_rustLine_0 10 rfl
theorem dX5_rustLine_20 : decode cX5_rustLine 20 = .ok (.aload_n 0, 1) := dAt (x := (20, .aload_n 0, 1)) DX5_rustLine_0 11 rfl
theorem dX5_rustLine_21 : decode cX5_rustLine 21 = .ok (.getfield 21, 3) := dAt (x := (21, .getfield 21, 3)) DX5_rustLine_0 12 rfl
theorem dX5_rustLine_24 : decode cX5_rustLine 24 = .ok (.aload_n 0, 1) := dAt (x := (24, .aload_n 0, 1)) DX5_rustLine_0 13 rfl
theorem dX5_rustLine_25 : decode cX5_rustLine 25 = .ok (.getfield 12, 3) := dAt (x := (25, .getfield 12, 3)) DX5_rustLine_0 14 rfl
theorem dX5_rustLine_28 : decode cX5_rustLine 28 = .ok (.getfield 106, 3) := dAt (x := (28, .getfield 106, 3)) DX5_rustLine_0 15 rfl
theorem dX5_rustLine_31 : decode cX5_rustLine 31 = .ok (.putfield 157, 3) := dAt (x := (31, .putfield 157, 3)) DX5_rustLine_0 16 rfl
theorem dX5_rustLine_34 : decode cX5_rustLine 34 = .ok (.aload_n 0, 1) := dAt (x := (34, .aload_n 0, 1)) DX5_rustLine_0 17 rfl
theorem dX5_rustLine_35 : decode cX5_rustLine 35 = .ok (.getfield 12, 3) := dAt (x := (35, .getfield 12, 3)) DX5_rustLine_0 18 rfl
theorem dX5_rustLine_38 : decode cX5_rustLine 38 = .ok (.invokevirtual 79, 3) := dAt (x := (38, .invokevirtual 79, 3)) DX5_rustLine_0 19 rfl
theorem dX5_rustLine_41 : decode cX5_rustLine 41 = .ok (.iconst 1, 1) := dAt (x := (41, .iconst 1, 1)) DX5_rustLine_0 20 rfl
theorem dX5_rustLine_42 : decode cX5_rustLine 42 = .ok (.ireturn, 1) := dAt (x := (42, .ireturn, 1)) DX5_rustLine_0 21 rfl
def lDX5_seedLine_0 : List (Nat × Instr × Nat) := [(0, .aload_n 0, 1), (1, .aload_n 0, 1), (2, .getfield 46, 3), (5, .ldc 160, 2), (7, .invokevirtual 153, 3), (10, .ifCond .ne 5, 3), (13, .iconst 0, 1), (14, .ireturn, 1), (15, .aload_n 0, 1), (16, .iconst 1, 1), (17, .putfield 46, 3), (20, .aload_n 0, 1), (21, .getfield 21, 3), (24, .aload_n 0, 1), (25, .getfield 12, 3), (28, .getfield 106, 3), (31, .putfield 161, 3), (34, .aload_n 0, 1), (35, .getfield 12, 3), (38, .invokevirtual 79, 3), (41, .iconst 1, 1), (42, .ireturn, 1)]
theorem DX5_seedLine_0 : dAll cX5_seedLine lDX5_seedLine_0 = true := by decide +kernel
theorem dX5_seedLine_0 : decode cX5_seedLine 0 = .ok (.aload_n 0, 1) := dAt (x := (0, .aload_n 0, 1)) DX5_seedLine_0 0 rfl
theorem dX5_seedLine_1 : decode cX5_seedLine 1 = .ok (.aload_n 0, 1) := dAt (x := (1, .aload_n 0, 1)) DX5_seedLine_0 1 rfl
theorem dX5_seedLine_2 : decode cX5_seedLine 2 = .ok (.getfield 46, 3) := dAt (x := (2, .getfield 46, 3)) DX5_seedLine_0 2 rfl
theorem dX5_seedLine_5 : decode cX5_seedLine 5 = .ok (.ldc 160, 2) := dAt (x := (5, .ldc 160, 2)) DX5_seedLine_0 3 rfl
theorem dX5_seedLine_7 : decode cX5_seedLine 7 = .ok (.invokevirtual 153, 3) := dAt (x := (7, .invokevirtual 153, 3)) DX5_seedLine_0 4 rfl
theorem dX5_seedLine_10 : decode cX5_seedLine 10 = .ok (.ifCond .ne 5, 3) := dAt (x := (10, .ifCond .ne 5, 3)) DX5_seedLine_0 5 rfl
theorem dX5_seedLine_13 : decode cX5_seedLine 13 = .ok (.iconst 0, 1) := dAt (x := (13, .iconst 0, 1)) DX5_seedLine_0 6 rfl
theorem dX5_seedLine_14 : decode cX5_seedLine 14 = .ok (.ireturn, 1) := dAt (x := (14, .ireturn, 1)) DX5_seedLine_0 7 rfl
theorem dX5_seedLine_15 : decode cX5_seedLine 15 = .ok (.aload_n 0, 1) := dAt (x := (15, .aload_n 0, 1)) DX5_seedLine_0 8 rfl
theorem dX5_seedLine_16 : decode cX5_seedLine 16 = .ok (.iconst 1, 1) := dAt (x := (16, .iconst 1, 1)) DX5_seedLine_0 9 rfl
theorem dX5_seedLine_17 : decode cX5_seedLine 17 = .ok (.putfield 46, 3) := dAt (x := (17, .putfield 46, 3)) DX5_seedLine_0 10 rfl
theorem dX5_seedLine_20 : decode cX5_seedLine 20 = .ok (.aload_n 0, 1) := dAt (x := (20, .aload_n 0, 1)) DX5_seedLine_0 11 rfl
theorem dX5_seedLine_21 : decode cX5_seedLine 21 = .ok (.getfield 21, 3) := dAt (x := (21, .getfield 21, 3)) DX5_seedLine_0 12 rfl
theorem dX5_seedLine_24 : decode cX5_seedLine 24 = .ok (.aload_n 0, 1) := dAt (x := (24, .aload_n 0, 1)) DX5_seedLine_0 13 rfl
theorem dX5_seedLine_25 : decode cX5_seedLine 25 = .ok (.getfield 12, 3) := dAt (x := (25, .getfield 12, 3)) DX5_seedLine_0 14 rfl
theorem dX5_seedLine_28 : decode cX5_seedLine 28 = .ok (.getfield 106, 3) := dAt (x := (28, .getfield 106, 3)) DX5_seedLine_0 15 rfl
theorem dX5_seedLine_31 : decode cX5_seedLine 31 = .ok (.putfield 161, 3) := dAt (x := (31, .putfield 161, 3)) DX5_seedLine_0 16 rfl
theorem dX5_seedLine_34 : decode cX5_seedLine 34 = .ok (.aload_n 0, 1) := dAt (x := (34, .aload_n 0, 1)) DX5_seedLine_0 17 rfl
theorem dX5_seedLine_35 : decode cX5_seedLine 35 = .ok (.getfield 12, 3) := dAt (x := (35, .getfield 12, 3)) DX5_seedLine_0 18 rfl
theorem dX5_seedLine_38 : decode cX5_seedLine 38 = .ok (.invokevirtual 79, 3) := dAt (x := (38, .invokevirtual 79, 3)) DX5_seedLine_0 19 rfl
theorem dX5_seedLine_41 : decode cX5_seedLine 41 = .ok (.iconst 1, 1) := dAt (x := (41, .iconst 1, 1)) DX5_seedLine_0 20 rfl
theorem dX5_seedLine_42 : decode cX5_seedLine 42 = .ok (.ireturn, 1) := dAt (x := (42, .ireturn, 1)) DX5_seedLine_0 21 rfl
def lDX5_once_0 : List (Nat × Instr × Nat) := [(0, .iload_n 1, 1), (1, .ifCond .eq 9, 3), (4, .aload_n 0, 1), (5, .iconst 3, 1), (6, .invokevirtual 75, 3), (9, .ireturn, 1), (10, .aload_n 0, 1), (11, .getfield 12, 3), (14, .invokevirtual 79, 3), (17, .aload_n 0, 1), (18, .iload_n 2, 1), (19, .invokevirtual 113, 3), (22, .ireturn, 1)]
theorem DX5_once_0 : dAll cX5_once lDX5_once_0 = true := by decide +kernel
theorem dX5_once_0 : decode cX5_once 0 = .ok (.iload_n 1, 1) := dAt (x := (0, .iload_n 1, 1)) DX5_once_0 0 rfl
theorem dX5_once_1 : decode cX5_once 1 = .ok (.ifCond .eq 9, 3) := dAt (x := (1, .ifCond .eq 9, 3)) DX5_once_0 1 rfl
theorem dX5_once_4 : decode cX5_once 4 = .ok (.aload_n 0, 1) := dAt (x := (4, .aload_n 0, 1)) DX5_once_0 2 rfl
theorem dX5_once_5 : decode cX5_once 5 = .ok (.iconst 3, 1) := dAt (x := (5, .iconst 3, 1)) DX5_once_0 3 rfl
theorem dX5_once_6 : decode cX5_once 6 = .ok (.invokevirtual 75, 3) := dAt (x := (6, .invokevirtual 75, 3)) DX5_once_0 4 rfl
theorem dX5_once_9 : decode cX5_once 9 = .ok (.ireturn, 1) := dAt (x := (9, .ireturn, 1)) DX5_once_0 5 rfl
theorem dX5_once_10 : decode cX5_once 10 = .ok (.aload_n 0, 1) := dAt (x := (10, .aload_n 0, 1)) DX5_once_0 6 rfl
theorem dX5_once_11 : decode cX5_once 11 = .ok (.getfield 12, 3) := dAt (x := (11, .getfield 12, 3)) DX5_once_0 7 rfl
theorem dX5_once_14 : decode cX5_once 14 = .ok (.invokevirtual 79, 3) := dAt (x := (14, .invokevirtual 79, 3)) DX5_once_0 8 rfl
theorem dX5_once_17 : decode cX5_once 17 = .ok (.aload_n 0, 1) := dAt (x := (17, .aload_n 0, 1)) DX5_once_0 9 rfl
theorem dX5_once_18 : decode cX5_once 18 = .ok (.iload_n 2, 1) := dAt (x := (18, .iload_n 2, 1)) DX5_once_0 10 rfl
theorem dX5_once_19 : decode cX5_once 19 = .ok (.invokevirtual 113, 3) := dAt (x := (19, .invokevirtual 113, 3)) DX5_once_0 11 rfl
theorem dX5_once_22 : decode cX5_once 22 = .ok (.ireturn, 1) := dAt (x := (22, .ireturn, 1)) DX5_once_0 12 rfl
def lDX5_lawLine_0 : List (Nat × Instr × Nat) := [(0, .aload_n 0, 1), (1, .getfield 12, 3), (4, .invokevirtual 79, 3), (7, .aload_n 0, 1), (8, .getfield 12, 3), (11, .getfield 56, 3), (14, .bipush 7, 2), (16, .isub, 1), (17, .istore_n 1, 1), (18, .aload_n 0, 1), (19, .getfield 12, 3), (22, .getfield 56, 3), (25, .bipush 7, 2), (27, .if_icmp .lt 15, 3), (30, .aload_n 0, 1), (31, .getfield 12, 3), (34, .getfield 56, 3), (37, .bipush 9, 2), (39, .if_icmp .le 9, 3), (42, .aload_n 0, 1), (43, .iconst 1, 1), (44, .invokevirtual 75, 3), (47, .ireturn, 1), (48, .aload_n 0, 1), (49, .getfield 21, 3), (52, .iload_n 1, 1), (53, .invokevirtual 164, 3), (56, .ifCond .eq 9, 3), (59, .aload_n 0, 1), (60, .iconst 3, 1), (61, .invokevirtual 75, 3), (64, .ireturn, 1), (65, .aload_n 0, 1), (66, .getfield 12, 3), (69, .invokevirtual 79, 3), (72, .aload_n 0, 1), (73, .getfield 21, 3), (76, .getfield 126, 3), (79, .getfield 130, 3), (82, .istore_n 2, 1), (83, .aload_n 0, 1), (84, .iconst (-1), 1), (85, .invokevirtual 135, 3), (88, .ifCond .ne 5, 3), (91, .iconst 0, 1), (92, .ireturn, 1), (93, .aload_n 0, 1), (94, .getfield 21, 3), (97, .iload_n 1, 1), (98, .iload_n 2, 1), (99, .invokevirtual 167, 3), (102, .iconst 1, 1), (103, .ireturn, 1)]
theorem DX5_lawLine_0 : dAll cX5_lawLine lDX5_lawLine_0 = true := by decide +kernel
theorem dX5_lawLine_0 : decode cX5_lawLine 0 = .ok (.aload_n 0, 1) := dAt (x := (0, .aload_n 0, 1)) DX5_lawLine_0 0 rfl
theorem dX5_lawLine_1 : decode cX5_lawLine 1 = .ok (.getfield 12, 3) := dAt (x := (1, .getfield 12, 3)) DX5_lawLine_0 1 rfl
theorem dX5_lawLine_4 : decode cX5_lawLine 4 = .ok (.invokevirtual 79, 3) := dAt (x := (4, .invokevirtual 79, 3)) DX5_lawLine_0 2 rfl
theorem dX5_lawLine_7 : decode cX5_lawLine 7 = .ok (.aload_n 0, 1) := dAt (x := (7, .aload_n 0, 1)) DX5_lawLine_0 3 rfl
theorem dX5_lawLine_8 : decode cX5_lawLine 8 = .ok (.getfield 12, 3) := dAt (x := (8, .getfield 12, 3)) DX5_lawLine_0 4 rfl
theorem dX5_lawLine_11 : decode cX5_lawLine 11 = .ok (.getfield 56, 3) := dAt (x := (11, .getfield 56, 3)) DX5_lawLine_0 5 rfl
theorem dX5_lawLine_14 : decode cX5_lawLine 14 = .ok (.bipush 7, 2) := dAt (x := (14, .bipush 7, 2)) DX5_lawLine_0 6 rfl
theorem dX5_lawLine_16 : decode cX5_lawLine 16 = .ok (.isub, 1) := dAt (x := (16, .isub, 1)) DX5_lawLine_0 7 rfl
theorem dX5_lawLine_17 : decode cX5_lawLine 17 = .ok (.istore_n 1, 1) := dAt (x := (17, .istore_n 1, 1)) DX5_lawLine_0 8 rfl
theorem dX5_lawLine_18 : decode cX5_lawLine 18 = .ok (.aload_n 0, 1) := dAt (x := (18, .aload_n 0, 1)) DX5_lawLine_0 9 rfl
theorem dX5_lawLine_19 : decode cX5_lawLine 19 = .ok (.getfield 12, 3) := dAt (x := (19, .getfield 12, 3)) DX5_lawLine_0 10 rfl
theorem dX5_lawLine_22 : decode cX5_lawLine 22 = .ok (.getfield 56, 3) := dAt (x := (22, .getfield 56, 3)) DX5_lawLine_0 11 rfl
theorem dX5_lawLine_25 : decode cX5_lawLine 25 = .ok (.bipush 7, 2) := dAt (x := (25, .bipush 7, 2)) DX5_lawLine_0 12 rfl
theorem dX5_lawLine_27 : decode cX5_lawLine 27 = .ok (.if_icmp .lt 15, 3) := dAt (x := (27, .if_icmp .lt 15, 3)) DX5_lawLine_0 13 rfl
theorem dX5_lawLine_30 : decode cX5_lawLine 30 = .ok (.aload_n 0, 1) := dAt (x := (30, .aload_n 0, 1)) DX5_lawLine_0 14 rfl
theorem dX5_lawLine_31 : decode cX5_lawLine 31 = .ok (.getfield 12, 3) := dAt (x := (31, .getfield 12, 3)) DX5_lawLine_0 15 rfl
theorem dX5_lawLine_34 : decode cX5_lawLine 34 = .ok (.getfield 56, 3) := dAt (x := (34, .getfield 56, 3)) DX5_lawLine_0 16 rfl
theorem dX5_lawLine_37 : decode cX5_lawLine 37 = .ok (.bipush 9, 2) := dAt (x := (37, .bipush 9, 2)) DX5_lawLine_0 17 rfl
theorem dX5_lawLine_39 : decode cX5_lawLine 39 = .ok (.if_icmp .le 9, 3) := dAt (x := (39, .if_icmp .le 9, 3)) DX5_lawLine_0 18 rfl
theorem dX5_lawLine_42 : decode cX5_lawLine 42 = .ok (.aload_n 0, 1) := dAt (x := (42, .aload_n 0, 1)) DX5_lawLine_0 19 rfl
theorem dX5_lawLine_43 : decode cX5_lawLine 43 = .ok (.iconst 1, 1) := dAt (x := (43, .iconst 1, 1)) DX5_lawLine_0 20 rfl
theorem dX5_lawLine_44 : decode cX5_lawLine 44 = .ok (.invokevirtual 75, 3) := dAt (x := (44, .invokevirtual 75, 3)) DX5_lawLine_0 21 rfl
theorem dX5_lawLine_47 : decode cX5_lawLine 47 = .ok (.ireturn, 1) := dAt (x := (47, .ireturn, 1)) DX5_lawLine_0 22 rfl
theorem dX5_lawLine_48 : decode cX5_lawLine 48 = .ok (.aload_n 0, 1) := dAt (x := (48, .aload_n 0, 1)) DX5_lawLine_0 23 rfl
theorem dX5_lawLine_49 : decode cX5_lawLine 49 = .ok (.getfield 21, 3) := dAt (x := (49, .getfield 21, 3)) DX5_lawLine_0 24 rfl
theorem dX5_lawLine_52 : decode cX5_lawLine 52 = .ok (.iload_n 1, 1) := dAt (x := (52, .iload_n 1, 1)) DX5_lawLine_0 25 rfl
theorem dX5_lawLine_53 : decode cX5_lawLine 53 = .ok (.invokevirtual 164, 3) := dAt (x := (53, .invokevirtual 164, 3)) DX5_lawLine_0 26 rfl
theorem dX5_lawLine_56 : decode cX5_lawLine 56 = .ok (.ifCond .eq 9, 3) := dAt (x := (56, .ifCond .eq 9, 3)) DX5_lawLine_0 27 rfl
theorem dX5_lawLine_59 : decode cX5_lawLine 59 = .ok (.aload_n 0, 1) := dAt (x := (59, .aload_n 0, 1)) DX5_lawLine_0 28 rfl
theorem dX5_lawLine_60 : decode cX5_lawLine 60 = .ok (.iconst 3, 1) := dAt (x := (60, .iconst 3, 1)) DX5_lawLine_0 29 rfl
theorem dX5_lawLine_61 : decode cX5_lawLine 61 = .ok (.invokevirtual 75, 3) := dAt (x := (61, .invokevirtual 75, 3)) DX5_lawLine_0 30 rfl
theorem dX5_lawLine_64 : decode cX5_lawLine 64 = .ok (.ireturn, 1) := dAt (x := (64, .ireturn, 1)) DX5_lawLine_0 31 rfl
theorem dX5_lawLine_65 : decode cX5_lawLine 65 = .ok (.aload_n 0, 1) := dAt (x := (65, .aload_n 0, 1)) DX5_lawLine_0 32 rfl
theorem dX5_lawLine_66 : decode cX5_lawLine 66 = .ok (.getfield 12, 3) := dAt (x := (66, .getfield 12, 3)) DX5_lawLine_0 33 rfl
theorem dX5_lawLine_69 : decode cX5_lawLine 69 = .ok (.invokevirtual 79, 3) := dAt (x := (69, .invokevirtual 79, 3)) DX5_lawLine_0 34 rfl
theorem dX5_lawLine_72 : decode cX5_lawLine 72 = .ok (.aload_n 0, 1) := dAt (x := (72, .aload_n 0, 1)) DX5_lawLine_0 35 rfl
theorem dX5_lawLine_73 : decode cX5_lawLine 73 = .ok (.getfield 21, 3) := dAt (x := (73, .getfield 21, 3)) DX5_lawLine_0 36 rfl
theorem dX5_lawLine_76 : decode cX5_lawLine 76 = .ok (.getfield 126, 3) := dAt (x := (76, .getfield 126, 3)) DX5_lawLine_0 37 rfl
theorem dX5_lawLine_79 : decode cX5_lawLine 79 = .ok (.getfield 130, 3) := dAt (x := (79, .getfield 130, 3)) DX5_lawLine_0 38 rfl
theorem dX5_lawLine_82 : decode cX5_lawLine 82 = .ok (.istore_n 2, 1) := dAt (x := (82, .istore_n 2, 1)) DX5_lawLine_0 39 rfl
theorem dX5_lawLine_83 : decode cX5_lawLine 83 = .ok (.aload_n 0, 1) := dAt (x := (83, .aload_n 0, 1)) DX5_lawLine_0 40 rfl
theorem dX5_lawLine_84 : decode cX5_lawLine 84 = .ok (.iconst (-1), 1) := dAt (x := (84, .iconst (-1), 1)) DX5_lawLine_0 41 rfl
theorem dX5_lawLine_85 : decode cX5_lawLine 85 = .ok (.invokevirtual 135, 3) := dAt (x := (85, .invokevirtual 135, 3)) DX5_lawLine_0 42 rfl
theorem dX5_lawLine_88 : decode cX5_lawLine 88 = .ok (.ifCond .ne 5, 3) := dAt (x := (88, .ifCond .ne 5, 3)) DX5_lawLine_0 43 rfl
theorem dX5_lawLine_91 : decode cX5_lawLine 91 = .ok (.iconst 0, 1) := dAt (x := (91, .iconst 0, 1)) DX5_lawLine_0 44 rfl
theorem dX5_lawLine_92 : decode cX5_lawLine 92 = .ok (.ireturn, 1) := dAt (x := (92, .ireturn, 1)) DX5_lawLine_0 45 rfl
theorem dX5_lawLine_93 : decode cX5_lawLine 93 = .ok (.aload_n 0, 1) := dAt (x := (93, .aload_n 0, 1)) DX5_lawLine_0 46 rfl
theorem dX5_lawLine_94 : decode cX5_lawLine 94 = .ok (.getfield 21, 3) := dAt (x := (94, .getfield 21, 3)) DX5_lawLine_0 47 rfl
theorem dX5_lawLine_97 : decode cX5_lawLine 97 = .ok (.iload_n 1, 1) := dAt (x := (97, .iload_n 1, 1)) DX5_lawLine_0 48 rfl
theorem dX5_lawLine_98 : decode cX5_lawLine 98 = .ok (.iload_n 2, 1) := dAt (x := (98, .iload_n 2, 1)) DX5_lawLine_0 49 rfl
theorem dX5_lawLine_99 : decode cX5_lawLine 99 = .ok (.invokevirtual 167, 3) := dAt (x := (99, .invokevirtual 167, 3)) DX5_lawLine_0 50 rfl
theorem dX5_lawLine_102 : decode cX5_lawLine 102 = .ok (.iconst 1, 1) := dAt (x := (102, .iconst 1, 1)) DX5_lawLine_0 51 rfl
theorem dX5_lawLine_103 : decode cX5_lawLine 103 = .ok (.ireturn, 1) := dAt (x := (103, .ireturn, 1)) DX5_lawLine_0 52 rfl
def lDX5_numberTo_0 : List (Nat × Instr × Nat) := [(0, .aload_n 0, 1), (1, .getfield 12, 3), (4, .getfield 56, 3), (7, .bipush 37, 2), (9, .if_icmp .eq 9, 3), (12, .aload_n 0, 1), (13, .iconst 1, 1), (14, .invokevirtual 75, 3), (17, .ireturn, 1), (18, .aload_n 0, 1), (19, .getfield 12, 3), (22, .getfield 106, 3), (25, .iload_n 1, 1), (26, .if_icmp .le 11, 3), (29, .aload_n 0, 1), (30, .iconst 2, 1), (31, .invokevirtual 75, 3), (34, .ifCond .eq 7, 3), (37, .iconst 1, 1), (38, .goto 4, 3), (41, .iconst 0, 1), (42, .ireturn, 1)]
theorem DX5_numberTo_0 : dAll cX5_numberTo lDX5_numberTo_0 = true := by decide +kernel
theorem dX5_numberTo_0 : decode cX5_numberTo 0 = .ok (.aload_n 0, 1) := dAt (x := (0, .aload_n 0, 1)) DX5_numberTo_0 0 rfl
theorem dX5_numberTo_1 : decode cX5_numberTo 1 = .ok (.getfield 12, 3) := dAt (x := (1, .getfield 12, 3)) DX5_numberTo_0 1 rfl
theorem dX5_numberTo_4 : decode cX5_numberTo 4 = .ok (.getfield 56, 3) := dAt (x := (4, .getfield 56, 3)) DX5_numberTo_0 2 rfl
theorem dX5_numberTo_7 : decode cX5_numberTo 7 = .ok (.bipush 37, 2) := dAt (x := (7, .bipush 37, 2)) DX5_numberTo_0 3 rfl
theorem dX5_numberTo_9 : decode cX5_numberTo 9 = .ok (.if_icmp .eq 9, 3) := dAt (x := (9, .if_icmp .eq 9, 3)) DX5_numberTo_0 4 rfl
theorem dX5_numberTo_12 : decode cX5_numberTo 12 = .ok (.aload_n 0, 1) := dAt (x := (12, .aload_n 0, 1)) DX5_numberTo_0 5 rfl
theorem dX5_numberTo_13 : decode cX5_numberTo 13 = .ok (.iconst 1, 1) := dAt (x := (13, .iconst 1, 1)) DX5_numberTo_0 6 rfl
theorem dX5_numberTo_14 : decode cX5_numberTo 14 = .ok (.invokevirtual 75, 3) := dAt (x := (14, .invokevirtual 75, 3)) DX5_numberTo_0 7 rfl
theorem dX5_numberTo_17 : decode cX5_numberTo 17 = .ok (.ireturn, 1) := dAt (x := (17, .ireturn, 1)) DX5_numberTo_0 8 rfl
theorem dX5_numberTo_18 : decode cX5_numberTo 18 = .ok (.aload_n 0, 1) := dAt (x := (18, .aload_n 0, 1)) DX5_numberTo_0 9 rfl
theorem dX5_numberTo_19 : decode cX5_numberTo 19 = .ok (.getfield 12, 3) := dAt (x := (19, .getfield 12, 3)) DX5_numberTo_0 10 rfl
theorem dX5_numberTo_22 : decode cX5_numberTo 22 = .ok (.getfield 106, 3) := dAt (x := (22, .getfield 106, 3)) DX5_numberTo_0 11 rfl
theorem dX5_numberTo_25 : decode cX5_numberTo 25 = .ok (.iload_n 1, 1) := dAt (x := (25, .iload_n 1, 1)) DX5_numberTo_0 12 rfl
theorem dX5_numberTo_26 : decode cX5_numberTo 26 = .ok (.if_icmp .le 11, 3) := dAt (x := (26, .if_icmp .le 11, 3)) DX5_numberTo_0 13 rfl
theorem dX5_numberTo_29 : decode cX5_numberTo 29 = .ok (.aload_n 0, 1) := dAt (x := (29, .aload_n 0, 1)) DX5_numberTo_0 14 rfl
theorem dX5_numberTo_30 : decode cX5_numberTo 30 = .ok (.iconst 2, 1) := dAt (x := (30, .iconst 2, 1)) DX5_numberTo_0 15 rfl
theorem dX5_numberTo_31 : decode cX5_numberTo 31 = .ok (.invokevirtual 75, 3) := dAt (x := (31, .invokevirtual 75, 3)) DX5_numberTo_0 16 rfl
theorem dX5_numberTo_34 : decode cX5_numberTo 34 = .ok (.ifCond .eq 7, 3) := dAt (x := (34, .ifCond .eq 7, 3)) DX5_numberTo_0 17 rfl
theorem dX5_numberTo_37 : decode cX5_numberTo 37 = .ok (.iconst 1, 1) := dAt (x := (37, .iconst 1, 1)) DX5_numberTo_0 18 rfl
theorem dX5_numberTo_38 : decode cX5_numberTo 38 = .ok (.goto 4, 3) := dAt (x := (38, .goto 4, 3)) DX5_numberTo_0 19 rfl
theorem dX5_numberTo_41 : decode cX5_numberTo 41 = .ok (.iconst 0, 1) := dAt (x := (41, .iconst 0, 1)) DX5_numberTo_0 20 rfl
theorem dX5_numberTo_42 : decode cX5_numberTo 42 = .ok (.ireturn, 1) := dAt (x := (42, .ireturn, 1)) DX5_numberTo_0 21 rfl
def lDX5_toldLatch_0 : List (Nat × Instr × Nat) := [(0, .aload_n 0, 1), (1, .getfield 12, 3), (4, .getfield 56, 3), (7, .bipush 38, 2), (9, .if_icmp .eq 9, 3), (12, .aload_n 0, 1), (13, .iconst 1, 1), (14, .invokevirtual 75, 3), (17, .ireturn, 1), (18, .aload_n 0, 1), (19, .getfield 21, 3), (22, .aload_n 0, 1), (23, .getfield 12, 3), (26, .getfield 106, 3), (29, .invokevirtual 109, 3), (32, .iconst (-1), 1), (33, .if_icmp .ne 11, 3), (36, .aload_n 0, 1), (37, .iconst 4, 1), (38, .invokevirtual 75, 3), (41, .ifCond .eq 7, 3), (44, .iconst 1, 1), (45, .goto 4, 3), (48, .iconst 0, 1), (49, .ireturn, 1)]
theorem DX5_toldLatch_0 : dAll cX5_toldLatch lDX5_toldLatch_0 = true := by decide +kernel
theorem dX5_toldLatch_0 : decode cX5_toldLatch 0 = .ok (.aload_n 0, 1) := dAt (x := (0, .aload_n 0, 1)) DX5_toldLatch_0 0 rfl
theorem dX5_toldLatch_1 : decode cX5_toldLatch 1 = .ok (.getfield 12, 3) := dAt (x := (1, .getfield 12, 3)) DX5_toldLatch_0 1 rfl
theorem dX5_toldLatch_4 : decode cX5_toldLatch 4 = .ok (.getfield 56, 3) := dAt (x := (4, .getfield 56, 3)) DX5_toldLatch_0 2 rfl
theorem dX5_toldLatch_7 : decode cX5_toldLatch 7 = .ok (.bipush 38, 2) := dAt (x := (7, .bipush 38, 2)) DX5_toldLatch_0 3 rfl
theorem dX5_toldLatch_9 : decode cX5_toldLatch 9 = .ok (.if_icmp .eq 9, 3) := dAt (x := (9, .if_icmp .eq 9, 3)) DX5_toldLatch_0 4 rfl
theorem dX5_toldLatch_12 : decode cX5_toldLatch 12 = .ok (.aload_n 0, 1) := dAt (x := (12, .aload_n 0, 1)) DX5_toldLatch_0 5 rfl
theorem dX5_toldLatch_13 : decode cX5_toldLatch 13 = .ok (.iconst 1, 1) := dAt (x := (13, .iconst 1, 1)) DX5_toldLatch_0 6 rfl
theorem dX5_toldLatch_14 : decode cX5_toldLatch 14 = .ok (.invokevirtual 75, 3) := dAt (x := (14, .invokevirtual 75, 3)) DX5_toldLatch_0 7 rfl
theorem dX5_toldLatch_17 : decode cX5_toldLatch 17 = .ok (.ireturn, 1) := dAt (x := (17, .ireturn, 1)) DX5_toldLatch_0 8 rfl
theorem dX5_toldLatch_18 : decode cX5_toldLatch 18 = .ok (.aload_n 0, 1) := dAt (x := (18, .aload_n 0, 1)) DX5_toldLatch_0 9 rfl
theorem dX5_toldLatch_19 : decode cX5_toldLatch 19 = .ok (.getfield 21, 3) := dAt (x := (19, .getfield 21, 3)) DX5_toldLatch_0 10 rfl
theorem dX5_toldLatch_22 : decode cX5_toldLatch 22 = .ok (.aload_n 0, 1) := dAt (x := (22, .aload_n 0, 1)) DX5_toldLatch_0 11 rfl
theorem dX5_toldLatch_23 : decode cX5_toldLatch 23 = .ok (.getfield 12, 3) := dAt (x := (23, .getfield 12, 3)) DX5_toldLatch_0 12 rfl
theorem dX5_toldLatch_26 : decode cX5_toldLatch 26 = .ok (.getfield 106, 3) := dAt (x := (26, .getfield 106, 3)) DX5_toldLatch_0 13 rfl
theorem dX5_toldLatch_29 : decode cX5_toldLatch 29 = .ok (.invokevirtual 109, 3) := dAt (x := (29, .invokevirtual 109, 3)) DX5_toldLatch_0 14 rfl
theorem dX5_toldLatch_32 : decode cX5_toldLatch 32 = .ok (.iconst (-1), 1) := dAt (x := (32, .iconst (-1), 1)) DX5_toldLatch_0 15 rfl
theorem dX5_toldLatch_33 : decode cX5_toldLatch 33 = .ok (.if_icmp .ne 11, 3) := dAt (x := (33, .if_icmp .ne 11, 3)) DX5_toldLatch_0 16 rfl
theorem dX5_toldLatch_36 : decode cX5_toldLatch 36 = .ok (.aload_n 0, 1) := dAt (x := (36, .aload_n 0, 1)) DX5_toldLatch_0 17 rfl
theorem dX5_toldLatch_37 : decode cX5_toldLatch 37 = .ok (.iconst 4, 1) := dAt (x := (37, .iconst 4, 1)) DX5_toldLatch_0 18 rfl
theorem dX5_toldLatch_38 : decode cX5_toldLatch 38 = .ok (.invokevirtual 75, 3) := dAt (x := (38, .invokevirtual 75, 3)) DX5_toldLatch_0 19 rfl
theorem dX5_toldLatch_41 : decode cX5_toldLatch 41 = .ok (.ifCond .eq 7, 3) := dAt (x := (41, .ifCond .eq 7, 3)) DX5_toldLatch_0 20 rfl
theorem dX5_toldLatch_44 : decode cX5_toldLatch 44 = .ok (.iconst 1, 1) := dAt (x := (44, .iconst 1, 1)) DX5_toldLatch_0 21 rfl
theorem dX5_toldLatch_45 : decode cX5_toldLatch 45 = .ok (.goto 4, 3) := dAt (x := (45, .goto 4, 3)) DX5_toldLatch_0 22 rfl
theorem dX5_toldLatch_48 : decode cX5_toldLatch 48 = .ok (.iconst 0, 1) := dAt (x := (48, .iconst 0, 1)) DX5_toldLatch_0 23 rfl
theorem dX5_toldLatch_49 : decode cX5_toldLatch 49 = .ok (.ireturn, 1) := dAt (x := (49, .ireturn, 1)) DX5_toldLatch_0 24 rfl
def lDX5_formula_0 : List (Nat × Instr × Nat) := [(0, .aload_n 0, 1), (1, .iconst 0, 1), (2, .putfield 170, 3), (5, .aload_n 0, 1), (6, .iconst 0, 1), (7, .putfield 173, 3), (10, .aload_n 0, 1), (11, .iconst (-1), 1), (12, .putfield 29, 3), (15, .iconst 1, 1), (16, .istore_n 2, 1), (17, .iconst 0, 1), (18, .istore_n 3, 1), (19, .iload_n 3, 1), (20, .sipush 700, 3), (23, .if_icmp .gt 202, 3), (26, .aload_n 0, 1), (27, .getfield 29, 3), (30, .iconst (-1), 1), (31, .if_icmp .eq 13, 3), (34, .aload_n 0, 1), (35, .iload_n 1, 1), (36, .invokevirtual 176, 3), (39, .ifCond .ne 173, 3), (42, .iconst 0, 1), (43, .ireturn, 1), (44, .iload_n 2, 1), (45, .ifCond .ne 29, 3), (48, .aload_n 0, 1), (49, .getfield 12, 3), (52, .getfield 56, 3), (55, .bipush 24, 2), (57, .if_icmp .ne 17, 3), (60, .aload_n 0, 1), (61, .getfield 173, 3), (64, .ifCond .ne 10, 3), (67, .aload_n 0, 1), (68, .iconst 1, 1), (69, .invokevirtual 179, 3), (72, .iconst 1, 1), (73, .ireturn, 1), (74, .iload_n 2, 1), (75, .ifCond .ne 50, 3), (78, .aload_n 0, 1), (79, .getfield 12, 3), (82, .getfield 56, 3), (85, .bipush 26, 2), (87, .if_icmp .ne 38, 3), (90, .aload_n 0, 1), (91, .getfield 173, 3), (94, .ifCond .le 31, 3), (97, .aload_n 0, 1), (98, .iconst 1, 1), (99, .invokevirtual 179, 3), (102, .aload_n 0, 1), (103, .dup, 1), (104, .getfield 170, 3), (107, .iconst 1, 1), (108, .isub, 1), (109, .putfield 170, 3)]
theorem DX5_formula_0 : dAll cX5_formula lDX5_formula_0 = true := by decide +kernel
theorem dX5_formula_0 : decode cX5_formula 0 = .ok (.aload_n 0, 1) := dAt (x := (0, .aload_n 0, 1)) DX5_formula_0 0 rfl
theorem dX5_formula_1 : decode cX5_formula 1 = .ok (.iconst 0, 1) := dAt (x := (1, .iconst 0, 1)) DX5_formula_0 1 rfl
theorem dX5_formula_2 : decode cX5_formula 2 = .ok (.putfield 170, 3) := dAt (x := (2, .putfield 170, 3)) DX5_formula_0 2 rfl
theorem dX5_formula_5 : decode cX5_formula 5 = .ok (.aload_n 0, 1) := dAt (x := (5, .aload_n 0, 1)) DX5_formula_0 3 rfl
theorem dX5_formula_6 : decode cX5_formula 6 = .ok (.iconst 0, 1) := dAt (x := (6, .iconst 0, 1)) DX5_formula_0 4 rfl
theorem dX5_formula_7 : decode cX5_formula 7 = .ok (.putfield 173, 3) := dAt (x := (7, .putfield 173, 3)) DX5_formula_0 5 rfl
theorem dX5_formula_10 : decode cX5_formula 10 = .ok (.aload_n 0, 1) := dAt (x := (10, .aload_n 0, 1)) DX5_formula_0 6 rfl
theorem dX5_formula_11 : decode cX5_formula 11 = .ok (.iconst (-1), 1) := dAt (x := (11, .iconst (-1), 1)) DX5_formula_0 7 rfl
theorem dX5_formula_12 : decode cX5_formula 12 = .ok (.putfield 29, 3) := dAt (x := (12, .putfield 29, 3)) DX5_formula_0 8 rfl
theorem dX5_formula_15 : decode cX5_formula 15 = .ok (.iconst 1, 1) := dAt (x := (15, .iconst 1, 1)) DX5_formula_0 9 rfl
theorem dX5_formula_16 : decode cX5_formula 16 = .ok (.istore_n 2, 1) := dAt (x := (16, .istore_n 2, 1)) DX5_formula_0 10 rfl
theorem dX5_formula_17 : decode cX5_formula 17 = .ok (.iconst 0, 1) := dAt (x := (17, .iconst 0, 1)) DX5_formula_0 11 rfl
theorem dX5_formula_18 : decode cX5_formula 18 = .ok (.istore_n 3, 1) := dAt (x := (18, .istore_n 3, 1)) DX5_formula_0 12 rfl
theorem dX5_formula_19 : decode cX5_formula 19 = .ok (.iload_n 3, 1) := dAt (x := (19, .iload_n 3, 1)) DX5_formula_0 13 rfl
theorem dX5_formula_20 : decode cX5_formula 20 = .ok (.sipush 700, 3) := dAt (x := (20, .sipush 700, 3)) DX5_formula_0 14 rfl
theorem dX5_formula_23 : decode cX5_formula 23 = .ok (.if_icmp .gt 202, 3) := dAt (x := (23, .if_icmp .gt 202, 3)) DX5_formula_0 15 rfl
theorem dX5_formula_26 : decode cX5_formula 26 = .ok (.aload_n 0, 1) := dAt (x := (26, .aload_n 0, 1)) DX5_formula_0 16 rfl
theorem dX5_formula_27 : decode cX5_formula 27 = .ok (.getfield 29, 3) := dAt (x := (27, .getfield 29, 3)) DX5_formula_0 17 rfl
theorem dX5_formula_30 : decode cX5_formula 30 = .ok (.iconst (-1), 1) := dAt (x := (30, .iconst (-1), 1)) DX5_formula_0 18 rfl
theorem dX5_formula_31 : decode cX5_formula 31 = .ok (.if_icmp .eq 13, 3) := dAt (x := (31, .if_icmp .eq 13, 3)) DX5_formula_0 19 rfl
theorem dX5_formula_34 : decode cX5_formula 34 = .ok (.aload_n 0, 1) := dAt (x := (34, .aload_n 0, 1)) DX5_formula_0 20 rfl
theorem dX5_formula_35 : decode cX5_formula 35 = .ok (.iload_n 1, 1) := dAt (x := (35, .iload_n 1, 1)) DX5_formula_0 21 rfl
theorem dX5_formula_36 : decode cX5_formula 36 = .ok (.invokevirtual 176, 3) := dAt (x := (36, .invokevirtual 176, 3)) DX5_formula_0 22 rfl
theorem dX5_formula_39 : decode cX5_formula 39 = .ok (.ifCond .ne 173, 3) := dAt (x := (39, .ifCond .ne 173, 3)) DX5_formula_0 23 rfl
theorem dX5_formula_42 : decode cX5_formula 42 = .ok (.iconst 0, 1) := dAt (x := (42, .iconst 0, 1)) DX5_formula_0 24 rfl
theorem dX5_formula_43 : decode cX5_formula 43 = .ok (.ireturn, 1) := dAt (x := (43, .ireturn, 1)) DX5_formula_0 25 rfl
theorem dX5_formula_44 : decode cX5_formula 44 = .ok (.iload_n 2, 1) := dAt (x := (44, .iload_n 2, 1)) DX5_formula_0 26 rfl
theorem dX5_formula_45 : decode cX5_formula 45 = .ok (.ifCond .ne 29, 3) := dAt (x := (45, .ifCond .ne 29, 3)) DX5_formula_0 27 rfl
theorem dX5_formula_48 : decode cX5_formula 48 = .ok (.aload_n 0, 1) := dAt (x := (48, .aload_n 0, 1)) DX5_formula_0 28 rfl
theorem dX5_formula_49 : decode cX5_formula 49 = .ok (.getfield 12, 3) := dAt (x := (49, .getfield 12, 3)) DX5_formula_0 29 rfl
theorem dX5_formula_52 : decode cX5_formula 52 = .ok (.getfield 56, 3) := dAt (x := (52, .getfield 56, 3)) DX5_formula_0 30 rfl
theorem dX5_formula_55 : decode cX5_formula 55 = .ok (.bipush 24, 2) := dAt (x := (55, .bipush 24, 2)) DX5_formula_0 31 rfl
theorem dX5_formula_57 : decode cX5_formula 57 = .ok (.if_icmp .ne 17, 3) := dAt (x := (57, .if_icmp .ne 17, 3)) DX5_formula_0 32 rfl
theorem dX5_formula_60 : decode cX5_formula 60 = .ok (.aload_n 0, 1) := dAt (x := (60, .aload_n 0, 1)) DX5_formula_0 33 rfl
theorem dX5_formula_61 : decode cX5_formula 61 = .ok (.getfield 173, 3) := dAt (x := (61, .getfield 173, 3)) DX5_formula_0 34 rfl
theorem dX5_formula_64 : decode cX5_formula 64 = .ok (.ifCond .ne 10, 3) := dAt (x := (64, .ifCond .ne 10, 3)) DX5_formula_0 35 rfl
theorem dX5_formula_67 : decode cX5_formula 67 = .ok (.aload_n 0, 1) := dAt (x := (67, .aload_n 0, 1)) DX5_formula_0 36 rfl
theorem dX5_formula_68 : decode cX5_formula 68 = .ok (.iconst 1, 1) := dAt (x := (68, .iconst 1, 1)) DX5_formula_0 37 rfl
theorem dX5_formula_69 : decode cX5_formula 69 = .ok (.invokevirtual 179, 3) := dAt (x := (69, .invokevirtual 179, 3)) DX5_formula_0 38 rfl
theorem dX5_formula_72 : decode cX5_formula 72 = .ok (.iconst 1, 1) := dAt (x := (72, .iconst 1, 1)) DX5_formula_0 39 rfl
theorem dX5_formula_73 : decode cX5_formula 73 = .ok (.ireturn, 1) := dAt (x := (73, .ireturn, 1)) DX5_formula_0 40 rfl
theorem dX5_formula_74 : decode cX5_formula 74 = .ok (.iload_n 2, 1) := dAt (x := (74, .iload_n 2, 1)) DX5_formula_0 41 rfl
theorem dX5_formula_75 : decode cX5_formula 75 = .ok (.ifCond .ne 50, 3) := dAt (x := (75, .ifCond .ne 50, 3)) DX5_formula_0 42 rfl
theorem dX5_formula_78 : decode cX5_formula 78 = .ok (.aload_n 0, 1) := dAt (x := (78, .aload_n 0, 1)) DX5_formula_0 43 rfl
theorem dX5_formula_79 : decode cX5_formula 79 = .ok (.getfield 12, 3) := dAt (x := (79, .getfield 12, 3)) DX5_formula_0 44 rfl
theorem dX5_formula_82 : decode cX5_formula 82 = .ok (.getfield 56, 3) := dAt (x := (82, .getfield 56, 3)) DX5_formula_0 45 rfl
theorem dX5_formula_85 : decode cX5_formula 85 = .ok (.bipush 26, 2) := dAt (x := (85, .bipush 26, 2)) DX5_formula_0 46 rfl
theorem dX5_formula_87 : decode cX5_formula 87 = .ok (.if_icmp .ne 38, 3) := dAt (x := (87, .if_icmp .ne 38, 3)) DX5_formula_0 47 rfl
theorem dX5_formula_90 : decode cX5_formula 90 = .ok (.aload_n 0, 1) := dAt (x := (90, .aload_n 0, 1)) DX5_formula_0 48 rfl
theorem dX5_formula_91 : decode cX5_formula 91 = .ok (.getfield 173, 3) := dAt (x := (91, .getfield 173, 3)) DX5_formula_0 49 rfl
theorem dX5_formula_94 : decode cX5_formula 94 = .ok (.ifCond .le 31, 3) := dAt (x := (94, .ifCond .le 31, 3)) DX5_formula_0 50 rfl
theorem dX5_formula_97 : decode cX5_formula 97 = .ok (.aload_n 0, 1) := dAt (x := (97, .aload_n 0, 1)) DX5_formula_0 51 rfl
theorem dX5_formula_98 : decode cX5_formula 98 = .ok (.iconst 1, 1) := dAt (x := (98, .iconst 1, 1)) DX5_formula_0 52 rfl
theorem dX5_formula_99 : decode cX5_formula 99 = .ok (.invokevirtual 179, 3) := dAt (x := (99, .invokevirtual 179, 3)) DX5_formula_0 53 rfl
theorem dX5_formula_102 : decode cX5_formula 102 = .ok (.aload_n 0, 1) := dAt (x := (102, .aload_n 0, 1)) DX5_formula_0 54 rfl
theorem dX5_formula_103 : decode cX5_formula 103 = .ok (.dup, 1) := dAt (x := (103, .dup, 1)) DX5_formula_0 55 rfl
theorem dX5_formula_104 : decode cX5_formula 104 = .ok (.getfield 170, 3) := dAt (x := (104, .getfield 170, 3)) DX5_formula_0 56 rfl
theorem dX5_formula_107 : decode cX5_formula 107 = .ok (.iconst 1, 1) := dAt (x := (107, .iconst 1, 1)) DX5_formula_0 57 rfl
theorem dX5_formula_108 : decode cX5_formula 108 = .ok (.isub, 1) := dAt (x := (108, .isub, 1)) DX5_formula_0 58 rfl
theorem dX5_formula_109 : decode cX5_formula 109 = .ok (.putfield 170, 3) := dAt (x := (109, .putfield 170, 3)) DX5_formula_0 59 rfl
def lDX5_formula_1 : List (Nat × Instr × Nat) := [(112, .aload_n 0, 1), (113, .dup, 1), (114, .getfield 173, 3), (117, .iconst 1, 1), (118, .isub, 1), (119, .putfield 173, 3), (122, .goto 90, 3), (125, .iload_n 2, 1), (126, .ifCond .ne 27, 3), (129, .aload_n 0, 1), (130, .iload_n 1, 1), (131, .iconst (-1), 1), (132, .if_icmp .ne 7, 3), (135, .iconst 1, 1), (136, .goto 4, 3), (139, .iconst 0, 1), (140, .invokevirtual 182, 3), (143, .ifCond .ne 5, 3), (146, .iconst 0, 1), (147, .ireturn, 1), (148, .iconst 1, 1), (149, .istore_n 2, 1), (150, .goto 62, 3), (153, .aload_n 0, 1), (154, .getfield 12, 3), (157, .getfield 56, 3), (160, .bipush 25, 2), (162, .if_icmp .eq 15, 3), (165, .aload_n 0, 1), (166, .getfield 12, 3), (169, .getfield 56, 3), (172, .bipush 12, 2), (174, .if_icmp .ne 12, 3), (177, .aload_n 0, 1), (178, .invokevirtual 186, 3), (181, .ifCond .ne 31, 3), (184, .iconst 0, 1), (185, .ireturn, 1), (186, .iload_n 1, 1), (187, .iconst (-1), 1), (188, .if_icmp .ne 13, 3), (191, .aload_n 0, 1), (192, .invokevirtual 189, 3), (195, .ifCond .ne 15, 3), (198, .goto 10, 3), (201, .aload_n 0, 1), (202, .invokevirtual 192, 3), (205, .ifCond .ne 5, 3), (208, .iconst 0, 1), (209, .ireturn, 1), (210, .iconst 0, 1), (211, .istore_n 2, 1), (212, .aload_n 0, 1), (213, .getfield 12, 3), (216, .invokevirtual 79, 3), (219, .iinc 3 1, 3), (222, .goto (-203), 3), (225, .aload_n 0, 1), (226, .iconst 1, 1), (227, .invokevirtual 75, 3)]
theorem DX5_formula_1 : dAll cX5_formula lDX5_formula_1 = true := by decide +kernel
theorem dX5_formula_112 : decode cX5_formula 112 = .ok (.aload_n 0, 1) := dAt (x := (112, .aload_n 0, 1)) DX5_formula_1 0 rfl
theorem dX5_formula_113 : decode cX5_formula 113 = .ok (.dup, 1) := dAt (x := (113, .dup, 1)) DX5_formula_1 1 rfl
theorem dX5_formula_114 : decode cX5_formula 114 = .ok (.getfield 173, 3) := dAt (x := (114, .getfield 173, 3)) DX5_formula_1 2 rfl
theorem dX5_formula_117 : decode cX5_formula 117 = .ok (.iconst 1, 1) := dAt (x := (117, .iconst 1, 1)) DX5_formula_1 3 rfl
theorem dX5_formula_118 : decode cX5_formula 118 = .ok (.isub, 1) := dAt (x := (118, .isub, 1)) DX5_formula_1 4 rfl
theorem dX5_formula_119 : decode cX5_formula 119 = .ok (.putfield 173, 3) := dAt (x := (119, .putfield 173, 3)) DX5_formula_1 5 rfl
theorem dX5_formula_122 : decode cX5_formula 122 = .ok (.goto 90, 3) := dAt (x := (122, .goto 90, 3)) DX5_formula_1 6 rfl
theorem dX5_formula_125 : decode cX5_formula 125 = .ok (.iload_n 2, 1) := dAt (x := (125, .iload_n 2, 1)) DX5_formula_1 7 rfl
theorem dX5_formula_126 : decode cX5_formula 126 = .ok (.ifCond .ne 27, 3) := dAt (x := (126, .ifCond .ne 27, 3)) DX5_formula_1 8 rfl
theorem dX5_formula_129 : decode cX5_formula 129 = .ok (.aload_n 0, 1) := dAt (x := (129, .aload_n 0, 1)) DX5_formula_1 9 rfl
theorem dX5_formula_130 : decode cX5_formula 130 = .ok (.iload_n 1, 1) := dAt (x := (130, .iload_n 1, 1)) DX5_formula_1 10 rfl
theorem dX5_formula_131 : decode cX5_formula 131 = .ok (.iconst (-1), 1) := dAt (x := (131, .iconst (-1), 1)) DX5_formula_1 11 rfl
theorem dX5_formula_132 : decode cX5_formula 132 = .ok (.if_icmp .ne 7, 3) := dAt (x := (132, .if_icmp .ne 7, 3)) DX5_formula_1 12 rfl
theorem dX5_formula_135 : decode cX5_formula 135 = .ok (.iconst 1, 1) := dAt (x := (135, .iconst 1, 1)) DX5_formula_1 13 rfl
theorem dX5_formula_136 : decode cX5_formula 136 = .ok (.goto 4, 3) := dAt (x := (136, .goto 4, 3)) DX5_formula_1 14 rfl
theorem dX5_formula_139 : decode cX5_formula 139 = .ok (.iconst 0, 1) := dAt (x := (139, .iconst 0, 1)) DX5_formula_1 15 rfl
theorem dX5_formula_140 : decode cX5_formula 140 = .ok (.invokevirtual 182, 3) := dAt (x := (140, .invokevirtual 182, 3)) DX5_formula_1 16 rfl
theorem dX5_formula_143 : decode cX5_formula 143 = .ok (.ifCond .ne 5, 3) := dAt (x := (143, .ifCond .ne 5, 3)) DX5_formula_1 17 rfl
theorem dX5_formula_146 : decode cX5_formula 146 = .ok (.iconst 0, 1) := dAt (x := (146, .iconst 0, 1)) DX5_formula_1 18 rfl
theorem dX5_formula_147 : decode cX5_formula 147 = .ok (.ireturn, 1) := dAt (x := (147, .ireturn, 1)) DX5_formula_1 19 rfl
theorem dX5_formula_148 : decode cX5_formula 148 = .ok (.iconst 1, 1) := dAt (x := (148, .iconst 1, 1)) DX5_formula_1 20 rfl
theorem dX5_formula_149 : decode cX5_formula 149 = .ok (.istore_n 2, 1) := dAt (x := (149, .istore_n 2, 1)) DX5_formula_1 21 rfl
theorem dX5_formula_150 : decode cX5_formula 150 = .ok (.goto 62, 3) := dAt (x := (150, .goto 62, 3)) DX5_formula_1 22 rfl
theorem dX5_formula_153 : decode cX5_formula 153 = .ok (.aload_n 0, 1) := dAt (x := (153, .aload_n 0, 1)) DX5_formula_1 23 rfl
theorem dX5_formula_154 : decode cX5_formula 154 = .ok (.getfield 12, 3) := dAt (x := (154, .getfield 12, 3)) DX5_formula_1 24 rfl
theorem dX5_formula_157 : decode cX5_formula 157 = .ok (.getfield 56, 3) := dAt (x := (157, .getfield 56, 3)) DX5_formula_1 25 rfl
theorem dX5_formula_160 : decode cX5_formula 160 = .ok (.bipush 25, 2) := dAt (x := (160, .bipush 25, 2)) DX5_formula_1 26 rfl
theorem dX5_formula_162 : decode cX5_formula 162 = .ok (.if_icmp .eq 15, 3) := dAt (x := (162, .if_icmp .eq 15, 3)) DX5_formula_1 27 rfl
theorem dX5_formula_165 : decode cX5_formula 165 = .ok (.aload_n 0, 1) := dAt (x := (165, .aload_n 0, 1)) DX5_formula_1 28 rfl
theorem dX5_formula_166 : decode cX5_formula 166 = .ok (.getfield 12, 3) := dAt (x := (166, .getfield 12, 3)) DX5_formula_1 29 rfl
theorem dX5_formula_169 : decode cX5_formula 169 = .ok (.getfield 56, 3) := dAt (x := (169, .getfield 56, 3)) DX5_formula_1 30 rfl
theorem dX5_formula_172 : decode cX5_formula 172 = .ok (.bipush 12, 2) := dAt (x := (172, .bipush 12, 2)) DX5_formula_1 31 rfl
theorem dX5_formula_174 : decode cX5_formula 174 = .ok (.if_icmp .ne 12, 3) := dAt (x := (174, .if_icmp .ne 12, 3)) DX5_formula_1 32 rfl
theorem dX5_formula_177 : decode cX5_formula 177 = .ok (.aload_n 0, 1) := dAt (x := (177, .aload_n 0, 1)) DX5_formula_1 33 rfl
theorem dX5_formula_178 : decode cX5_formula 178 = .ok (.invokevirtual 186, 3) := dAt (x := (178, .invokevirtual 186, 3)) DX5_formula_1 34 rfl
theorem dX5_formula_181 : decode cX5_formula 181 = .ok (.ifCond .ne 31, 3) := dAt (x := (181, .ifCond .ne 31, 3)) DX5_formula_1 35 rfl
theorem dX5_formula_184 : decode cX5_formula 184 = .ok (.iconst 0, 1) := dAt (x := (184, .iconst 0, 1)) DX5_formula_1 36 rfl
theorem dX5_formula_185 : decode cX5_formula 185 = .ok (.ireturn, 1) := dAt (x := (185, .ireturn, 1)) DX5_formula_1 37 rfl
theorem dX5_formula_186 : decode cX5_formula 186 = .ok (.iload_n 1, 1) := dAt (x := (186, .iload_n 1, 1)) DX5_formula_1 38 rfl
theorem dX5_formula_187 : decode cX5_formula 187 = .ok (.iconst (-1), 1) := dAt (x := (187, .iconst (-1), 1)) DX5_formula_1 39 rfl
theorem dX5_formula_188 : decode cX5_formula 188 = .ok (.if_icmp .ne 13, 3) := dAt (x := (188, .if_icmp .ne 13, 3)) DX5_formula_1 40 rfl
theorem dX5_formula_191 : decode cX5_formula 191 = .ok (.aload_n 0, 1) := dAt (x := (191, .aload_n 0, 1)) DX5_formula_1 41 rfl
theorem dX5_formula_192 : decode cX5_formula 192 = .ok (.invokevirtual 189, 3) := dAt (x := (192, .invokevirtual 189, 3)) DX5_formula_1 42 rfl
theorem dX5_formula_195 : decode cX5_formula 195 = .ok (.ifCond .ne 15, 3) := dAt (x := (195, .ifCond .ne 15, 3)) DX5_formula_1 43 rfl
theorem dX5_formula_198 : decode cX5_formula 198 = .ok (.goto 10, 3) := dAt (x := (198, .goto 10, 3)) DX5_formula_1 44 rfl
theorem dX5_formula_201 : decode cX5_formula 201 = .ok (.aload_n 0, 1) := dAt (x := (201, .aload_n 0, 1)) DX5_formula_1 45 rfl
theorem dX5_formula_202 : decode cX5_formula 202 = .ok (.invokevirtual 192, 3) := dAt (x := (202, .invokevirtual 192, 3)) DX5_formula_1 46 rfl
theorem dX5_formula_205 : decode cX5_formula 205 = .ok (.ifCond .ne 5, 3) := dAt (x := (205, .ifCond .ne 5, 3)) DX5_formula_1 47 rfl
theorem dX5_formula_208 : decode cX5_formula 208 = .ok (.iconst 0, 1) := dAt (x := (208, .iconst 0, 1)) DX5_formula_1 48 rfl
theorem dX5_formula_209 : decode cX5_formula 209 = .ok (.ireturn, 1) := dAt (x := (209, .ireturn, 1)) DX5_formula_1 49 rfl
theorem dX5_formula_210 : decode cX5_formula 210 = .ok (.iconst 0, 1) := dAt (x := (210, .iconst 0, 1)) DX5_formula_1 50 rfl
theorem dX5_formula_211 : decode cX5_formula 211 = .ok (.istore_n 2, 1) := dAt (x := (211, .istore_n 2, 1)) DX5_formula_1 51 rfl
theorem dX5_formula_212 : decode cX5_formula 212 = .ok (.aload_n 0, 1) := dAt (x := (212, .aload_n 0, 1)) DX5_formula_1 52 rfl
theorem dX5_formula_213 : decode cX5_formula 213 = .ok (.getfield 12, 3) := dAt (x := (213, .getfield 12, 3)) DX5_formula_1 53 rfl
theorem dX5_formula_216 : decode cX5_formula 216 = .ok (.invokevirtual 79, 3) := dAt (x := (216, .invokevirtual 79, 3)) DX5_formula_1 54 rfl
theorem dX5_formula_219 : decode cX5_formula 219 = .ok (.iinc 3 1, 3) := dAt (x := (219, .iinc 3 1, 3)) DX5_formula_1 55 rfl
theorem dX5_formula_222 : decode cX5_formula 222 = .ok (.goto (-203), 3) := dAt (x := (222, .goto (-203), 3)) DX5_formula_1 56 rfl
theorem dX5_formula_225 : decode cX5_formula 225 = .ok (.aload_n 0, 1) := dAt (x := (225, .aload_n 0, 1)) DX5_formula_1 57 rfl
theorem dX5_formula_226 : decode cX5_formula 226 = .ok (.iconst 1, 1) := dAt (x := (226, .iconst 1, 1)) DX5_formula_1 58 rfl
theorem dX5_formula_227 : decode cX5_formula 227 = .ok (.invokevirtual 75, 3) := dAt (x := (227, .invokevirtual 75, 3)) DX5_formula_1 59 rfl
def lDX5_formula_2 : List (Nat × Instr × Nat) := [(230, .ireturn, 1)]
theorem DX5_formula_2 : dAll cX5_formula lDX5_formula_2 = true := by decide +kernel
theorem dX5_formula_230 : decode cX5_formula 230 = .ok (.ireturn, 1) := dAt (x := (230, .ireturn, 1)) DX5_formula_2 0 rfl
def lDX5_prefix_0 : List (Nat × Instr × Nat) := [(0, .aload_n 0, 1), (1, .getfield 12, 3), (4, .getfield 56, 3), (7, .bipush 25, 2), (9, .if_icmp .ne 36, 3), (12, .aload_n 0, 1), (13, .getfield 173, 3), (16, .bipush 8, 2), (18, .if_icmp .lt 9, 3), (21, .aload_n 0, 1), (22, .iconst 2, 1), (23, .invokevirtual 75, 3), (26, .ireturn, 1), (27, .aload_n 0, 1), (28, .dup, 1), (29, .getfield 173, 3), (32, .iconst 1, 1), (33, .iadd, 1), (34, .putfield 173, 3), (37, .aload_n 0, 1), (38, .bipush 25, 2), (40, .invokevirtual 195, 3), (43, .iconst 1, 1), (44, .ireturn, 1), (45, .aload_n 0, 1), (46, .getfield 170, 3), (49, .ifCond .le 27, 3), (52, .aload_n 0, 1), (53, .getfield 25, 3), (56, .aload_n 0, 1), (57, .getfield 170, 3), (60, .iconst 1, 1), (61, .isub, 1), (62, .iaload, 1), (63, .invokestatic 198, 3), (66, .iconst 3, 1), (67, .if_icmp .le 9, 3), (70, .aload_n 0, 1), (71, .iconst 1, 1), (72, .invokevirtual 75, 3), (75, .ireturn, 1), (76, .aload_n 0, 1), (77, .invokevirtual 201, 3), (80, .ifCond .ne 5, 3), (83, .iconst 0, 1), (84, .ireturn, 1), (85, .aload_n 0, 1), (86, .bipush 12, 2), (88, .invokevirtual 195, 3), (91, .iconst 1, 1), (92, .ireturn, 1)]
theorem DX5_prefix_0 : dAll cX5_prefix lDX5_prefix_0 = true := by decide +kernel
theorem dX5_prefix_0 : decode cX5_prefix 0 = .ok (.aload_n 0, 1) := dAt (x := (0, .aload_n 0, 1)) DX5_prefix_0 0 rfl
theorem dX5_prefix_1 : decode cX5_prefix 1 = .ok (.getfield 12, 3) := dAt (x := (1, .getfield 12, 3)) DX5_prefix_0 1 rfl
theorem dX5_prefix_4 : decode cX5_prefix 4 = .ok (.getfield 56, 3) := dAt (x := (4, .getfield 56, 3)) DX5_prefix_0 2 rfl
theorem dX5_prefix_7 : decode cX5_prefix 7 = .ok (.bipush 25, 2) := dAt (x := (7, .bipush 25, 2)) DX5_prefix_0 3 rfl
theorem dX5_prefix_9 : decode cX5_prefix 9 = .ok (.if_icmp .ne 36, 3) := dAt (x := (9, .if_icmp .ne 36, 3)) DX5_prefix_0 4 rfl
theorem dX5_prefix_12 : decode cX5_prefix 12 = .ok (.aload_n 0, 1) := dAt (x := (12, .aload_n 0, 1)) DX5_prefix_0 5 rfl
theorem dX5_prefix_13 : decode cX5_prefix 13 = .ok (.getfield 173, 3) := dAt (x := (13, .getfield 173, 3)) DX5_prefix_0 6 rfl
theorem dX5_prefix_16 : decode cX5_prefix 16 = .ok (.bipush 8, 2) := dAt (x := (16, .bipush 8, 2)) DX5_prefix_0 7 rfl
theorem dX5_prefix_18 : decode cX5_prefix 18 = .ok (.if_icmp .lt 9, 3) := dAt (x := (18, .if_icmp .lt 9, 3)) DX5_prefix_0 8 rfl
theorem dX5_prefix_21 : decode cX5_prefix 21 = .ok (.aload_n 0, 1) := dAt (x := (21, .aload_n 0, 1)) DX5_prefix_0 9 rfl
theorem dX5_prefix_22 : decode cX5_prefix 22 = .ok (.iconst 2, 1) := dAt (x := (22, .iconst 2, 1)) DX5_prefix_0 10 rfl
theorem dX5_prefix_23 : decode cX5_prefix 23 = .ok (.invokevirtual 75, 3) := dAt (x := (23, .invokevirtual 75, 3)) DX5_prefix_0 11 rfl
theorem dX5_prefix_26 : decode cX5_prefix 26 = .ok (.ireturn, 1) := dAt (x := (26, .ireturn, 1)) DX5_prefix_0 12 rfl
theorem dX5_prefix_27 : decode cX5_prefix 27 = .ok (.aload_n 0, 1) := dAt (x := (27, .aload_n 0, 1)) DX5_prefix_0 13 rfl
theorem dX5_prefix_28 : decode cX5_prefix 28 = .ok (.dup, 1) := dAt (x := (28, .dup, 1)) DX5_prefix_0 14 rfl
theorem dX5_prefix_29 : decode cX5_prefix 29 = .ok (.getfield 173, 3) := dAt (x := (29, .getfield 173, 3)) DX5_prefix_0 15 rfl
theorem dX5_prefix_32 : decode cX5_prefix 32 = .ok (.iconst 1, 1) := dAt (x := (32, .iconst 1, 1)) DX5_prefix_0 16 rfl
theorem dX5_prefix_33 : decode cX5_prefix 33 = .ok (.iadd, 1) := dAt (x := (33, .iadd, 1)) DX5_prefix_0 17 rfl
theorem dX5_prefix_34 : decode cX5_prefix 34 = .ok (.putfield 173, 3) := dAt (x := (34, .putfield 173, 3)) DX5_prefix_0 18 rfl
theorem dX5_prefix_37 : decode cX5_prefix 37 = .ok (.aload_n 0, 1) := dAt (x := (37, .aload_n 0, 1)) DX5_prefix_0 19 rfl
theorem dX5_prefix_38 : decode cX5_prefix 38 = .ok (.bipush 25, 2) := dAt (x := (38, .bipush 25, 2)) DX5_prefix_0 20 rfl
theorem dX5_prefix_40 : decode cX5_prefix 40 = .ok (.invokevirtual 195, 3) := dAt (x := (40, .invokevirtual 195, 3)) DX5_prefix_0 21 rfl
theorem dX5_prefix_43 : decode cX5_prefix 43 = .ok (.iconst 1, 1) := dAt (x := (43, .iconst 1, 1)) DX5_prefix_0 22 rfl
theorem dX5_prefix_44 : decode cX5_prefix 44 = .ok (.ireturn, 1) := dAt (x := (44, .ireturn, 1)) DX5_prefix_0 23 rfl
theorem dX5_prefix_45 : decode cX5_prefix 45 = .ok (.aload_n 0, 1) := dAt (x := (45, .aload_n 0, 1)) DX5_prefix_0 24 rfl
theorem dX5_prefix_46 : decode cX5_prefix 46 = .ok (.getfield 170, 3) := dAt (x := (46, .getfield 170, 3)) DX5_prefix_0 25 rfl
theorem dX5_prefix_49 : decode cX5_prefix 49 = .ok (.ifCond .le 27, 3) := dAt (x := (49, .ifCond .le 27, 3)) DX5_prefix_0 26 rfl
theorem dX5_prefix_52 : decode cX5_prefix 52 = .ok (.aload_n 0, 1) := dAt (x := (52, .aload_n 0, 1)) DX5_prefix_0 27 rfl
theorem dX5_prefix_53 : decode cX5_prefix 53 = .ok (.getfield 25, 3) := dAt (x := (53, .getfield 25, 3)) DX5_prefix_0 28 rfl
theorem dX5_prefix_56 : decode cX5_prefix 56 = .ok (.aload_n 0, 1) := dAt (x := (56, .aload_n 0, 1)) DX5_prefix_0 29 rfl
theorem dX5_prefix_57 : decode cX5_prefix 57 = .ok (.getfield 170, 3) := dAt (x := (57, .getfield 170, 3)) DX5_prefix_0 30 rfl
theorem dX5_prefix_60 : decode cX5_prefix 60 = .ok (.iconst 1, 1) := dAt (x := (60, .iconst 1, 1)) DX5_prefix_0 31 rfl
theorem dX5_prefix_61 : decode cX5_prefix 61 = .ok (.isub, 1) := dAt (x := (61, .isub, 1)) DX5_prefix_0 32 rfl
theorem dX5_prefix_62 : decode cX5_prefix 62 = .ok (.iaload, 1) := dAt (x := (62, .iaload, 1)) DX5_prefix_0 33 rfl
theorem dX5_prefix_63 : decode cX5_prefix 63 = .ok (.invokestatic 198, 3) := dAt (x := (63, .invokestatic 198, 3)) DX5_prefix_0 34 rfl
theorem dX5_prefix_66 : decode cX5_prefix 66 = .ok (.iconst 3, 1) := dAt (x := (66, .iconst 3, 1)) DX5_prefix_0 35 rfl
theorem dX5_prefix_67 : decode cX5_prefix 67 = .ok (.if_icmp .le 9, 3) := dAt (x := (67, .if_icmp .le 9, 3)) DX5_prefix_0 36 rfl
theorem dX5_prefix_70 : decode cX5_prefix 70 = .ok (.aload_n 0, 1) := dAt (x := (70, .aload_n 0, 1)) DX5_prefix_0 37 rfl
theorem dX5_prefix_71 : decode cX5_prefix 71 = .ok (.iconst 1, 1) := dAt (x := (71, .iconst 1, 1)) DX5_prefix_0 38 rfl
theorem dX5_prefix_72 : decode cX5_prefix 72 = .ok (.invokevirtual 75, 3) := dAt (x := (72, .invokevirtual 75, 3)) DX5_prefix_0 39 rfl
theorem dX5_prefix_75 : decode cX5_prefix 75 = .ok (.ireturn, 1) := dAt (x := (75, .ireturn, 1)) DX5_prefix_0 40 rfl
theorem dX5_prefix_76 : decode cX5_prefix 76 = .ok (.aload_n 0, 1) := dAt (x := (76, .aload_n 0, 1)) DX5_prefix_0 41 rfl
theorem dX5_prefix_77 : decode cX5_prefix 77 = .ok (.invokevirtual 201, 3) := dAt (x := (77, .invokevirtual 201, 3)) DX5_prefix_0 42 rfl
theorem dX5_prefix_80 : decode cX5_prefix 80 = .ok (.ifCond .ne 5, 3) := dAt (x := (80, .ifCond .ne 5, 3)) DX5_prefix_0 43 rfl
theorem dX5_prefix_83 : decode cX5_prefix 83 = .ok (.iconst 0, 1) := dAt (x := (83, .iconst 0, 1)) DX5_prefix_0 44 rfl
theorem dX5_prefix_84 : decode cX5_prefix 84 = .ok (.ireturn, 1) := dAt (x := (84, .ireturn, 1)) DX5_prefix_0 45 rfl
theorem dX5_prefix_85 : decode cX5_prefix 85 = .ok (.aload_n 0, 1) := dAt (x := (85, .aload_n 0, 1)) DX5_prefix_0 46 rfl
theorem dX5_prefix_86 : decode cX5_prefix 86 = .ok (.bipush 12, 2) := dAt (x := (86, .bipush 12, 2)) DX5_prefix_0 47 rfl
theorem dX5_prefix_88 : decode cX5_prefix 88 = .ok (.invokevirtual 195, 3) := dAt (x := (88, .invokevirtual 195, 3)) DX5_prefix_0 48 rfl
theorem dX5_prefix_91 : decode cX5_prefix 91 = .ok (.iconst 1, 1) := dAt (x := (91, .iconst 1, 1)) DX5_prefix_0 49 rfl
theorem dX5_prefix_92 : decode cX5_prefix 92 = .ok (.ireturn, 1) := dAt (x := (92, .ireturn, 1)) DX5_prefix_0 50 rfl
def lDX5_joins_0 : List (Nat × Instr × Nat) := [(0, .aload_n 0, 1), (1, .getfield 12, 3), (4, .getfield 56, 3), (7, .istore_n 2, 1), (8, .iload_n 2, 1), (9, .invokestatic 198, 3), (12, .istore_n 3, 1), (13, .iload_n 3, 1), (14, .ifCond .eq 18, 3), (17, .iload_n 2, 1), (18, .bipush 12, 2), (20, .if_icmp .eq 12, 3), (23, .iload_n 1, 1), (24, .ifCond .ne 14, 3), (27, .iload_n 3, 1), (28, .iconst 4, 1), (29, .if_icmp .lt 9, 3), (32, .aload_n 0, 1), (33, .iconst 1, 1), (34, .invokevirtual 75, 3), (37, .ireturn, 1), (38, .aload_n 0, 1), (39, .iload_n 3, 1), (40, .iconst 4, 1), (41, .if_icmp .ne 9, 3), (44, .iload_n 3, 1), (45, .iconst 1, 1), (46, .iadd, 1), (47, .goto 4, 3), (50, .iload_n 3, 1), (51, .invokevirtual 179, 3), (54, .iload_n 3, 1), (55, .iconst 4, 1), (56, .if_icmp .ne 34, 3), (59, .aload_n 0, 1), (60, .getfield 170, 3), (63, .ifCond .le 27, 3), (66, .aload_n 0, 1), (67, .getfield 25, 3), (70, .aload_n 0, 1), (71, .getfield 170, 3), (74, .iconst 1, 1), (75, .isub, 1), (76, .iaload, 1), (77, .invokestatic 198, 3), (80, .iconst 4, 1), (81, .if_icmp .ne 9, 3), (84, .aload_n 0, 1), (85, .iconst 1, 1), (86, .invokevirtual 75, 3), (89, .ireturn, 1), (90, .aload_n 0, 1), (91, .invokevirtual 201, 3), (94, .ifCond .ne 5, 3), (97, .iconst 0, 1), (98, .ireturn, 1), (99, .aload_n 0, 1), (100, .iload_n 2, 1), (101, .invokevirtual 195, 3), (104, .iconst 1, 1)]
theorem DX5_joins_0 : dAll cX5_joins lDX5_joins_0 = true := by decide +kernel
theorem dX5_joins_0 : decode cX5_joins 0 = .ok (.aload_n 0, 1) := dAt (x := (0, .aload_n 0, 1)) DX5_joins_0 0 rfl
theorem dX5_joins_1 : decode cX5_joins 1 = .ok (.getfield 12, 3) := dAt (x := (1, .getfield 12, 3)) DX5_joins_0 1 rfl
theorem dX5_joins_4 : decode cX5_joins 4 = .ok (.getfield 56, 3) := dAt (x := (4, .getfield 56, 3)) DX5_joins_0 2 rfl
theorem dX5_joins_7 : decode cX5_joins 7 = .ok (.istore_n 2, 1) := dAt (x := (7, .istore_n 2, 1)) DX5_joins_0 3 rfl
theorem dX5_joins_8 : decode cX5_joins 8 = .ok (.iload_n 2, 1) := dAt (x := (8, .iload_n 2, 1)) DX5_joins_0 4 rfl
theorem dX5_joins_9 : decode cX5_joins 9 = .ok (.invokestatic 198, 3) := dAt (x := (9, .invokestatic 198, 3)) DX5_joins_0 5 rfl
theorem dX5_joins_12 : decode cX5_joins 12 = .ok (.istore_n 3, 1) := dAt (x := (12, .istore_n 3, 1)) DX5_joins_0 6 rfl
theorem dX5_joins_13 : decode cX5_joins 13 = .ok (.iload_n 3, 1) := dAt (x := (13, .iload_n 3, 1)) DX5_joins_0 7 rfl
theorem dX5_joins_14 : decode cX5_joins 14 = .ok (.ifCond .eq 18, 3) := dAt (x := (14, .ifCond .eq 18, 3)) DX5_joins_0 8 rfl
theorem dX5_joins_17 : decode cX5_joins 17 = .ok (.iload_n 2, 1) := dAt (x := (17, .iload_n 2, 1)) DX5_joins_0 9 rfl
theorem dX5_joins_18 : decode cX5_joins 18 = .ok (.bipush 12, 2) := dAt (x := (18, .bipush 12, 2)) DX5_joins_0 10 rfl
theorem dX5_joins_20 : decode cX5_joins 20 = .ok (.if_icmp .eq 12, 3) := dAt (x := (20, .if_icmp .eq 12, 3)) DX5_joins_0 11 rfl
theorem dX5_joins_23 : decode cX5_joins 23 = .ok (.iload_n 1, 1) := dAt (x := (23, .iload_n 1, 1)) DX5_joins_0 12 rfl
theorem dX5_joins_24 : decode cX5_joins 24 = .ok (.ifCond .ne 14, 3) := dAt (x := (24, .ifCond .ne 14, 3)) DX5_joins_0 13 rfl
theorem dX5_joins_27 : decode cX5_joins 27 = .ok (.iload_n 3, 1) := dAt (x := (27, .iload_n 3, 1)) DX5_joins_0 14 rfl
theorem dX5_joins_28 : decode cX5_joins 28 = .ok (.iconst 4, 1) := dAt (x := (28, .iconst 4, 1)) DX5_joins_0 15 rfl
theorem dX5_joins_29 : decode cX5_joins 29 = .ok (.if_icmp .lt 9, 3) := dAt (x := (29, .if_icmp .lt 9, 3)) DX5_joins_0 16 rfl
theorem dX5_joins_32 : decode cX5_joins 32 = .ok (.aload_n 0, 1) := dAt (x := (32, .aload_n 0, 1)) DX5_joins_0 17 rfl
theorem dX5_joins_33 : decode cX5_joins 33 = .ok (.iconst 1, 1) := dAt (x := (33, .iconst 1, 1)) DX5_joins_0 18 rfl
theorem dX5_joins_34 : decode cX5_joins 34 = .ok (.invokevirtual 75, 3) := dAt (x := (34, .invokevirtual 75, 3)) DX5_joins_0 19 rfl
theorem dX5_joins_37 : decode cX5_joins 37 = .ok (.ireturn, 1) := dAt (x := (37, .ireturn, 1)) DX5_joins_0 20 rfl
theorem dX5_joins_38 : decode cX5_joins 38 = .ok (.aload_n 0, 1) := dAt (x := (38, .aload_n 0, 1)) DX5_joins_0 21 rfl
theorem dX5_joins_39 : decode cX5_joins 39 = .ok (.iload_n 3, 1) := dAt (x := (39, .iload_n 3, 1)) DX5_joins_0 22 rfl
theorem dX5_joins_40 : decode cX5_joins 40 = .ok (.iconst 4, 1) := dAt (x := (40, .iconst 4, 1)) DX5_joins_0 23 rfl
theorem dX5_joins_41 : decode cX5_joins 41 = .ok (.if_icmp .ne 9, 3) := dAt (x := (41, .if_icmp .ne 9, 3)) DX5_joins_0 24 rfl
theorem dX5_joins_44 : decode cX5_joins 44 = .ok (.iload_n 3, 1) := dAt (x := (44, .iload_n 3, 1)) DX5_joins_0 25 rfl
theorem dX5_joins_45 : decode cX5_joins 45 = .ok (.iconst 1, 1) := dAt (x := (45, .iconst 1, 1)) DX5_joins_0 26 rfl
theorem dX5_joins_46 : decode cX5_joins 46 = .ok (.iadd, 1) := dAt (x := (46, .iadd, 1)) DX5_joins_0 27 rfl
theorem dX5_joins_47 : decode cX5_joins 47 = .ok (.goto 4, 3) := dAt (x := (47, .goto 4, 3)) DX5_joins_0 28 rfl
theorem dX5_joins_50 : decode cX5_joins 50 = .ok (.iload_n 3, 1) := dAt (x := (50, .iload_n 3, 1)) DX5_joins_0 29 rfl
theorem dX5_joins_51 : decode cX5_joins 51 = .ok (.invokevirtual 179, 3) := dAt (x := (51, .invokevirtual 179, 3)) DX5_joins_0 30 rfl
theorem dX5_joins_54 : decode cX5_joins 54 = .ok (.iload_n 3, 1) := dAt (x := (54, .iload_n 3, 1)) DX5_joins_0 31 rfl
theorem dX5_joins_55 : decode cX5_joins 55 = .ok (.iconst 4, 1) := dAt (x := (55, .iconst 4, 1)) DX5_joins_0 32 rfl
theorem dX5_joins_56 : decode cX5_joins 56 = .ok (.if_icmp .ne 34, 3) := dAt (x := (56, .if_icmp .ne 34, 3)) DX5_joins_0 33 rfl
theorem dX5_joins_59 : decode cX5_joins 59 = .ok (.aload_n 0, 1) := dAt (x := (59, .aload_n 0, 1)) DX5_joins_0 34 rfl
theorem dX5_joins_60 : decode cX5_joins 60 = .ok (.getfield 170, 3) := dAt (x := (60, .getfield 170, 3)) DX5_joins_0 35 rfl
theorem dX5_joins_63 : decode cX5_joins 63 = .ok (.ifCond .le 27, 3) := dAt (x := (63, .ifCond .le 27, 3)) DX5_joins_0 36 rfl
theorem dX5_joins_66 : decode cX5_joins 66 = .ok (.aload_n 0, 1) := dAt (x := (66, .aload_n 0, 1)) DX5_joins_0 37 rfl
theorem dX5_joins_67 : decode cX5_joins 67 = .ok (.getfield 25, 3) := dAt (x := (67, .getfield 25, 3)) DX5_joins_0 38 rfl
theorem dX5_joins_70 : decode cX5_joins 70 = .ok (.aload_n 0, 1) := dAt (x := (70, .aload_n 0, 1)) DX5_joins_0 39 rfl
theorem dX5_joins_71 : decode cX5_joins 71 = .ok (.getfield 170, 3) := dAt (x := (71, .getfield 170, 3)) DX5_joins_0 40 rfl
theorem dX5_joins_74 : decode cX5_joins 74 = .ok (.iconst 1, 1) := dAt (x := (74, .iconst 1, 1)) DX5_joins_0 41 rfl
theorem dX5_joins_75 : decode cX5_joins 75 = .ok (.isub, 1) := dAt (x := (75, .isub, 1)) DX5_joins_0 42 rfl
theorem dX5_joins_76 : decode cX5_joins 76 = .ok (.iaload, 1) := dAt (x := (76, .iaload, 1)) DX5_joins_0 43 rfl
theorem dX5_joins_77 : decode cX5_joins 77 = .ok (.invokestatic 198, 3) := dAt (x := (77, .invokestatic 198, 3)) DX5_joins_0 44 rfl
theorem dX5_joins_80 : decode cX5_joins 80 = .ok (.iconst 4, 1) := dAt (x := (80, .iconst 4, 1)) DX5_joins_0 45 rfl
theorem dX5_joins_81 : decode cX5_joins 81 = .ok (.if_icmp .ne 9, 3) := dAt (x := (81, .if_icmp .ne 9, 3)) DX5_joins_0 46 rfl
theorem dX5_joins_84 : decode cX5_joins 84 = .ok (.aload_n 0, 1) := dAt (x := (84, .aload_n 0, 1)) DX5_joins_0 47 rfl
theorem dX5_joins_85 : decode cX5_joins 85 = .ok (.iconst 1, 1) := dAt (x := (85, .iconst 1, 1)) DX5_joins_0 48 rfl
theorem dX5_joins_86 : decode cX5_joins 86 = .ok (.invokevirtual 75, 3) := dAt (x := (86, .invokevirtual 75, 3)) DX5_joins_0 49 rfl
theorem dX5_joins_89 : decode cX5_joins 89 = .ok (.ireturn, 1) := dAt (x := (89, .ireturn, 1)) DX5_joins_0 50 rfl
theorem dX5_joins_90 : decode cX5_joins 90 = .ok (.aload_n 0, 1) := dAt (x := (90, .aload_n 0, 1)) DX5_joins_0 51 rfl
theorem dX5_joins_91 : decode cX5_joins 91 = .ok (.invokevirtual 201, 3) := dAt (x := (91, .invokevirtual 201, 3)) DX5_joins_0 52 rfl
theorem dX5_joins_94 : decode cX5_joins 94 = .ok (.ifCond .ne 5, 3) := dAt (x := (94, .ifCond .ne 5, 3)) DX5_joins_0 53 rfl
theorem dX5_joins_97 : decode cX5_joins 97 = .ok (.iconst 0, 1) := dAt (x := (97, .iconst 0, 1)) DX5_joins_0 54 rfl
theorem dX5_joins_98 : decode cX5_joins 98 = .ok (.ireturn, 1) := dAt (x := (98, .ireturn, 1)) DX5_joins_0 55 rfl
theorem dX5_joins_99 : decode cX5_joins 99 = .ok (.aload_n 0, 1) := dAt (x := (99, .aload_n 0, 1)) DX5_joins_0 56 rfl
theorem dX5_joins_100 : decode cX5_joins 100 = .ok (.iload_n 2, 1) := dAt (x := (100, .iload_n 2, 1)) DX5_joins_0 57 rfl
theorem dX5_joins_101 : decode cX5_joins 101 = .ok (.invokevirtual 195, 3) := dAt (x := (101, .invokevirtual 195, 3)) DX5_joins_0 58 rfl
theorem dX5_joins_104 : decode cX5_joins 104 = .ok (.iconst 1, 1) := dAt (x := (104, .iconst 1, 1)) DX5_joins_0 59 rfl
def lDX5_joins_1 : List (Nat × Instr × Nat) := [(105, .ireturn, 1)]
theorem DX5_joins_1 : dAll cX5_joins lDX5_joins_1 = true := by decide +kernel
theorem dX5_joins_105 : decode cX5_joins 105 = .ok (.ireturn, 1) := dAt (x := (105, .ireturn, 1)) DX5_joins_1 0 rfl
def lDX5_counts_0 : List (Nat × Instr × Nat) := [(0, .aload_n 0, 1), (1, .getfield 39, 3), (4, .bipush 64, 2), (6, .if_icmp .lt 9, 3), (9, .aload_n 0, 1), (10, .iconst 2, 1), (11, .invokevirtual 75, 3), (14, .ireturn, 1), (15, .aload_n 0, 1), (16, .dup, 1), (17, .getfield 39, 3), (20, .iconst 1, 1), (21, .iadd, 1), (22, .putfield 39, 3), (25, .iconst 1, 1), (26, .ireturn, 1)]
theorem DX5_counts_0 : dAll cX5_counts lDX5_counts_0 = true := by decide +kernel
theorem dX5_counts_0 : decode cX5_counts 0 = .ok (.aload_n 0, 1) := dAt (x := (0, .aload_n 0, 1)) DX5_counts_0 0 rfl
theorem dX5_counts_1 : decode cX5_counts 1 = .ok (.getfield 39, 3) := dAt (x := (1, .getfield 39, 3)) DX5_counts_0 1 rfl
theorem dX5_counts_4 : decode cX5_counts 4 = .ok (.bipush 64, 2) := dAt (x := (4, .bipush 64, 2)) DX5_counts_0 2 rfl
theorem dX5_counts_6 : decode cX5_counts 6 = .ok (.if_icmp .lt 9, 3) := dAt (x := (6, .if_icmp .lt 9, 3)) DX5_counts_0 3 rfl
theorem dX5_counts_9 : decode cX5_counts 9 = .ok (.aload_n 0, 1) := dAt (x := (9, .aload_n 0, 1)) DX5_counts_0 4 rfl
theorem dX5_counts_10 : decode cX5_counts 10 = .ok (.iconst 2, 1) := dAt (x := (10, .iconst 2, 1)) DX5_counts_0 5 rfl
theorem dX5_counts_11 : decode cX5_counts 11 = .ok (.invokevirtual 75, 3) := dAt (x := (11, .invokevirtual 75, 3)) DX5_counts_0 6 rfl
theorem dX5_counts_14 : decode cX5_counts 14 = .ok (.ireturn, 1) := dAt (x := (14, .ireturn, 1)) DX5_counts_0 7 rfl
theorem dX5_counts_15 : decode cX5_counts 15 = .ok (.aload_n 0, 1) := dAt (x := (15, .aload_n 0, 1)) DX5_counts_0 8 rfl
theorem dX5_counts_16 : decode cX5_counts 16 = .ok (.dup, 1) := dAt (x := (16, .dup, 1)) DX5_counts_0 9 rfl
theorem dX5_counts_17 : decode cX5_counts 17 = .ok (.getfield 39, 3) := dAt (x := (17, .getfield 39, 3)) DX5_counts_0 10 rfl
theorem dX5_counts_20 : decode cX5_counts 20 = .ok (.iconst 1, 1) := dAt (x := (20, .iconst 1, 1)) DX5_counts_0 11 rfl
theorem dX5_counts_21 : decode cX5_counts 21 = .ok (.iadd, 1) := dAt (x := (21, .iadd, 1)) DX5_counts_0 12 rfl
theorem dX5_counts_22 : decode cX5_counts 22 = .ok (.putfield 39, 3) := dAt (x := (22, .putfield 39, 3)) DX5_counts_0 13 rfl
theorem dX5_counts_25 : decode cX5_counts 25 = .ok (.iconst 1, 1) := dAt (x := (25, .iconst 1, 1)) DX5_counts_0 14 rfl
theorem dX5_counts_26 : decode cX5_counts 26 = .ok (.ireturn, 1) := dAt (x := (26, .ireturn, 1)) DX5_counts_0 15 rfl
def lDX5_addPending_0 : List (Nat × Instr × Nat) := [(0, .aload_n 0, 1), (1, .getfield 170, 3), (4, .aload_n 0, 1), (5, .getfield 25, 3), (8, .arraylength, 1), (9, .if_icmp .ge 23, 3), (12, .aload_n 0, 1), (13, .getfield 25, 3), (16, .aload_n 0, 1), (17, .getfield 170, 3), (20, .iload_n 1, 1), (21, .iastore, 1), (22, .aload_n 0, 1), (23, .dup, 1), (24, .getfield 170, 3), (27, .iconst 1, 1), (28, .iadd, 1), (29, .putfield 170, 3), (32, .return_, 1)]
theorem DX5_addPending_0 : dAll cX5_addPending lDX5_addPending_0 = true := by decide +kernel
theorem dX5_addPending_0 : decode cX5_addPending 0 = .ok (.aload_n 0, 1) := dAt (x := (0, .aload_n 0, 1)) DX5_addPending_0 0 rfl
theorem dX5_addPending_1 : decode cX5_addPending 1 = .ok (.getfield 170, 3) := dAt (x := (1, .getfield 170, 3)) DX5_addPending_0 1 rfl
theorem dX5_addPending_4 : decode cX5_addPending 4 = .ok (.aload_n 0, 1) := dAt (x := (4, .aload_n 0, 1)) DX5_addPending_0 2 rfl
theorem dX5_addPending_5 : decode cX5_addPending 5 = .ok (.getfield 25, 3) := dAt (x := (5, .getfield 25, 3)) DX5_addPending_0 3 rfl
theorem dX5_addPending_8 : decode cX5_addPending 8 = .ok (.arraylength, 1) := dAt (x := (8, .arraylength, 1)) DX5_addPending_0 4 rfl
theorem dX5_addPending_9 : decode cX5_addPending 9 = .ok (.if_icmp .ge 23, 3) := dAt (x := (9, .if_icmp .ge 23, 3)) DX5_addPending_0 5 rfl
theorem dX5_addPending_12 : decode cX5_addPending 12 = .ok (.aload_n 0, 1) := dAt (x := (12, .aload_n 0, 1)) DX5_addPending_0 6 rfl
theorem dX5_addPending_13 : decode cX5_addPending 13 = .ok (.getfield 25, 3) := dAt (x := (13, .getfield 25, 3)) DX5_addPending_0 7 rfl
theorem dX5_addPending_16 : decode cX5_addPending 16 = .ok (.aload_n 0, 1) := dAt (x := (16, .aload_n 0, 1)) DX5_addPending_0 8 rfl
theorem dX5_addPending_17 : decode cX5_addPending 17 = .ok (.getfield 170, 3) := dAt (x := (17, .getfield 170, 3)) DX5_addPending_0 9 rfl
theorem dX5_addPending_20 : decode cX5_addPending 20 = .ok (.iload_n 1, 1) := dAt (x := (20, .iload_n 1, 1)) DX5_addPending_0 10 rfl
theorem dX5_addPending_21 : decode cX5_addPending 21 = .ok (.iastore, 1) := dAt (x := (21, .iastore, 1)) DX5_addPending_0 11 rfl
theorem dX5_addPending_22 : decode cX5_addPending 22 = .ok (.aload_n 0, 1) := dAt (x := (22, .aload_n 0, 1)) DX5_addPending_0 12 rfl
theorem dX5_addPending_23 : decode cX5_addPending 23 = .ok (.dup, 1) := dAt (x := (23, .dup, 1)) DX5_addPending_0 13 rfl
theorem dX5_addPending_24 : decode cX5_addPending 24 = .ok (.getfield 170, 3) := dAt (x := (24, .getfield 170, 3)) DX5_addPending_0 14 rfl
theorem dX5_addPending_27 : decode cX5_addPending 27 = .ok (.iconst 1, 1) := dAt (x := (27, .iconst 1, 1)) DX5_addPending_0 15 rfl
theorem dX5_addPending_28 : decode cX5_addPending 28 = .ok (.iadd, 1) := dAt (x := (28, .iadd, 1)) DX5_addPending_0 16 rfl
theorem dX5_addPending_29 : decode cX5_addPending 29 = .ok (.putfield 170, 3) := dAt (x := (29, .putfield 170, 3)) DX5_addPending_0 17 rfl
theorem dX5_addPending_32 : decode cX5_addPending 32 = .ok (.return_, 1) := dAt (x := (32, .return_, 1)) DX5_addPending_0 18 rfl
def lDX5_settlePending_0 : List (Nat × Instr × Nat) := [(0, .aload_n 0, 1), (1, .getfield 170, 3), (4, .ifCond .le 54, 3), (7, .aload_n 0, 1), (8, .getfield 25, 3), (11, .aload_n 0, 1), (12, .getfield 170, 3), (15, .iconst 1, 1), (16, .isub, 1), (17, .iaload, 1), (18, .invokestatic 198, 3), (21, .iload_n 1, 1), (22, .if_icmp .lt 36, 3), (25, .aload_n 0, 1), (26, .dup, 1), (27, .getfield 170, 3), (30, .iconst 1, 1), (31, .isub, 1), (32, .putfield 170, 3), (35, .aload_n 0, 1), (36, .getfield 21, 3), (39, .getfield 126, 3), (42, .aload_n 0, 1), (43, .getfield 25, 3), (46, .aload_n 0, 1), (47, .getfield 170, 3), (50, .iaload, 1), (51, .iconst 0, 1), (52, .invokevirtual 204, 3), (55, .goto (-55), 3), (58, .return_, 1)]
theorem DX5_settlePending_0 : dAll cX5_settlePending lDX5_settlePending_0 = true := by decide +kernel
theorem dX5_settlePending_0 : decode cX5_settlePending 0 = .ok (.aload_n 0, 1) := dAt (x := (0, .aload_n 0, 1)) DX5_settlePending_0 0 rfl
theorem dX5_settlePending_1 : decode cX5_settlePending 1 = .ok (.getfield 170, 3) := dAt (x := (1, .getfield 170, 3)) DX5_settlePending_0 1 rfl
theorem dX5_settlePending_4 : decode cX5_settlePending 4 = .ok (.ifCond .le 54, 3) := dAt (x := (4, .ifCond .le 54, 3)) DX5_settlePending_0 2 rfl
theorem dX5_settlePending_7 : decode cX5_settlePending 7 = .ok (.aload_n 0, 1) := dAt (x := (7, .aload_n 0, 1)) DX5_settlePending_0 3 rfl
theorem dX5_settlePending_8 : decode cX5_settlePending 8 = .ok (.getfield 25, 3) := dAt (x := (8, .getfield 25, 3)) DX5_settlePending_0 4 rfl
theorem dX5_settlePending_11 : decode cX5_settlePending 11 = .ok (.aload_n 0, 1) := dAt (x := (11, .aload_n 0, 1)) DX5_settlePending_0 5 rfl
theorem dX5_settlePending_12 : decode cX5_settlePending 12 = .ok (.getfield 170, 3) := dAt (x := (12, .getfield 170, 3)) DX5_settlePending_0 6 rfl
theorem dX5_settlePending_15 : decode cX5_settlePending 15 = .ok (.iconst 1, 1) := dAt (x := (15, .iconst 1, 1)) DX5_settlePending_0 7 rfl
theorem dX5_settlePending_16 : decode cX5_settlePending 16 = .ok (.isub, 1) := dAt (x := (16, .isub, 1)) DX5_settlePending_0 8 rfl
theorem dX5_settlePending_17 : decode cX5_settlePending 17 = .ok (.iaload, 1) := dAt (x := (17, .iaload, 1)) DX5_settlePending_0 9 rfl
theorem dX5_settlePending_18 : decode cX5_settlePending 18 = .ok (.invokestatic 198, 3) := dAt (x := (18, .invokestatic 198, 3)) DX5_settlePending_0 10 rfl
theorem dX5_settlePending_21 : decode cX5_settlePending 21 = .ok (.iload_n 1, 1) := dAt (x := (21, .iload_n 1, 1)) DX5_settlePending_0 11 rfl
theorem dX5_settlePending_22 : decode cX5_settlePending 22 = .ok (.if_icmp .lt 36, 3) := dAt (x := (22, .if_icmp .lt 36, 3)) DX5_settlePending_0 12 rfl
theorem dX5_settlePending_25 : decode cX5_settlePending 25 = .ok (.aload_n 0, 1) := dAt (x := (25, .aload_n 0, 1)) DX5_settlePending_0 13 rfl
theorem dX5_settlePending_26 : decode cX5_settlePending 26 = .ok (.dup, 1) := dAt (x := (26, .dup, 1)) DX5_settlePending_0 14 rfl
theorem dX5_settlePending_27 : decode cX5_settlePending 27 = .ok (.getfield 170, 3) := dAt (x := (27, .getfield 170, 3)) DX5_settlePending_0 15 rfl
theorem dX5_settlePending_30 : decode cX5_settlePending 30 = .ok (.iconst 1, 1) := dAt (x := (30, .iconst 1, 1)) DX5_settlePending_0 16 rfl
theorem dX5_settlePending_31 : decode cX5_settlePending 31 = .ok (.isub, 1) := dAt (x := (31, .isub, 1)) DX5_settlePending_0 17 rfl
theorem dX5_settlePending_32 : decode cX5_settlePending 32 = .ok (.putfield 170, 3) := dAt (x := (32, .putfield 170, 3)) DX5_settlePending_0 18 rfl
theorem dX5_settlePending_35 : decode cX5_settlePending 35 = .ok (.aload_n 0, 1) := dAt (x := (35, .aload_n 0, 1)) DX5_settlePending_0 19 rfl
theorem dX5_settlePending_36 : decode cX5_settlePending 36 = .ok (.getfield 21, 3) := dAt (x := (36, .getfield 21, 3)) DX5_settlePending_0 20 rfl
theorem dX5_settlePending_39 : decode cX5_settlePending 39 = .ok (.getfield 126, 3) := dAt (x := (39, .getfield 126, 3)) DX5_settlePending_0 21 rfl
theorem dX5_settlePending_42 : decode cX5_settlePending 42 = .ok (.aload_n 0, 1) := dAt (x := (42, .aload_n 0, 1)) DX5_settlePending_0 22 rfl
theorem dX5_settlePending_43 : decode cX5_settlePending 43 = .ok (.getfield 25, 3) := dAt (x := (43, .getfield 25, 3)) DX5_settlePending_0 23 rfl
theorem dX5_settlePending_46 : decode cX5_settlePending 46 = .ok (.aload_n 0, 1) := dAt (x := (46, .aload_n 0, 1)) DX5_settlePending_0 24 rfl
theorem dX5_settlePending_47 : decode cX5_settlePending 47 = .ok (.getfield 170, 3) := dAt (x := (47, .getfield 170, 3)) DX5_settlePending_0 25 rfl
theorem dX5_settlePending_50 : decode cX5_settlePending 50 = .ok (.iaload, 1) := dAt (x := (50, .iaload, 1)) DX5_settlePending_0 26 rfl
theorem dX5_settlePending_51 : decode cX5_settlePending 51 = .ok (.iconst 0, 1) := dAt (x := (51, .iconst 0, 1)) DX5_settlePending_0 27 rfl
theorem dX5_settlePending_52 : decode cX5_settlePending 52 = .ok (.invokevirtual 204, 3) := dAt (x := (52, .invokevirtual 204, 3)) DX5_settlePending_0 28 rfl
theorem dX5_settlePending_55 : decode cX5_settlePending 55 = .ok (.goto (-55), 3) := dAt (x := (55, .goto (-55), 3)) DX5_settlePending_0 29 rfl
theorem dX5_settlePending_58 : decode cX5_settlePending 58 = .ok (.return_, 1) := dAt (x := (58, .return_, 1)) DX5_settlePending_0 30 rfl
def lDX5_lawLeaf_0 : List (Nat × Instr × Nat) := [(0, .aload_n 0, 1), (1, .getfield 12, 3), (4, .getfield 56, 3), (7, .bipush 37, 2), (9, .if_icmp .eq 33, 3), (12, .aload_n 0, 1), (13, .getfield 12, 3), (16, .getfield 56, 3), (19, .bipush 17, 2), (21, .if_icmp .lt 15, 3), (24, .aload_n 0, 1), (25, .getfield 12, 3), (28, .getfield 56, 3), (31, .bipush 23, 2), (33, .if_icmp .le 9, 3), (36, .aload_n 0, 1), (37, .iconst 1, 1), (38, .invokevirtual 75, 3), (41, .ireturn, 1), (42, .aload_n 0, 1), (43, .invokevirtual 201, 3), (46, .ifCond .eq 25, 3), (49, .aload_n 0, 1), (50, .getfield 12, 3), (53, .getfield 56, 3), (56, .bipush 37, 2), (58, .if_icmp .ne 15, 3), (61, .aload_n 0, 1), (62, .sipush 9999, 3), (65, .invokevirtual 113, 3), (68, .ifCond .ne 5, 3), (71, .iconst 0, 1), (72, .ireturn, 1), (73, .aload_n 0, 1), (74, .getfield 21, 3), (77, .getfield 126, 3), (80, .aload_n 0, 1), (81, .getfield 12, 3), (84, .getfield 56, 3), (87, .aload_n 0, 1), (88, .getfield 12, 3), (91, .getfield 106, 3), (94, .invokevirtual 204, 3), (97, .iconst 1, 1), (98, .ireturn, 1)]
theorem DX5_lawLeaf_0 : dAll cX5_lawLeaf lDX5_lawLeaf_0 = true := by decide +kernel
theorem dX5_lawLeaf_0 : decode cX5_lawLeaf 0 = .ok (.aload_n 0, 1) := dAt (x := (0, .aload_n 0, 1)) DX5_lawLeaf_0 0 rfl
theorem dX5_lawLeaf_1 : decode cX5_lawLeaf 1 = .ok (.getfield 12, 3) := dAt (x := (1, .getfield 12, 3)) DX5_lawLeaf_0 1 rfl
theorem dX5_lawLeaf_4 : decode cX5_lawLeaf 4 = .ok (.getfield 56, 3) := dAt (x := (4, .getfield 56, 3)) DX5_lawLeaf_0 2 rfl
theorem dX5_lawLeaf_7 : decode cX5_lawLeaf 7 = .ok (.bipush 37, 2) := dAt (x := (7, .bipush 37, 2)) DX5_lawLeaf_0 3 rfl
theorem dX5_lawLeaf_9 : decode cX5_lawLeaf 9 = .ok (.if_icmp .eq 33, 3) := dAt (x := (9, .if_icmp .eq 33, 3)) DX5_lawLeaf_0 4 rfl
theorem dX5_lawLeaf_12 : decode cX5_lawLeaf 12 = .ok (.aload_n 0, 1) := dAt (x := (12, .aload_n 0, 1)) DX5_lawLeaf_0 5 rfl
theorem dX5_lawLeaf_13 : decode cX5_lawLeaf 13 = .ok (.getfield 12, 3) := dAt (x := (13, .getfield 12, 3)) DX5_lawLeaf_0 6 rfl
theorem dX5_lawLeaf_16 : decode cX5_lawLeaf 16 = .ok (.getfield 56, 3) := dAt (x := (16, .getfield 56, 3)) DX5_lawLeaf_0 7 rfl
theorem dX5_lawLeaf_19 : decode cX5_lawLeaf 19 = .ok (.bipush 17, 2) := dAt (x := (19, .bipush 17, 2)) DX5_lawLeaf_0 8 rfl
theorem dX5_lawLeaf_21 : decode cX5_lawLeaf 21 = .ok (.if_icmp .lt 15, 3) := dAt (x := (21, .if_icmp .lt 15, 3)) DX5_lawLeaf_0 9 rfl
theorem dX5_lawLeaf_24 : decode cX5_lawLeaf 24 = .ok (.aload_n 0, 1) := dAt (x := (24, .aload_n 0, 1)) DX5_lawLeaf_0 10 rfl
theorem dX5_lawLeaf_25 : decode cX5_lawLeaf 25 = .ok (.getfield 12, 3) := dAt (x := (25, .getfield 12, 3)) DX5_lawLeaf_0 11 rfl
theorem dX5_lawLeaf_28 : decode cX5_lawLeaf 28 = .ok (.getfield 56, 3) := dAt (x := (28, .getfield 56, 3)) DX5_lawLeaf_0 12 rfl
theorem dX5_lawLeaf_31 : decode cX5_lawLeaf 31 = .ok (.bipush 23, 2) := dAt (x := (31, .bipush 23, 2)) DX5_lawLeaf_0 13 rfl
theorem dX5_lawLeaf_33 : decode cX5_lawLeaf 33 = .ok (.if_icmp .le 9, 3) := dAt (x := (33, .if_icmp .le 9, 3)) DX5_lawLeaf_0 14 rfl
theorem dX5_lawLeaf_36 : decode cX5_lawLeaf 36 = .ok (.aload_n 0, 1) := dAt (x := (36, .aload_n 0, 1)) DX5_lawLeaf_0 15 rfl
theorem dX5_lawLeaf_37 : decode cX5_lawLeaf 37 = .ok (.iconst 1, 1) := dAt (x := (37, .iconst 1, 1)) DX5_lawLeaf_0 16 rfl
theorem dX5_lawLeaf_38 : decode cX5_lawLeaf 38 = .ok (.invokevirtual 75, 3) := dAt (x := (38, .invokevirtual 75, 3)) DX5_lawLeaf_0 17 rfl
theorem dX5_lawLeaf_41 : decode cX5_lawLeaf 41 = .ok (.ireturn, 1) := dAt (x := (41, .ireturn, 1)) DX5_lawLeaf_0 18 rfl
theorem dX5_lawLeaf_42 : decode cX5_lawLeaf 42 = .ok (.aload_n 0, 1) := dAt (x := (42, .aload_n 0, 1)) DX5_lawLeaf_0 19 rfl
theorem dX5_lawLeaf_43 : decode cX5_lawLeaf 43 = .ok (.invokevirtual 201, 3) := dAt (x := (43, .invokevirtual 201, 3)) DX5_lawLeaf_0 20 rfl
theorem dX5_lawLeaf_46 : decode cX5_lawLeaf 46 = .ok (.ifCond .eq 25, 3) := dAt (x := (46, .ifCond .eq 25, 3)) DX5_lawLeaf_0 21 rfl
theorem dX5_lawLeaf_49 : decode cX5_lawLeaf 49 = .ok (.aload_n 0, 1) := dAt (x := (49, .aload_n 0, 1)) DX5_lawLeaf_0 22 rfl
theorem dX5_lawLeaf_50 : decode cX5_lawLeaf 50 = .ok (.getfield 12, 3) := dAt (x := (50, .getfield 12, 3)) DX5_lawLeaf_0 23 rfl
theorem dX5_lawLeaf_53 : decode cX5_lawLeaf 53 = .ok (.getfield 56, 3) := dAt (x := (53, .getfield 56, 3)) DX5_lawLeaf_0 24 rfl
theorem dX5_lawLeaf_56 : decode cX5_lawLeaf 56 = .ok (.bipush 37, 2) := dAt (x := (56, .bipush 37, 2)) DX5_lawLeaf_0 25 rfl
theorem dX5_lawLeaf_58 : decode cX5_lawLeaf 58 = .ok (.if_icmp .ne 15, 3) := dAt (x := (58, .if_icmp .ne 15, 3)) DX5_lawLeaf_0 26 rfl
theorem dX5_lawLeaf_61 : decode cX5_lawLeaf 61 = .ok (.aload_n 0, 1) := dAt (x := (61, .aload_n 0, 1)) DX5_lawLeaf_0 27 rfl
theorem dX5_lawLeaf_62 : decode cX5_lawLeaf 62 = .ok (.sipush 9999, 3) := dAt (x := (62, .sipush 9999, 3)) DX5_lawLeaf_0 28 rfl
theorem dX5_lawLeaf_65 : decode cX5_lawLeaf 65 = .ok (.invokevirtual 113, 3) := dAt (x := (65, .invokevirtual 113, 3)) DX5_lawLeaf_0 29 rfl
theorem dX5_lawLeaf_68 : decode cX5_lawLeaf 68 = .ok (.ifCond .ne 5, 3) := dAt (x := (68, .ifCond .ne 5, 3)) DX5_lawLeaf_0 30 rfl
theorem dX5_lawLeaf_71 : decode cX5_lawLeaf 71 = .ok (.iconst 0, 1) := dAt (x := (71, .iconst 0, 1)) DX5_lawLeaf_0 31 rfl
theorem dX5_lawLeaf_72 : decode cX5_lawLeaf 72 = .ok (.ireturn, 1) := dAt (x := (72, .ireturn, 1)) DX5_lawLeaf_0 32 rfl
theorem dX5_lawLeaf_73 : decode cX5_lawLeaf 73 = .ok (.aload_n 0, 1) := dAt (x := (73, .aload_n 0, 1)) DX5_lawLeaf_0 33 rfl
theorem dX5_lawLeaf_74 : decode cX5_lawLeaf 74 = .ok (.getfield 21, 3) := dAt (x := (74, .getfield 21, 3)) DX5_lawLeaf_0 34 rfl
theorem dX5_lawLeaf_77 : decode cX5_lawLeaf 77 = .ok (.getfield 126, 3) := dAt (x := (77, .getfield 126, 3)) DX5_lawLeaf_0 35 rfl
theorem dX5_lawLeaf_80 : decode cX5_lawLeaf 80 = .ok (.aload_n 0, 1) := dAt (x := (80, .aload_n 0, 1)) DX5_lawLeaf_0 36 rfl
theorem dX5_lawLeaf_81 : decode cX5_lawLeaf 81 = .ok (.getfield 12, 3) := dAt (x := (81, .getfield 12, 3)) DX5_lawLeaf_0 37 rfl
theorem dX5_lawLeaf_84 : decode cX5_lawLeaf 84 = .ok (.getfield 56, 3) := dAt (x := (84, .getfield 56, 3)) DX5_lawLeaf_0 38 rfl
theorem dX5_lawLeaf_87 : decode cX5_lawLeaf 87 = .ok (.aload_n 0, 1) := dAt (x := (87, .aload_n 0, 1)) DX5_lawLeaf_0 39 rfl
theorem dX5_lawLeaf_88 : decode cX5_lawLeaf 88 = .ok (.getfield 12, 3) := dAt (x := (88, .getfield 12, 3)) DX5_lawLeaf_0 40 rfl
theorem dX5_lawLeaf_91 : decode cX5_lawLeaf 91 = .ok (.getfield 106, 3) := dAt (x := (91, .getfield 106, 3)) DX5_lawLeaf_0 41 rfl
theorem dX5_lawLeaf_94 : decode cX5_lawLeaf 94 = .ok (.invokevirtual 204, 3) := dAt (x := (94, .invokevirtual 204, 3)) DX5_lawLeaf_0 42 rfl
theorem dX5_lawLeaf_97 : decode cX5_lawLeaf 97 = .ok (.iconst 1, 1) := dAt (x := (97, .iconst 1, 1)) DX5_lawLeaf_0 43 rfl
theorem dX5_lawLeaf_98 : decode cX5_lawLeaf 98 = .ok (.ireturn, 1) := dAt (x := (98, .ireturn, 1)) DX5_lawLeaf_0 44 rfl
def lDX5_leanLeaf_0 : List (Nat × Instr × Nat) := [(0, .aload_n 0, 1), (1, .getfield 12, 3), (4, .getfield 56, 3), (7, .bipush 13, 2), (9, .if_icmp .lt 15, 3), (12, .aload_n 0, 1), (13, .getfield 12, 3), (16, .getfield 56, 3), (19, .bipush 16, 2), (21, .if_icmp .le 9, 3), (24, .aload_n 0, 1), (25, .iconst 1, 1), (26, .invokevirtual 75, 3), (29, .ireturn, 1), (30, .aload_n 0, 1), (31, .aload_n 0, 1), (32, .getfield 12, 3), (35, .getfield 56, 3), (38, .putfield 29, 3), (41, .aload_n 0, 1), (42, .invokevirtual 201, 3), (45, .ireturn, 1)]
theorem DX5_leanLeaf_0 : dAll cX5_leanLeaf lDX5_leanLeaf_0 = true := by decide +kernel
theorem dX5_leanLeaf_0 : decode cX5_leanLeaf 0 = .ok (.aload_n 0, 1) := dAt (x := (0, .aload_n 0, 1)) DX5_leanLeaf_0 0 rfl
theorem dX5_leanLeaf_1 : decode cX5_leanLeaf 1 = .ok (.getfield 12, 3) := dAt (x := (1, .getfield 12, 3)) DX5_leanLeaf_0 1 rfl
theorem dX5_leanLeaf_4 : decode cX5_leanLeaf 4 = .ok (.getfield 56, 3) := dAt (x := (4, .getfield 56, 3)) DX5_leanLeaf_0 2 rfl
theorem dX5_leanLeaf_7 : decode cX5_leanLeaf 7 = .ok (.bipush 13, 2) := dAt (x := (7, .bipush 13, 2)) DX5_leanLeaf_0 3 rfl
theorem dX5_leanLeaf_9 : decode cX5_leanLeaf 9 = .ok (.if_icmp .lt 15, 3) := dAt (x := (9, .if_icmp .lt 15, 3)) DX5_leanLeaf_0 4 rfl
theorem dX5_leanLeaf_12 : decode cX5_leanLeaf 12 = .ok (.aload_n 0, 1) := dAt (x := (12, .aload_n 0, 1)) DX5_leanLeaf_0 5 rfl
theorem dX5_leanLeaf_13 : decode cX5_leanLeaf 13 = .ok (.getfield 12, 3) := dAt (x := (13, .getfield 12, 3)) DX5_leanLeaf_0 6 rfl
theorem dX5_leanLeaf_16 : decode cX5_leanLeaf 16 = .ok (.getfield 56, 3) := dAt (x := (16, .getfield 56, 3)) DX5_leanLeaf_0 7 rfl
theorem dX5_leanLeaf_19 : decode cX5_leanLeaf 19 = .ok (.bipush 16, 2) := dAt (x := (19, .bipush 16, 2)) DX5_leanLeaf_0 8 rfl
theorem dX5_leanLeaf_21 : decode cX5_leanLeaf 21 = .ok (.if_icmp .le 9, 3) := dAt (x := (21, .if_icmp .le 9, 3)) DX5_leanLeaf_0 9 rfl
theorem dX5_leanLeaf_24 : decode cX5_leanLeaf 24 = .ok (.aload_n 0, 1) := dAt (x := (24, .aload_n 0, 1)) DX5_leanLeaf_0 10 rfl
theorem dX5_leanLeaf_25 : decode cX5_leanLeaf 25 = .ok (.iconst 1, 1) := dAt (x := (25, .iconst 1, 1)) DX5_leanLeaf_0 11 rfl
theorem dX5_leanLeaf_26 : decode cX5_leanLeaf 26 = .ok (.invokevirtual 75, 3) := dAt (x := (26, .invokevirtual 75, 3)) DX5_leanLeaf_0 12 rfl
theorem dX5_leanLeaf_29 : decode cX5_leanLeaf 29 = .ok (.ireturn, 1) := dAt (x := (29, .ireturn, 1)) DX5_leanLeaf_0 13 rfl
theorem dX5_leanLeaf_30 : decode cX5_leanLeaf 30 = .ok (.aload_n 0, 1) := dAt (x := (30, .aload_n 0, 1)) DX5_leanLeaf_0 14 rfl
theorem dX5_leanLeaf_31 : decode cX5_leanLeaf 31 = .ok (.aload_n 0, 1) := dAt (x := (31, .aload_n 0, 1)) DX5_leanLeaf_0 15 rfl
theorem dX5_leanLeaf_32 : decode cX5_leanLeaf 32 = .ok (.getfield 12, 3) := dAt (x := (32, .getfield 12, 3)) DX5_leanLeaf_0 16 rfl
theorem dX5_leanLeaf_35 : decode cX5_leanLeaf 35 = .ok (.getfield 56, 3) := dAt (x := (35, .getfield 56, 3)) DX5_leanLeaf_0 17 rfl
theorem dX5_leanLeaf_38 : decode cX5_leanLeaf 38 = .ok (.putfield 29, 3) := dAt (x := (38, .putfield 29, 3)) DX5_leanLeaf_0 18 rfl
theorem dX5_leanLeaf_41 : decode cX5_leanLeaf 41 = .ok (.aload_n 0, 1) := dAt (x := (41, .aload_n 0, 1)) DX5_leanLeaf_0 19 rfl
theorem dX5_leanLeaf_42 : decode cX5_leanLeaf 42 = .ok (.invokevirtual 201, 3) := dAt (x := (42, .invokevirtual 201, 3)) DX5_leanLeaf_0 20 rfl
theorem dX5_leanLeaf_45 : decode cX5_leanLeaf 45 = .ok (.ireturn, 1) := dAt (x := (45, .ireturn, 1)) DX5_leanLeaf_0 21 rfl
def lDX5_asks_0 : List (Nat × Instr × Nat) := [(0, .aload_n 0, 1), (1, .getfield 29, 3), (4, .istore_n 2, 1), (5, .aload_n 0, 1), (6, .iconst (-1), 1), (7, .putfield 29, 3), (10, .iload_n 2, 1), (11, .bipush 15, 2), (13, .if_icmp .ne 15, 3), (16, .aload_n 0, 1), (17, .bipush 8, 2), (19, .invokevirtual 113, 3), (22, .ifCond .ne 15, 3), (25, .goto 10, 3), (28, .aload_n 0, 1), (29, .invokevirtual 120, 3), (32, .ifCond .ne 5, 3), (35, .iconst 0, 1), (36, .ireturn, 1), (37, .iload_n 2, 1), (38, .bipush 15, 2), (40, .if_icmp .ne 24, 3), (43, .aload_n 0, 1), (44, .getfield 21, 3), (47, .getfield 126, 3), (50, .bipush 15, 2), (52, .aload_n 0, 1), (53, .getfield 12, 3), (56, .getfield 106, 3), (59, .invokevirtual 204, 3), (62, .iconst 1, 1), (63, .ireturn, 1), (64, .aload_n 0, 1), (65, .getfield 21, 3), (68, .aload_n 0, 1), (69, .getfield 12, 3), (72, .getfield 106, 3), (75, .invokevirtual 109, 3), (78, .istore_n 3, 1), (79, .iload_n 2, 1), (80, .bipush 16, 2), (82, .if_icmp .ne 12, 3), (85, .aload_n 0, 1), (86, .iload_n 1, 1), (87, .iload_n 3, 1), (88, .invokevirtual 207, 3), (91, .goto 10, 3), (94, .aload_n 0, 1), (95, .iload_n 1, 1), (96, .iload_n 3, 1), (97, .iload_n 2, 1), (98, .invokevirtual 211, 3), (101, .ireturn, 1)]
theorem DX5_asks_0 : dAll cX5_asks lDX5_asks_0 = true := by decide +kernel
theorem dX5_asks_0 : decode cX5_asks 0 = .ok (.aload_n 0, 1) := dAt (x := (0, .aload_n 0, 1)) DX5_asks_0 0 rfl
theorem dX5_asks_1 : decode cX5_asks 1 = .ok (.getfield 29, 3) := dAt (x := (1, .getfield 29, 3)) DX5_asks_0 1 rfl
theorem dX5_asks_4 : decode cX5_asks 4 = .ok (.istore_n 2, 1) := dAt (x := (4, .istore_n 2, 1)) DX5_asks_0 2 rfl
theorem dX5_asks_5 : decode cX5_asks 5 = .ok (.aload_n 0, 1) := dAt (x := (5, .aload_n 0, 1)) DX5_asks_0 3 rfl
theorem dX5_asks_6 : decode cX5_asks 6 = .ok (.iconst (-1), 1) := dAt (x := (6, .iconst (-1), 1)) DX5_asks_0 4 rfl
theorem dX5_asks_7 : decode cX5_asks 7 = .ok (.putfield 29, 3) := dAt (x := (7, .putfield 29, 3)) DX5_asks_0 5 rfl
theorem dX5_asks_10 : decode cX5_asks 10 = .ok (.iload_n 2, 1) := dAt (x := (10, .iload_n 2, 1)) DX5_asks_0 6 rfl
theorem dX5_asks_11 : decode cX5_asks 11 = .ok (.bipush 15, 2) := dAt (x := (11, .bipush 15, 2)) DX5_asks_0 7 rfl
theorem dX5_asks_13 : decode cX5_asks 13 = .ok (.if_icmp .ne 15, 3) := dAt (x := (13, .if_icmp .ne 15, 3)) DX5_asks_0 8 rfl
theorem dX5_asks_16 : decode cX5_asks 16 = .ok (.aload_n 0, 1) := dAt (x := (16, .aload_n 0, 1)) DX5_asks_0 9 rfl
theorem dX5_asks_17 : decode cX5_asks 17 = .ok (.bipush 8, 2) := dAt (x := (17, .bipush 8, 2)) DX5_asks_0 10 rfl
theorem dX5_asks_19 : decode cX5_asks 19 = .ok (.invokevirtual 113, 3) := dAt (x := (19, .invokevirtual 113, 3)) DX5_asks_0 11 rfl
theorem dX5_asks_22 : decode cX5_asks 22 = .ok (.ifCond .ne 15, 3) := dAt (x := (22, .ifCond .ne 15, 3)) DX5_asks_0 12 rfl
theorem dX5_asks_25 : decode cX5_asks 25 = .ok (.goto 10, 3) := dAt (x := (25, .goto 10, 3)) DX5_asks_0 13 rfl
theorem dX5_asks_28 : decode cX5_asks 28 = .ok (.aload_n 0, 1) := dAt (x := (28, .aload_n 0, 1)) DX5_asks_0 14 rfl
theorem dX5_asks_29 : decode cX5_asks 29 = .ok (.invokevirtual 120, 3) := dAt (x := (29, .invokevirtual 120, 3)) DX5_asks_0 15 rfl
theorem dX5_asks_32 : decode cX5_asks 32 = .ok (.ifCond .ne 5, 3) := dAt (x := (32, .ifCond .ne 5, 3)) DX5_asks_0 16 rfl
theorem dX5_asks_35 : decode cX5_asks 35 = .ok (.iconst 0, 1) := dAt (x := (35, .iconst 0, 1)) DX5_asks_0 17 rfl
theorem dX5_asks_36 : decode cX5_asks 36 = .ok (.ireturn, 1) := dAt (x := (36, .ireturn, 1)) DX5_asks_0 18 rfl
theorem dX5_asks_37 : decode cX5_asks 37 = .ok (.iload_n 2, 1) := dAt (x := (37, .iload_n 2, 1)) DX5_asks_0 19 rfl
theorem dX5_asks_38 : decode cX5_asks 38 = .ok (.bipush 15, 2) := dAt (x := (38, .bipush 15, 2)) DX5_asks_0 20 rfl
theorem dX5_asks_40 : decode cX5_asks 40 = .ok (.if_icmp .ne 24, 3) := dAt (x := (40, .if_icmp .ne 24, 3)) DX5_asks_0 21 rfl
theorem dX5_asks_43 : decode cX5_asks 43 = .ok (.aload_n 0, 1) := dAt (x := (43, .aload_n 0, 1)) DX5_asks_0 22 rfl
theorem dX5_asks_44 : decode cX5_asks 44 = .ok (.getfield 21, 3) := dAt (x := (44, .getfield 21, 3)) DX5_asks_0 23 rfl
theorem dX5_asks_47 : decode cX5_asks 47 = .ok (.getfield 126, 3) := dAt (x := (47, .getfield 126, 3)) DX5_asks_0 24 rfl
theorem dX5_asks_50 : decode cX5_asks 50 = .ok (.bipush 15, 2) := dAt (x := (50, .bipush 15, 2)) DX5_asks_0 25 rfl
theorem dX5_asks_52 : decode cX5_asks 52 = .ok (.aload_n 0, 1) := dAt (x := (52, .aload_n 0, 1)) DX5_asks_0 26 rfl
theorem dX5_asks_53 : decode cX5_asks 53 = .ok (.getfield 12, 3) := dAt (x := (53, .getfield 12, 3)) DX5_asks_0 27 rfl
theorem dX5_asks_56 : decode cX5_asks 56 = .ok (.getfield 106, 3) := dAt (x := (56, .getfield 106, 3)) DX5_asks_0 28 rfl
theorem dX5_asks_59 : decode cX5_asks 59 = .ok (.invokevirtual 204, 3) := dAt (x := (59, .invokevirtual 204, 3)) DX5_asks_0 29 rfl
theorem dX5_asks_62 : decode cX5_asks 62 = .ok (.iconst 1, 1) := dAt (x := (62, .iconst 1, 1)) DX5_asks_0 30 rfl
theorem dX5_asks_63 : decode cX5_asks 63 = .ok (.ireturn, 1) := dAt (x := (63, .ireturn, 1)) DX5_asks_0 31 rfl
theorem dX5_asks_64 : decode cX5_asks 64 = .ok (.aload_n 0, 1) := dAt (x := (64, .aload_n 0, 1)) DX5_asks_0 32 rfl
theorem dX5_asks_65 : decode cX5_asks 65 = .ok (.getfield 21, 3) := dAt (x := (65, .getfield 21, 3)) DX5_asks_0 33 rfl
theorem dX5_asks_68 : decode cX5_asks 68 = .ok (.aload_n 0, 1) := dAt (x := (68, .aload_n 0, 1)) DX5_asks_0 34 rfl
theorem dX5_asks_69 : decode cX5_asks 69 = .ok (.getfield 12, 3) := dAt (x := (69, .getfield 12, 3)) DX5_asks_0 35 rfl
theorem dX5_asks_72 : decode cX5_asks 72 = .ok (.getfield 106, 3) := dAt (x := (72, .getfield 106, 3)) DX5_asks_0 36 rfl
theorem dX5_asks_75 : decode cX5_asks 75 = .ok (.invokevirtual 109, 3) := dAt (x := (75, .invokevirtual 109, 3)) DX5_asks_0 37 rfl
theorem dX5_asks_78 : decode cX5_asks 78 = .ok (.istore_n 3, 1) := dAt (x := (78, .istore_n 3, 1)) DX5_asks_0 38 rfl
theorem dX5_asks_79 : decode cX5_asks 79 = .ok (.iload_n 2, 1) := dAt (x := (79, .iload_n 2, 1)) DX5_asks_0 39 rfl
theorem dX5_asks_80 : decode cX5_asks 80 = .ok (.bipush 16, 2) := dAt (x := (80, .bipush 16, 2)) DX5_asks_0 40 rfl
theorem dX5_asks_82 : decode cX5_asks 82 = .ok (.if_icmp .ne 12, 3) := dAt (x := (82, .if_icmp .ne 12, 3)) DX5_asks_0 41 rfl
theorem dX5_asks_85 : decode cX5_asks 85 = .ok (.aload_n 0, 1) := dAt (x := (85, .aload_n 0, 1)) DX5_asks_0 42 rfl
theorem dX5_asks_86 : decode cX5_asks 86 = .ok (.iload_n 1, 1) := dAt (x := (86, .iload_n 1, 1)) DX5_asks_0 43 rfl
theorem dX5_asks_87 : decode cX5_asks 87 = .ok (.iload_n 3, 1) := dAt (x := (87, .iload_n 3, 1)) DX5_asks_0 44 rfl
theorem dX5_asks_88 : decode cX5_asks 88 = .ok (.invokevirtual 207, 3) := dAt (x := (88, .invokevirtual 207, 3)) DX5_asks_0 45 rfl
theorem dX5_asks_91 : decode cX5_asks 91 = .ok (.goto 10, 3) := dAt (x := (91, .goto 10, 3)) DX5_asks_0 46 rfl
theorem dX5_asks_94 : decode cX5_asks 94 = .ok (.aload_n 0, 1) := dAt (x := (94, .aload_n 0, 1)) DX5_asks_0 47 rfl
theorem dX5_asks_95 : decode cX5_asks 95 = .ok (.iload_n 1, 1) := dAt (x := (95, .iload_n 1, 1)) DX5_asks_0 48 rfl
theorem dX5_asks_96 : decode cX5_asks 96 = .ok (.iload_n 3, 1) := dAt (x := (96, .iload_n 3, 1)) DX5_asks_0 49 rfl
theorem dX5_asks_97 : decode cX5_asks 97 = .ok (.iload_n 2, 1) := dAt (x := (97, .iload_n 2, 1)) DX5_asks_0 50 rfl
theorem dX5_asks_98 : decode cX5_asks 98 = .ok (.invokevirtual 211, 3) := dAt (x := (98, .invokevirtual 211, 3)) DX5_asks_0 51 rfl
theorem dX5_asks_101 : decode cX5_asks 101 = .ok (.ireturn, 1) := dAt (x := (101, .ireturn, 1)) DX5_asks_0 52 rfl
def lDX5_onOther_0 : List (Nat × Instr × Nat) := [(0, .iload_n 2, 1), (1, .iload_n 1, 1), (2, .if_icmp .ne 9, 3), (5, .aload_n 0, 1), (6, .iconst 5, 1), (7, .invokevirtual 75, 3), (10, .ireturn, 1), (11, .aload_n 0, 1), (12, .getfield 21, 3), (15, .iload_n 1, 1), (16, .iconst 1, 1), (17, .iload_n 2, 1), (18, .ishl, 1), (19, .invokevirtual 215, 3), (22, .aload_n 0, 1), (23, .getfield 21, 3), (26, .getfield 126, 3), (29, .iload_n 3, 1), (30, .iload_n 2, 1), (31, .invokevirtual 204, 3), (34, .iconst 1, 1), (35, .ireturn, 1)]
theorem DX5_onOther_0 : dAll cX5_onOther lDX5_onOther_0 = true := by decide +kernel
theorem dX5_onOther_0 : decode cX5_onOther 0 = .ok (.iload_n 2, 1) := dAt (x := (0, .iload_n 2, 1)) DX5_onOther_0 0 rfl
theorem dX5_onOther_1 : decode cX5_onOther 1 = .ok (.iload_n 1, 1) := dAt (x := (1, .iload_n 1, 1)) DX5_onOther_0 1 rfl
theorem dX5_onOther_2 : decode cX5_onOther 2 = .ok (.if_icmp .ne 9, 3) := dAt (x := (2, .if_icmp .ne 9, 3)) DX5_onOther_0 2 rfl
theorem dX5_onOther_5 : decode cX5_onOther 5 = .ok (.aload_n 0, 1) := dAt (x := (5, .aload_n 0, 1)) DX5_onOther_0 3 rfl
theorem dX5_onOther_6 : decode cX5_onOther 6 = .ok (.iconst 5, 1) := dAt (x := (6, .iconst 5, 1)) DX5_onOther_0 4 rfl
theorem dX5_onOther_7 : decode cX5_onOther 7 = .ok (.invokevirtual 75, 3) := dAt (x := (7, .invokevirtual 75, 3)) DX5_onOther_0 5 rfl
theorem dX5_onOther_10 : decode cX5_onOther 10 = .ok (.ireturn, 1) := dAt (x := (10, .ireturn, 1)) DX5_onOther_0 6 rfl
theorem dX5_onOther_11 : decode cX5_onOther 11 = .ok (.aload_n 0, 1) := dAt (x := (11, .aload_n 0, 1)) DX5_onOther_0 7 rfl
theorem dX5_onOther_12 : decode cX5_onOther 12 = .ok (.getfield 21, 3) := dAt (x := (12, .getfield 21, 3)) DX5_onOther_0 8 rfl
theorem dX5_onOther_15 : decode cX5_onOther 15 = .ok (.iload_n 1, 1) := dAt (x := (15, .iload_n 1, 1)) DX5_onOther_0 9 rfl
theorem dX5_onOther_16 : decode cX5_onOther 16 = .ok (.iconst 1, 1) := dAt (x := (16, .iconst 1, 1)) DX5_onOther_0 10 rfl
theorem dX5_onOther_17 : decode cX5_onOther 17 = .ok (.iload_n 2, 1) := dAt (x := (17, .iload_n 2, 1)) DX5_onOther_0 11 rfl
theorem dX5_onOther_18 : decode cX5_onOther 18 = .ok (.ishl, 1) := dAt (x := (18, .ishl, 1)) DX5_onOther_0 12 rfl
theorem dX5_onOther_19 : decode cX5_onOther 19 = .ok (.invokevirtual 215, 3) := dAt (x := (19, .invokevirtual 215, 3)) DX5_onOther_0 13 rfl
theorem dX5_onOther_22 : decode cX5_onOther 22 = .ok (.aload_n 0, 1) := dAt (x := (22, .aload_n 0, 1)) DX5_onOther_0 14 rfl
theorem dX5_onOther_23 : decode cX5_onOther 23 = .ok (.getfield 21, 3) := dAt (x := (23, .getfield 21, 3)) DX5_onOther_0 15 rfl
theorem dX5_onOther_26 : decode cX5_onOther 26 = .ok (.getfield 126, 3) := dAt (x := (26, .getfield 126, 3)) DX5_onOther_0 16 rfl
theorem dX5_onOther_29 : decode cX5_onOther 29 = .ok (.iload_n 3, 1) := dAt (x := (29, .iload_n 3, 1)) DX5_onOther_0 17 rfl
theorem dX5_onOther_30 : decode cX5_onOther 30 = .ok (.iload_n 2, 1) := dAt (x := (30, .iload_n 2, 1)) DX5_onOther_0 18 rfl
theorem dX5_onOther_31 : decode cX5_onOther 31 = .ok (.invokevirtual 204, 3) := dAt (x := (31, .invokevirtual 204, 3)) DX5_onOther_0 19 rfl
theorem dX5_onOther_34 : decode cX5_onOther 34 = .ok (.iconst 1, 1) := dAt (x := (34, .iconst 1, 1)) DX5_onOther_0 20 rfl
theorem dX5_onOther_35 : decode cX5_onOther 35 = .ok (.ireturn, 1) := dAt (x := (35, .ireturn, 1)) DX5_onOther_0 21 rfl
def lDX5_asOther_0 : List (Nat × Instr × Nat) := [(0, .aload_n 0, 1), (1, .getfield 21, 3), (4, .iload_n 2, 1), (5, .invokevirtual 123, 3), (8, .ifCond .ne 9, 3), (11, .aload_n 0, 1), (12, .iconst 4, 1), (13, .invokevirtual 75, 3), (16, .ireturn, 1), (17, .aload_n 0, 1), (18, .getfield 21, 3), (21, .iload_n 2, 1), (22, .invokevirtual 218, 3), (25, .istore_n 3, 1), (26, .iload_n 3, 1), (27, .iload_n 1, 1), (28, .ishr, 1), (29, .iconst 1, 1), (30, .iand, 1), (31, .ifCond .eq 9, 3), (34, .aload_n 0, 1), (35, .iconst 5, 1), (36, .invokevirtual 75, 3), (39, .ireturn, 1), (40, .aload_n 0, 1), (41, .getfield 21, 3), (44, .iload_n 1, 1), (45, .iload_n 3, 1), (46, .invokevirtual 215, 3), (49, .aload_n 0, 1), (50, .getfield 21, 3), (53, .getfield 126, 3), (56, .bipush 16, 2), (58, .iload_n 2, 1), (59, .invokevirtual 204, 3), (62, .iconst 1, 1), (63, .ireturn, 1)]
theorem DX5_asOther_0 : dAll cX5_asOther lDX5_asOther_0 = true := by decide +kernel
theorem dX5_asOther_0 : decode cX5_asOther 0 = .ok (.aload_n 0, 1) := dAt (x := (0, .aload_n 0, 1)) DX5_asOther_0 0 rfl
theorem dX5_asOther_1 : decode cX5_asOther 1 = .ok (.getfield 21, 3) := dAt (x := (1, .getfield 21, 3)) DX5_asOther_0 1 rfl
theorem dX5_asOther_4 : decode cX5_asOther 4 = .ok (.iload_n 2, 1) := dAt (x := (4, .iload_n 2, 1)) DX5_asOther_0 2 rfl
theorem dX5_asOther_5 : decode cX5_asOther 5 = .ok (.invokevirtual 123, 3) := dAt (x := (5, .invokevirtual 123, 3)) DX5_asOther_0 3 rfl
theorem dX5_asOther_8 : decode cX5_asOther 8 = .ok (.ifCond .ne 9, 3) := dAt (x := (8, .ifCond .ne 9, 3)) DX5_asOther_0 4 rfl
theorem dX5_asOther_11 : decode cX5_asOther 11 = .ok (.aload_n 0, 1) := dAt (x := (11, .aload_n 0, 1)) DX5_asOther_0 5 rfl
theorem dX5_asOther_12 : decode cX5_asOther 12 = .ok (.iconst 4, 1) := dAt (x := (12, .iconst 4, 1)) DX5_asOther_0 6 rfl
theorem dX5_asOther_13 : decode cX5_asOther 13 = .ok (.invokevirtual 75, 3) := dAt (x := (13, .invokevirtual 75, 3)) DX5_asOther_0 7 rfl
theorem dX5_asOther_16 : decode cX5_asOther 16 = .ok (.ireturn, 1) := dAt (x := (16, .ireturn, 1)) DX5_asOther_0 8 rfl
theorem dX5_asOther_17 : decode cX5_asOther 17 = .ok (.aload_n 0, 1) := dAt (x := (17, .aload_n 0, 1)) DX5_asOther_0 9 rfl
theorem dX5_asOther_18 : decode cX5_asOther 18 = .ok (.getfield 21, 3) := dAt (x := (18, .getfield 21, 3)) DX5_asOther_0 10 rfl
theorem dX5_asOther_21 : decode cX5_asOther 21 = .ok (.iload_n 2, 1) := dAt (x := (21, .iload_n 2, 1)) DX5_asOther_0 11 rfl
theorem dX5_asOther_22 : decode cX5_asOther 22 = .ok (.invokevirtual 218, 3) := dAt (x := (22, .invokevirtual 218, 3)) DX5_asOther_0 12 rfl
theorem dX5_asOther_25 : decode cX5_asOther 25 = .ok (.istore_n 3, 1) := dAt (x := (25, .istore_n 3, 1)) DX5_asOther_0 13 rfl
theorem dX5_asOther_26 : decode cX5_asOther 26 = .ok (.iload_n 3, 1) := dAt (x := (26, .iload_n 3, 1)) DX5_asOther_0 14 rfl
theorem dX5_asOther_27 : decode cX5_asOther 27 = .ok (.iload_n 1, 1) := dAt (x := (27, .iload_n 1, 1)) DX5_asOther_0 15 rfl
theorem dX5_asOther_28 : decode cX5_asOther 28 = .ok (.ishr, 1) := dAt (x := (28, .ishr, 1)) DX5_asOther_0 16 rfl
theorem dX5_asOther_29 : decode cX5_asOther 29 = .ok (.iconst 1, 1) := dAt (x := (29, .iconst 1, 1)) DX5_asOther_0 17 rfl
theorem dX5_asOther_30 : decode cX5_asOther 30 = .ok (.iand, 1) := dAt (x := (30, .iand, 1)) DX5_asOther_0 18 rfl
theorem dX5_asOther_31 : decode cX5_asOther 31 = .ok (.ifCond .eq 9, 3) := dAt (x := (31, .ifCond .eq 9, 3)) DX5_asOther_0 19 rfl
theorem dX5_asOther_34 : decode cX5_asOther 34 = .ok (.aload_n 0, 1) := dAt (x := (34, .aload_n 0, 1)) DX5_asOther_0 20 rfl
theorem dX5_asOther_35 : decode cX5_asOther 35 = .ok (.iconst 5, 1) := dAt (x := (35, .iconst 5, 1)) DX5_asOther_0 21 rfl
theorem dX5_asOther_36 : decode cX5_asOther 36 = .ok (.invokevirtual 75, 3) := dAt (x := (36, .invokevirtual 75, 3)) DX5_asOther_0 22 rfl
theorem dX5_asOther_39 : decode cX5_asOther 39 = .ok (.ireturn, 1) := dAt (x := (39, .ireturn, 1)) DX5_asOther_0 23 rfl
theorem dX5_asOther_40 : decode cX5_asOther 40 = .ok (.aload_n 0, 1) := dAt (x := (40, .aload_n 0, 1)) DX5_asOther_0 24 rfl
theorem dX5_asOther_41 : decode cX5_asOther 41 = .ok (.getfield 21, 3) := dAt (x := (41, .getfield 21, 3)) DX5_asOther_0 25 rfl
theorem dX5_asOther_44 : decode cX5_asOther 44 = .ok (.iload_n 1, 1) := dAt (x := (44, .iload_n 1, 1)) DX5_asOther_0 26 rfl
theorem dX5_asOther_45 : decode cX5_asOther 45 = .ok (.iload_n 3, 1) := dAt (x := (45, .iload_n 3, 1)) DX5_asOther_0 27 rfl
theorem dX5_asOther_46 : decode cX5_asOther 46 = .ok (.invokevirtual 215, 3) := dAt (x := (46, .invokevirtual 215, 3)) DX5_asOther_0 28 rfl
theorem dX5_asOther_49 : decode cX5_asOther 49 = .ok (.aload_n 0, 1) := dAt (x := (49, .aload_n 0, 1)) DX5_asOther_0 29 rfl
theorem dX5_asOther_50 : decode cX5_asOther 50 = .ok (.getfield 21, 3) := dAt (x := (50, .getfield 21, 3)) DX5_asOther_0 30 rfl
theorem dX5_asOther_53 : decode cX5_asOther 53 = .ok (.getfield 126, 3) := dAt (x := (53, .getfield 126, 3)) DX5_asOther_0 31 rfl
theorem dX5_asOther_56 : decode cX5_asOther 56 = .ok (.bipush 16, 2) := dAt (x := (56, .bipush 16, 2)) DX5_asOther_0 32 rfl
theorem dX5_asOther_58 : decode cX5_asOther 58 = .ok (.iload_n 2, 1) := dAt (x := (58, .iload_n 2, 1)) DX5_asOther_0 33 rfl
theorem dX5_asOther_59 : decode cX5_asOther 59 = .ok (.invokevirtual 204, 3) := dAt (x := (59, .invokevirtual 204, 3)) DX5_asOther_0 34 rfl
theorem dX5_asOther_62 : decode cX5_asOther 62 = .ok (.iconst 1, 1) := dAt (x := (62, .iconst 1, 1)) DX5_asOther_0 35 rfl
theorem dX5_asOther_63 : decode cX5_asOther 63 = .ok (.ireturn, 1) := dAt (x := (63, .ireturn, 1)) DX5_asOther_0 36 rfl
def lDX6_init_0 : List (Nat × Instr × Nat) := [(0, .aload_n 0, 1), (1, .invokespecial 3, 3), (4, .return_, 1)]
theorem DX6_init_0 : dAll cX6_init lDX6_init_0 = true := by decide +kernel
theorem dX6_init_0 : decode cX6_init 0 = .ok (.aload_n 0, 1) := dAt (x := (0, .aload_n 0, 1)) DX6_init_0 0 rfl
theorem dX6_init_1 : decode cX6_init 1 = .ok (.invokespecial 3, 3) := dAt (x := (1, .invokespecial 3, 3)) DX6_init_0 1 rfl
theorem dX6_init_4 : decode cX6_init 4 = .ok (.return_, 1) := dAt (x := (4, .return_, 1)) DX6_init_0 2 rfl
def lDX6_look_0 : List (Nat × Instr × Nat) := [(0, .aload_n 0, 1), (1, .aload_n 1, 1), (2, .getfield 9, 3), (5, .putfield 15, 3), (8, .aload_n 0, 1), (9, .iload_n 2, 1), (10, .putfield 18, 3), (13, .aload_n 0, 1), (14, .aload_n 1, 1), (15, .iload_n 2, 1), (16, .invokevirtual 21, 3), (19, .putfield 25, 3), (22, .aload_n 0, 1), (23, .aload_n 1, 1), (24, .getfield 28, 3), (27, .invokestatic 31, 3), (30, .putfield 36, 3), (33, .aload_n 0, 1), (34, .aload_n 1, 1), (35, .getfield 39, 3), (38, .putfield 42, 3), (41, .aload_n 0, 1), (42, .aload_n 1, 1), (43, .getfield 45, 3), (46, .putfield 48, 3), (49, .return_, 1)]
theorem DX6_look_0 : dAll cX6_look lDX6_look_0 = true := by decide +kernel
theorem dX6_look_0 : decode cX6_look 0 = .ok (.aload_n 0, 1) := dAt (x := (0, .aload_n 0, 1)) DX6_look_0 0 rfl
theorem dX6_look_1 : decode cX6_look 1 = .ok (.aload_n 1, 1) := dAt (x := (1, .aload_n 1, 1)) DX6_look_0 1 rfl
theorem dX6_look_2 : decode cX6_look 2 = .ok (.getfield 9, 3) := dAt (x := (2, .getfield 9, 3)) DX6_look_0 2 rfl
theorem dX6_look_5 : decode cX6_look 5 = .ok (.putfield 15, 3) := dAt (x := (5, .putfield 15, 3)) DX6_look_0 3 rfl
theorem dX6_look_8 : decode cX6_look 8 = .ok (.aload_n 0, 1) := dAt (x := (8, .aload_n 0, 1)) DX6_look_0 4 rfl
theorem dX6_look_9 : decode cX6_look 9 = .ok (.iload_n 2, 1) := dAt (x := (9, .iload_n 2, 1)) DX6_look_0 5 rfl
theorem dX6_look_10 : decode cX6_look 10 = .ok (.putfield 18, 3) := dAt (x := (10, .putfield 18, 3)) DX6_look_0 6 rfl
theorem dX6_look_13 : decode cX6_look 13 = .ok (.aload_n 0, 1) := dAt (x := (13, .aload_n 0, 1)) DX6_look_0 7 rfl
theorem dX6_look_14 : decode cX6_look 14 = .ok (.aload_n 1, 1) := dAt (x := (14, .aload_n 1, 1)) DX6_look_0 8 rfl
theorem dX6_look_15 : decode cX6_look 15 = .ok (.iload_n 2, 1) := dAt (x := (15, .iload_n 2, 1)) DX6_look_0 9 rfl
theorem dX6_look_16 : decode cX6_look 16 = .ok (.invokevirtual 21, 3) := dAt (x := (16, .invokevirtual 21, 3)) DX6_look_0 10 rfl
theorem dX6_look_19 : decode cX6_look 19 = .ok (.putfield 25, 3) := dAt (x := (19, .putfield 25, 3)) DX6_look_0 11 rfl
theorem dX6_look_22 : decode cX6_look 22 = .ok (.aload_n 0, 1) := dAt (x := (22, .aload_n 0, 1)) DX6_look_0 12 rfl
theorem dX6_look_23 : decode cX6_look 23 = .ok (.aload_n 1, 1) := dAt (x := (23, .aload_n 1, 1)) DX6_look_0 13 rfl
theorem dX6_look_24 : decode cX6_look 24 = .ok (.getfield 28, 3) := dAt (x := (24, .getfield 28, 3)) DX6_look_0 14 rfl
theorem dX6_look_27 : decode cX6_look 27 = .ok (.invokestatic 31, 3) := dAt (x := (27, .invokestatic 31, 3)) DX6_look_0 15 rfl
theorem dX6_look_30 : decode cX6_look 30 = .ok (.putfield 36, 3) := dAt (x := (30, .putfield 36, 3)) DX6_look_0 16 rfl
theorem dX6_look_33 : decode cX6_look 33 = .ok (.aload_n 0, 1) := dAt (x := (33, .aload_n 0, 1)) DX6_look_0 17 rfl
theorem dX6_look_34 : decode cX6_look 34 = .ok (.aload_n 1, 1) := dAt (x := (34, .aload_n 1, 1)) DX6_look_0 18 rfl
theorem dX6_look_35 : decode cX6_look 35 = .ok (.getfield 39, 3) := dAt (x := (35, .getfield 39, 3)) DX6_look_0 19 rfl
theorem dX6_look_38 : decode cX6_look 38 = .ok (.putfield 42, 3) := dAt (x := (38, .putfield 42, 3)) DX6_look_0 20 rfl
theorem dX6_look_41 : decode cX6_look 41 = .ok (.aload_n 0, 1) := dAt (x := (41, .aload_n 0, 1)) DX6_look_0 21 rfl
theorem dX6_look_42 : decode cX6_look 42 = .ok (.aload_n 1, 1) := dAt (x := (42, .aload_n 1, 1)) DX6_look_0 22 rfl
theorem dX6_look_43 : decode cX6_look 43 = .ok (.getfield 45, 3) := dAt (x := (43, .getfield 45, 3)) DX6_look_0 23 rfl
theorem dX6_look_46 : decode cX6_look 46 = .ok (.putfield 48, 3) := dAt (x := (46, .putfield 48, 3)) DX6_look_0 24 rfl
theorem dX6_look_49 : decode cX6_look 49 = .ok (.return_, 1) := dAt (x := (49, .return_, 1)) DX6_look_0 25 rfl
def lDX6_leaf_0 : List (Nat × Instr × Nat) := [(0, .iload_n 1, 1), (1, .tableswitch 147 13 23 #[59, 68, 79, 93, 102, 107, 112, 120, 125, 137, 142], 59), (60, .aload_n 0, 1), (61, .getfield 15, 3), (64, .iload_n 2, 1), (65, .ishr, 1), (66, .iconst 1, 1), (67, .iand, 1), (68, .ireturn, 1), (69, .aload_n 0, 1), (70, .getfield 15, 3), (73, .iconst (-1), 1), (74, .ixor, 1), (75, .iload_n 2, 1), (76, .ishr, 1), (77, .iconst 1, 1), (78, .iand, 1), (79, .ireturn, 1), (80, .aload_n 0, 1), (81, .getfield 49, 3), (84, .iload_n 2, 1), (85, .if_icmp .lt 7, 3), (88, .iconst 1, 1), (89, .goto 4, 3), (92, .iconst 0, 1), (93, .ireturn, 1), (94, .aload_n 0, 1), (95, .getfield 52, 3), (98, .iload_n 2, 1), (99, .ishr, 1), (100, .iconst 1, 1), (101, .iand, 1), (102, .ireturn, 1), (103, .aload_n 0, 1), (104, .getfield 25, 3), (107, .ireturn, 1), (108, .aload_n 0, 1), (109, .getfield 18, 3), (112, .ireturn, 1), (113, .aload_n 0, 1), (114, .getfield 15, 3), (117, .invokestatic 31, 3), (120, .ireturn, 1), (121, .aload_n 0, 1), (122, .getfield 36, 3), (125, .ireturn, 1), (126, .aload_n 0, 1), (127, .getfield 15, 3), (130, .aload_n 0, 1), (131, .getfield 18, 3), (134, .ishr, 1), (135, .iconst 1, 1), (136, .iand, 1), (137, .ireturn, 1), (138, .aload_n 0, 1), (139, .getfield 42, 3), (142, .ireturn, 1), (143, .aload_n 0, 1), (144, .getfield 48, 3), (147, .ireturn, 1)]
theorem DX6_leaf_0 : dAll cX6_leaf lDX6_leaf_0 = true := by decide +kernel
theorem dX6_leaf_0 : decode cX6_leaf 0 = .ok (.iload_n 1, 1) := dAt (x := (0, .iload_n 1, 1)) DX6_leaf_0 0 rfl
theorem dX6_leaf_1 : decode cX6_leaf 1 = .ok (.tableswitch 147 13 23 #[59, 68, 79, 93, 102, 107, 112, 120, 125, 137, 142], 59) := dAt (x := (1, .tableswitch 147 13 23 #[59, 68, 79, 93, 102, 107, 112, 120, 125, 137, 142], 59)) DX6_leaf_0 1 rfl
theorem dX6_leaf_60 : decode cX6_leaf 60 = .ok (.aload_n 0, 1) := dAt (x := (60, .aload_n 0, 1)) DX6_leaf_0 2 rfl
theorem dX6_leaf_61 : decode cX6_leaf 61 = .ok (.getfield 15, 3) := dAt (x := (61, .getfield 15, 3)) DX6_leaf_0 3 rfl
theorem dX6_leaf_64 : decode cX6_leaf 64 = .ok (.iload_n 2, 1) := dAt (x := (64, .iload_n 2, 1)) DX6_leaf_0 4 rfl
theorem dX6_leaf_65 : decode cX6_leaf 65 = .ok (.ishr, 1) := dAt (x := (65, .ishr, 1)) DX6_leaf_0 5 rfl
theorem dX6_leaf_66 : decode cX6_leaf 66 = .ok (.iconst 1, 1) := dAt (x := (66, .iconst 1, 1)) DX6_leaf_0 6 rfl
theorem dX6_leaf_67 : decode cX6_leaf 67 = .ok (.iand, 1) := dAt (x := (67, .iand, 1)) DX6_leaf_0 7 rfl
theorem dX6_leaf_68 : decode cX6_leaf 68 = .ok (.ireturn, 1) := dAt (x := (68, .ireturn, 1)) DX6_leaf_0 8 rfl
theorem dX6_leaf_69 : decode cX6_leaf 69 = .ok (.aload_n 0, 1) := dAt (x := (69, .aload_n 0, 1)) DX6_leaf_0 9 rfl
theorem dX6_leaf_70 : decode cX6_leaf 70 = .ok (.getfield 15, 3) := dAt (x := (70, .getfield 15, 3)) DX6_leaf_0 10 rfl
theorem dX6_leaf_73 : decode cX6_leaf 73 = .ok (.iconst (-1), 1) := dAt (x := (73, .iconst (-1), 1)) DX6_leaf_0 11 rfl
theorem dX6_leaf_74 : decode cX6_leaf 74 = .ok (.ixor, 1) := dAt (x := (74, .ixor, 1)) DX6_leaf_0 12 rfl
theorem dX6_leaf_75 : decode cX6_leaf 75 = .ok (.iload_n 2, 1) := dAt (x := (75, .iload_n 2, 1)) DX6_leaf_0 13 rfl
theorem dX6_leaf_76 : decode cX6_leaf 76 = .ok (.ishr, 1) := dAt (x := (76, .ishr, 1)) DX6_leaf_0 14 rfl
theorem dX6_leaf_77 : decode cX6_leaf 77 = .ok (.iconst 1, 1) := dAt (x := (77, .iconst 1, 1)) DX6_leaf_0 15 rfl
theorem dX6_leaf_78 : decode cX6_leaf 78 = .ok (.iand, 1) := dAt (x := (78, .iand, 1)) DX6_leaf_0 16 rfl
theorem dX6_leaf_79 : decode cX6_leaf 79 = .ok (.ireturn, 1) := dAt (x := (79, .ireturn, 1)) DX6_leaf_0 17 rfl
theorem dX6_leaf_80 : decode cX6_leaf 80 = .ok (.aload_n 0, 1) := dAt (x := (80, .aload_n 0, 1)) DX6_leaf_0 18 rfl
theorem dX6_leaf_81 : decode cX6_leaf 81 = .ok (.getfield 49, 3) := dAt (x := (81, .getfield 49, 3)) DX6_leaf_0 19 rfl
theorem dX6_leaf_84 : decode cX6_leaf 84 = .ok (.iload_n 2, 1) := dAt (x := (84, .iload_n 2, 1)) DX6_leaf_0 20 rfl
theorem dX6_leaf_85 : decode cX6_leaf 85 = .ok (.if_icmp .lt 7, 3) := dAt (x := (85, .if_icmp .lt 7, 3)) DX6_leaf_0 21 rfl
theorem dX6_leaf_88 : decode cX6_leaf 88 = .ok (.iconst 1, 1) := dAt (x := (88, .iconst 1, 1)) DX6_leaf_0 22 rfl
theorem dX6_leaf_89 : decode cX6_leaf 89 = .ok (.goto 4, 3) := dAt (x := (89, .goto 4, 3)) DX6_leaf_0 23 rfl
theorem dX6_leaf_92 : decode cX6_leaf 92 = .ok (.iconst 0, 1) := dAt (x := (92, .iconst 0, 1)) DX6_leaf_0 24 rfl
theorem dX6_leaf_93 : decode cX6_leaf 93 = .ok (.ireturn, 1) := dAt (x := (93, .ireturn, 1)) DX6_leaf_0 25 rfl
theorem dX6_leaf_94 : decode cX6_leaf 94 = .ok (.aload_n 0, 1) := dAt (x := (94, .aload_n 0, 1)) DX6_leaf_0 26 rfl
theorem dX6_leaf_95 : decode cX6_leaf 95 = .ok (.getfield 52, 3) := dAt (x := (95, .getfield 52, 3)) DX6_leaf_0 27 rfl
theorem dX6_leaf_98 : decode cX6_leaf 98 = .ok (.iload_n 2, 1) := dAt (x := (98, .iload_n 2, 1)) DX6_leaf_0 28 rfl
theorem dX6_leaf_99 : decode cX6_leaf 99 = .ok (.ishr, 1) := dAt (x := (99, .ishr, 1)) DX6_leaf_0 29 rfl
theorem dX6_leaf_100 : decode cX6_leaf 100 = .ok (.iconst 1, 1) := dAt (x := (100, .iconst 1, 1)) DX6_leaf_0 30 rfl
theorem dX6_leaf_101 : decode cX6_leaf 101 = .ok (.iand, 1) := dAt (x := (101, .iand, 1)) DX6_leaf_0 31 rfl
theorem dX6_leaf_102 : decode cX6_leaf 102 = .ok (.ireturn, 1) := dAt (x := (102, .ireturn, 1)) DX6_leaf_0 32 rfl
theorem dX6_leaf_103 : decode cX6_leaf 103 = .ok (.aload_n 0, 1) := dAt (x := (103, .aload_n 0, 1)) DX6_leaf_0 33 rfl
theorem dX6_leaf_104 : decode cX6_leaf 104 = .ok (.getfield 25, 3) := dAt (x := (104, .getfield 25, 3)) DX6_leaf_0 34 rfl
theorem dX6_leaf_107 : decode cX6_leaf 107 = .ok (.ireturn, 1) := dAt (x := (107, .ireturn, 1)) DX6_leaf_0 35 rfl
theorem dX6_leaf_108 : decode cX6_leaf 108 = .ok (.aload_n 0, 1) := dAt (x := (108, .aload_n 0, 1)) DX6_leaf_0 36 rfl
theorem dX6_leaf_109 : decode cX6_leaf 109 = .ok (.getfield 18, 3) := dAt (x := (109, .getfield 18, 3)) DX6_leaf_0 37 rfl
theorem dX6_leaf_112 : decode cX6_leaf 112 = .ok (.ireturn, 1) := dAt (x := (112, .ireturn, 1)) DX6_leaf_0 38 rfl
theorem dX6_leaf_113 : decode cX6_leaf 113 = .ok (.aload_n 0, 1) := dAt (x := (113, .aload_n 0, 1)) DX6_leaf_0 39 rfl
theorem dX6_leaf_114 : decode cX6_leaf 114 = .ok (.getfield 15, 3) := dAt (x := (114, .getfield 15, 3)) DX6_leaf_0 40 rfl
theorem dX6_leaf_117 : decode cX6_leaf 117 = .ok (.invokestatic 31, 3) := dAt (x := (117, .invokestatic 31, 3)) DX6_leaf_0 41 rfl
theorem dX6_leaf_120 : decode cX6_leaf 120 = .ok (.ireturn, 1) := dAt (x := (120, .ireturn, 1)) DX6_leaf_0 42 rfl
theorem dX6_leaf_121 : decode cX6_leaf 121 = .ok (.aload_n 0, 1) := dAt (x := (121, .aload_n 0, 1)) DX6_leaf_0 43 rfl
theorem dX6_leaf_122 : decode cX6_leaf 122 = .ok (.getfield 36, 3) := dAt (x := (122, .getfield 36, 3)) DX6_leaf_0 44 rfl
theorem dX6_leaf_125 : decode cX6_leaf 125 = .ok (.ireturn, 1) := dAt (x := (125, .ireturn, 1)) DX6_leaf_0 45 rfl
theorem dX6_leaf_126 : decode cX6_leaf 126 = .ok (.aload_n 0, 1) := dAt (x := (126, .aload_n 0, 1)) DX6_leaf_0 46 rfl
theorem dX6_leaf_127 : decode cX6_leaf 127 = .ok (.getfield 15, 3) := dAt (x := (127, .getfield 15, 3)) DX6_leaf_0 47 rfl
theorem dX6_leaf_130 : decode cX6_leaf 130 = .ok (.aload_n 0, 1) := dAt (x := (130, .aload_n 0, 1)) DX6_leaf_0 48 rfl
theorem dX6_leaf_131 : decode cX6_leaf 131 = .ok (.getfield 18, 3) := dAt (x := (131, .getfield 18, 3)) DX6_leaf_0 49 rfl
theorem dX6_leaf_134 : decode cX6_leaf 134 = .ok (.ishr, 1) := dAt (x := (134, .ishr, 1)) DX6_leaf_0 50 rfl
theorem dX6_leaf_135 : decode cX6_leaf 135 = .ok (.iconst 1, 1) := dAt (x := (135, .iconst 1, 1)) DX6_leaf_0 51 rfl
theorem dX6_leaf_136 : decode cX6_leaf 136 = .ok (.iand, 1) := dAt (x := (136, .iand, 1)) DX6_leaf_0 52 rfl
theorem dX6_leaf_137 : decode cX6_leaf 137 = .ok (.ireturn, 1) := dAt (x := (137, .ireturn, 1)) DX6_leaf_0 53 rfl
theorem dX6_leaf_138 : decode cX6_leaf 138 = .ok (.aload_n 0, 1) := dAt (x := (138, .aload_n 0, 1)) DX6_leaf_0 54 rfl
theorem dX6_leaf_139 : decode cX6_leaf 139 = .ok (.getfield 42, 3) := dAt (x := (139, .getfield 42, 3)) DX6_leaf_0 55 rfl
theorem dX6_leaf_142 : decode cX6_leaf 142 = .ok (.ireturn, 1) := dAt (x := (142, .ireturn, 1)) DX6_leaf_0 56 rfl
theorem dX6_leaf_143 : decode cX6_leaf 143 = .ok (.aload_n 0, 1) := dAt (x := (143, .aload_n 0, 1)) DX6_leaf_0 57 rfl
theorem dX6_leaf_144 : decode cX6_leaf 144 = .ok (.getfield 48, 3) := dAt (x := (144, .getfield 48, 3)) DX6_leaf_0 58 rfl
theorem dX6_leaf_147 : decode cX6_leaf 147 = .ok (.ireturn, 1) := dAt (x := (147, .ireturn, 1)) DX6_leaf_0 59 rfl
def lDX6_leaf_1 : List (Nat × Instr × Nat) := [(148, .iload_n 2, 1), (149, .ireturn, 1)]
theorem DX6_leaf_1 : dAll cX6_leaf lDX6_leaf_1 = true := by decide +kernel
theorem dX6_leaf_148 : decode cX6_leaf 148 = .ok (.iload_n 2, 1) := dAt (x := (148, .iload_n 2, 1)) DX6_leaf_1 0 rfl
theorem dX6_leaf_149 : decode cX6_leaf 149 = .ok (.ireturn, 1) := dAt (x := (149, .ireturn, 1)) DX6_leaf_1 1 rfl
def lDX7_init_0 : List (Nat × Instr × Nat) := [(0, .aload_n 0, 1), (1, .invokespecial 3, 3), (4, .aload_n 0, 1), (5, .bipush 8, 2), (7, .newarray .int, 2), (9, .putfield 9, 3), (12, .return_, 1)]
theorem DX7_init_0 : dAll cX7_init lDX7_init_0 = true := by decide +kernel
theorem dX7_init_0 : decode cX7_init 0 = .ok (.aload_n 0, 1) := dAt (x := (0, .aload_n 0, 1)) DX7_init_0 0 rfl
theorem dX7_init_1 : decode cX7_init 1 = .ok (.invokespecial 3, 3) := dAt (x := (1, .invokespecial 3, 3)) DX7_init_0 1 rfl
theorem dX7_init_4 : decode cX7_init 4 = .ok (.aload_n 0, 1) := dAt (x := (4, .aload_n 0, 1)) DX7_init_0 2 rfl
theorem dX7_init_5 : decode cX7_init 5 = .ok (.bipush 8, 2) := dAt (x := (5, .bipush 8, 2)) DX7_init_0 3 rfl
theorem dX7_init_7 : decode cX7_init 7 = .ok (.newarray .int, 2) := dAt (x := (7, .newarray .int, 2)) DX7_init_0 4 rfl
theorem dX7_init_9 : decode cX7_init 9 = .ok (.putfield 9, 3) := dAt (x := (9, .putfield 9, 3)) DX7_init_0 5 rfl
theorem dX7_init_12 : decode cX7_init 12 = .ok (.return_, 1) := dAt (x := (12, .return_, 1)) DX7_init_0 6 rfl
def lDX7_begin_0 : List (Nat × Instr × Nat) := [(0, .aload_n 0, 1), (1, .iconst 0, 1), (2, .putfield 15, 3), (5, .aload_n 0, 1), (6, .aload_n 1, 1), (7, .getfield 19, 3), (10, .putfield 24, 3), (13, .aload_n 0, 1), (14, .iconst 0, 1), (15, .putfield 27, 3), (18, .aload_n 0, 1), (19, .iconst 0, 1), (20, .putfield 30, 3), (23, .aload_n 0, 1), (24, .iconst 0, 1), (25, .putfield 33, 3), (28, .aload_n 0, 1), (29, .aload_n 1, 1), (30, .getfield 36, 3), (33, .i2l, 1), (34, .putfield 39, 3), (37, .aload_n 0, 1), (38, .getfield 9, 3), (41, .iconst 0, 1), (42, .invokestatic 43, 3), (45, .return_, 1)]
theorem DX7_begin_0 : dAll cX7_begin lDX7_begin_0 = true := by decide +kernel
theorem dX7_begin_0 : decode cX7_begin 0 = .ok (.aload_n 0, 1) := dAt (x := (0, .aload_n 0, 1)) DX7_begin_0 0 rfl
theorem dX7_begin_1 : decode cX7_begin 1 = .ok (.iconst 0, 1) := dAt (x := (1, .iconst 0, 1)) DX7_begin_0 1 rfl
theorem dX7_begin_2 : decode cX7_begin 2 = .ok (.putfield 15, 3) := dAt (x := (2, .putfield 15, 3)) DX7_begin_0 2 rfl
theorem dX7_begin_5 : decode cX7_begin 5 = .ok (.aload_n 0, 1) := dAt (x := (5, .aload_n 0, 1)) DX7_begin_0 3 rfl
theorem dX7_begin_6 : decode cX7_begin 6 = .ok (.aload_n 1, 1) := dAt (x := (6, .aload_n 1, 1)) DX7_begin_0 4 rfl
theorem dX7_begin_7 : decode cX7_begin 7 = .ok (.getfield 19, 3) := dAt (x := (7, .getfield 19, 3)) DX7_begin_0 5 rfl
theorem dX7_begin_10 : decode cX7_begin 10 = .ok (.putfield 24, 3) := dAt (x := (10, .putfield 24, 3)) DX7_begin_0 6 rfl
theorem dX7_begin_13 : decode cX7_begin 13 = .ok (.aload_n 0, 1) := dAt (x := (13, .aload_n 0, 1)) DX7_begin_0 7 rfl
theorem dX7_begin_14 : decode cX7_begin 14 = .ok (.iconst 0, 1) := dAt (x := (14, .iconst 0, 1)) DX7_begin_0 8 rfl
theorem dX7_begin_15 : decode cX7_begin 15 = .ok (.putfield 27, 3) := dAt (x := (15, .putfield 27, 3)) DX7_begin_0 9 rfl
theorem dX7_begin_18 : decode cX7_begin 18 = .ok (.aload_n 0, 1) := dAt (x := (18, .aload_n 0, 1)) DX7_begin_0 10 rfl
theorem dX7_begin_19 : decode cX7_begin 19 = .ok (.iconst 0, 1) := dAt (x := (19, .iconst 0, 1)) DX7_begin_0 11 rfl
theorem dX7_begin_20 : decode cX7_begin 20 = .ok (.putfield 30, 3) := dAt (x := (20, .putfield 30, 3)) DX7_begin_0 12 rfl
theorem dX7_begin_23 : decode cX7_begin 23 = .ok (.aload_n 0, 1) := dAt (x := (23, .aload_n 0, 1)) DX7_begin_0 13 rfl
theorem dX7_begin_24 : decode cX7_begin 24 = .ok (.iconst 0, 1) := dAt (x := (24, .iconst 0, 1)) DX7_begin_0 14 rfl
theorem dX7_begin_25 : decode cX7_begin 25 = .ok (.putfield 33, 3) := dAt (x := (25, .putfield 33, 3)) DX7_begin_0 15 rfl
theorem dX7_begin_28 : decode cX7_begin 28 = .ok (.aload_n 0, 1) := dAt (x := (28, .aload_n 0, 1)) DX7_begin_0 16 rfl
theorem dX7_begin_29 : decode cX7_begin 29 = .ok (.aload_n 1, 1) := dAt (x := (29, .aload_n 1, 1)) DX7_begin_0 17 rfl
theorem dX7_begin_30 : decode cX7_begin 30 = .ok (.getfield 36, 3) := dAt (x := (30, .getfield 36, 3)) DX7_begin_0 18 rfl
theorem dX7_begin_33 : decode cX7_begin 33 = .ok (.i2l, 1) := dAt (x := (33, .i2l, 1)) DX7_begin_0 19 rfl
theorem dX7_begin_34 : decode cX7_begin 34 = .ok (.putfield 39, 3) := dAt (x := (34, .putfield 39, 3)) DX7_begin_0 20 rfl
theorem dX7_begin_37 : decode cX7_begin 37 = .ok (.aload_n 0, 1) := dAt (x := (37, .aload_n 0, 1)) DX7_begin_0 21 rfl
theorem dX7_begin_38 : decode cX7_begin 38 = .ok (.getfield 9, 3) := dAt (x := (38, .getfield 9, 3)) DX7_begin_0 22 rfl
theorem dX7_begin_41 : decode cX7_begin 41 = .ok (.iconst 0, 1) := dAt (x := (41, .iconst 0, 1)) DX7_begin_0 23 rfl
theorem dX7_begin_42 : decode cX7_begin 42 = .ok (.invokestatic 43, 3) := dAt (x := (42, .invokestatic 43, 3)) DX7_begin_0 24 rfl
theorem dX7_begin_45 : decode cX7_begin 45 = .ok (.return_, 1) := dAt (x := (45, .return_, 1)) DX7_begin_0 25 rfl
def lDX7_take_0 : List (Nat × Instr × Nat) := [(0, .aload_n 0, 1), (1, .aload_n 1, 1), (2, .getfield 15, 3), (5, .putfield 15, 3), (8, .aload_n 0, 1), (9, .aload_n 1, 1), (10, .getfield 24, 3), (13, .putfield 24, 3), (16, .aload_n 0, 1), (17, .aload_n 1, 1), (18, .getfield 27, 3), (21, .putfield 27, 3), (24, .aload_n 0, 1), (25, .aload_n 1, 1), (26, .getfield 30, 3), (29, .putfield 30, 3), (32, .aload_n 0, 1), (33, .aload_n 1, 1), (34, .getfield 33, 3), (37, .putfield 33, 3), (40, .aload_n 0, 1), (41, .aload_n 1, 1), (42, .getfield 39, 3), (45, .putfield 39, 3), (48, .aload_n 1, 1), (49, .getfield 9, 3), (52, .iconst 0, 1), (53, .aload_n 0, 1), (54, .getfield 9, 3), (57, .iconst 0, 1), (58, .bipush 8, 2), (60, .invokestatic 49, 3), (63, .return_, 1)]
theorem DX7_take_0 : dAll cX7_take lDX7_take_0 = true := by decide +kernel
theorem dX7_take_0 : decode cX7_take 0 = .ok (.aload_n 0, 1) := dAt (x := (0, .aload_n 0, 1)) DX7_take_0 0 rfl
theorem dX7_take_1 : decode cX7_take 1 = .ok (.aload_n 1, 1) := dAt (x := (1, .aload_n 1, 1)) DX7_take_0 1 rfl
theorem dX7_take_2 : decode cX7_take 2 = .ok (.getfield 15, 3) := dAt (x := (2, .getfield 15, 3)) DX7_take_0 2 rfl
theorem dX7_take_5 : decode cX7_take 5 = .ok (.putfield 15, 3) := dAt (x := (5, .putfield 15, 3)) DX7_take_0 3 rfl
theorem dX7_take_8 : decode cX7_take 8 = .ok (.aload_n 0, 1) := dAt (x := (8, .aload_n 0, 1)) DX7_take_0 4 rfl
theorem dX7_take_9 : decode cX7_take 9 = .ok (.aload_n 1, 1) := dAt (x := (9, .aload_n 1, 1)) DX7_take_0 5 rfl
theorem dX7_take_10 : decode cX7_take 10 = .ok (.getfield 24, 3) := dAt (x := (10, .getfield 24, 3)) DX7_take_0 6 rfl
theorem dX7_take_13 : decode cX7_take 13 = .ok (.putfield 24, 3) := dAt (x := (13, .putfield 24, 3)) DX7_take_0 7 rfl
theorem dX7_take_16 : decode cX7_take 16 = .ok (.aload_n 0, 1) := dAt (x := (16, .aload_n 0, 1)) DX7_take_0 8 rfl
theorem dX7_take_17 : decode cX7_take 17 = .ok (.aload_n 1, 1) := dAt (x := (17, .aload_n 1, 1)) DX7_take_0 9 rfl
theorem dX7_take_18 : decode cX7_take 18 = .ok (.getfield 27, 3) := dAt (x := (18, .getfield 27, 3)) DX7_take_0 10 rfl
theorem dX7_take_21 : decode cX7_take 21 = .ok (.putfield 27, 3) := dAt (x := (21, .putfield 27, 3)) DX7_take_0 11 rfl
theorem dX7_take_24 : decode cX7_take 24 = .ok (.aload_n 0, 1) := dAt (x := (24, .aload_n 0, 1)) DX7_take_0 12 rfl
theorem dX7_take_25 : decode cX7_take 25 = .ok (.aload_n 1, 1) := dAt (x := (25, .aload_n 1, 1)) DX7_take_0 13 rfl
theorem dX7_take_26 : decode cX7_take 26 = .ok (.getfield 30, 3) := dAt (x := (26, .getfield 30, 3)) DX7_take_0 14 rfl
theorem dX7_take_29 : decode cX7_take 29 = .ok (.putfield 30, 3) := dAt (x := (29, .putfield 30, 3)) DX7_take_0 15 rfl
theorem dX7_take_32 : decode cX7_take 32 = .ok (.aload_n 0, 1) := dAt (x := (32, .aload_n 0, 1)) DX7_take_0 16 rfl
theorem dX7_take_33 : decode cX7_take 33 = .ok (.aload_n 1, 1) := dAt (x := (33, .aload_n 1, 1)) DX7_take_0 17 rfl
theorem dX7_take_34 : decode cX7_take 34 = .ok (.getfield 33, 3) := dAt (x := (34, .getfield 33, 3)) DX7_take_0 18 rfl
theorem dX7_take_37 : decode cX7_take 37 = .ok (.putfield 33, 3) := dAt (x := (37, .putfield 33, 3)) DX7_take_0 19 rfl
theorem dX7_take_40 : decode cX7_take 40 = .ok (.aload_n 0, 1) := dAt (x := (40, .aload_n 0, 1)) DX7_take_0 20 rfl
theorem dX7_take_41 : decode cX7_take 41 = .ok (.aload_n 1, 1) := dAt (x := (41, .aload_n 1, 1)) DX7_take_0 21 rfl
theorem dX7_take_42 : decode cX7_take 42 = .ok (.getfield 39, 3) := dAt (x := (42, .getfield 39, 3)) DX7_take_0 22 rfl
theorem dX7_take_45 : decode cX7_take 45 = .ok (.putfield 39, 3) := dAt (x := (45, .putfield 39, 3)) DX7_take_0 23 rfl
theorem dX7_take_48 : decode cX7_take 48 = .ok (.aload_n 1, 1) := dAt (x := (48, .aload_n 1, 1)) DX7_take_0 24 rfl
theorem dX7_take_49 : decode cX7_take 49 = .ok (.getfield 9, 3) := dAt (x := (49, .getfield 9, 3)) DX7_take_0 25 rfl
theorem dX7_take_52 : decode cX7_take 52 = .ok (.iconst 0, 1) := dAt (x := (52, .iconst 0, 1)) DX7_take_0 26 rfl
theorem dX7_take_53 : decode cX7_take 53 = .ok (.aload_n 0, 1) := dAt (x := (53, .aload_n 0, 1)) DX7_take_0 27 rfl
theorem dX7_take_54 : decode cX7_take 54 = .ok (.getfield 9, 3) := dAt (x := (54, .getfield 9, 3)) DX7_take_0 28 rfl
theorem dX7_take_57 : decode cX7_take 57 = .ok (.iconst 0, 1) := dAt (x := (57, .iconst 0, 1)) DX7_take_0 29 rfl
theorem dX7_take_58 : decode cX7_take 58 = .ok (.bipush 8, 2) := dAt (x := (58, .bipush 8, 2)) DX7_take_0 30 rfl
theorem dX7_take_60 : decode cX7_take 60 = .ok (.invokestatic 49, 3) := dAt (x := (60, .invokestatic 49, 3)) DX7_take_0 31 rfl
theorem dX7_take_63 : decode cX7_take 63 = .ok (.return_, 1) := dAt (x := (63, .return_, 1)) DX7_take_0 32 rfl
def lDX7_wornOf_0 : List (Nat × Instr × Nat) := [(0, .iload_n 1, 1), (1, .ifCond .lt 18, 3), (4, .iload_n 1, 1), (5, .bipush 8, 2), (7, .if_icmp .ge 12, 3), (10, .aload_n 0, 1), (11, .getfield 9, 3), (14, .iload_n 1, 1), (15, .iaload, 1), (16, .goto 4, 3), (19, .iconst 0, 1), (20, .ireturn, 1)]
theorem DX7_wornOf_0 : dAll cX7_wornOf lDX7_wornOf_0 = true := by decide +kernel
theorem dX7_wornOf_0 : decode cX7_wornOf 0 = .ok (.iload_n 1, 1) := dAt (x := (0, .iload_n 1, 1)) DX7_wornOf_0 0 rfl
theorem dX7_wornOf_1 : decode cX7_wornOf 1 = .ok (.ifCond .lt 18, 3) := dAt (x := (1, .ifCond .lt 18, 3)) DX7_wornOf_0 1 rfl
theorem dX7_wornOf_4 : decode cX7_wornOf 4 = .ok (.iload_n 1, 1) := dAt (x := (4, .iload_n 1, 1)) DX7_wornOf_0 2 rfl
theorem dX7_wornOf_5 : decode cX7_wornOf 5 = .ok (.bipush 8, 2) := dAt (x := (5, .bipush 8, 2)) DX7_wornOf_0 3 rfl
theorem dX7_wornOf_7 : decode cX7_wornOf 7 = .ok (.if_icmp .ge 12, 3) := dAt (x := (7, .if_icmp .ge 12, 3)) DX7_wornOf_0 4 rfl
theorem dX7_wornOf_10 : decode cX7_wornOf 10 = .ok (.aload_n 0, 1) := dAt (x := (10, .aload_n 0, 1)) DX7_wornOf_0 5 rfl
theorem dX7_wornOf_11 : decode cX7_wornOf 11 = .ok (.getfield 9, 3) := dAt (x := (11, .getfield 9, 3)) DX7_wornOf_0 6 rfl
theorem dX7_wornOf_14 : decode cX7_wornOf 14 = .ok (.iload_n 1, 1) := dAt (x := (14, .iload_n 1, 1)) DX7_wornOf_0 7 rfl
theorem dX7_wornOf_15 : decode cX7_wornOf 15 = .ok (.iaload, 1) := dAt (x := (15, .iaload, 1)) DX7_wornOf_0 8 rfl
theorem dX7_wornOf_16 : decode cX7_wornOf 16 = .ok (.goto 4, 3) := dAt (x := (16, .goto 4, 3)) DX7_wornOf_0 9 rfl
theorem dX7_wornOf_19 : decode cX7_wornOf 19 = .ok (.iconst 0, 1) := dAt (x := (19, .iconst 0, 1)) DX7_wornOf_0 10 rfl
theorem dX7_wornOf_20 : decode cX7_wornOf 20 = .ok (.ireturn, 1) := dAt (x := (20, .ireturn, 1)) DX7_wornOf_0 11 rfl
def lDX7_wear_0 : List (Nat × Instr × Nat) := [(0, .iload_n 1, 1), (1, .ifCond .lt 16, 3), (4, .iload_n 1, 1), (5, .bipush 8, 2), (7, .if_icmp .ge 10, 3), (10, .aload_n 0, 1), (11, .getfield 9, 3), (14, .iload_n 1, 1), (15, .iload_n 2, 1), (16, .iastore, 1), (17, .return_, 1)]
theorem DX7_wear_0 : dAll cX7_wear lDX7_wear_0 = true := by decide +kernel
theorem dX7_wear_0 : decode cX7_wear 0 = .ok (.iload_n 1, 1) := dAt (x := (0, .iload_n 1, 1)) DX7_wear_0 0 rfl
theorem dX7_wear_1 : decode cX7_wear 1 = .ok (.ifCond .lt 16, 3) := dAt (x := (1, .ifCond .lt 16, 3)) DX7_wear_0 1 rfl
theorem dX7_wear_4 : decode cX7_wear 4 = .ok (.iload_n 1, 1) := dAt (x := (4, .iload_n 1, 1)) DX7_wear_0 2 rfl
theorem dX7_wear_5 : decode cX7_wear 5 = .ok (.bipush 8, 2) := dAt (x := (5, .bipush 8, 2)) DX7_wear_0 3 rfl
theorem dX7_wear_7 : decode cX7_wear 7 = .ok (.if_icmp .ge 10, 3) := dAt (x := (7, .if_icmp .ge 10, 3)) DX7_wear_0 4 rfl
theorem dX7_wear_10 : decode cX7_wear 10 = .ok (.aload_n 0, 1) := dAt (x := (10, .aload_n 0, 1)) DX7_wear_0 5 rfl
theorem dX7_wear_11 : decode cX7_wear 11 = .ok (.getfield 9, 3) := dAt (x := (11, .getfield 9, 3)) DX7_wear_0 6 rfl
theorem dX7_wear_14 : decode cX7_wear 14 = .ok (.iload_n 1, 1) := dAt (x := (14, .iload_n 1, 1)) DX7_wear_0 7 rfl
theorem dX7_wear_15 : decode cX7_wear 15 = .ok (.iload_n 2, 1) := dAt (x := (15, .iload_n 2, 1)) DX7_wear_0 8 rfl
theorem dX7_wear_16 : decode cX7_wear 16 = .ok (.iastore, 1) := dAt (x := (16, .iastore, 1)) DX7_wear_0 9 rfl
theorem dX7_wear_17 : decode cX7_wear 17 = .ok (.return_, 1) := dAt (x := (17, .return_, 1)) DX7_wear_0 10 rfl
def lDX7_wornInAll_0 : List (Nat × Instr × Nat) := [(0, .iconst 0, 1), (1, .istore_n 1, 1), (2, .aload_n 0, 1), (3, .getfield 9, 3), (6, .astore_n 2, 1), (7, .aload_n 2, 1), (8, .arraylength, 1), (9, .istore_n 3, 1), (10, .iconst 0, 1), (11, .istore 4, 2), (13, .iload 4, 2), (15, .iload_n 3, 1), (16, .if_icmp .ge 20, 3), (19, .aload_n 2, 1), (20, .iload 4, 2), (22, .iaload, 1), (23, .istore 5, 2), (25, .iload_n 1, 1), (26, .iload 5, 2), (28, .iadd, 1), (29, .istore_n 1, 1), (30, .iinc 4 1, 3), (33, .goto (-20), 3), (36, .iload_n 1, 1), (37, .ireturn, 1)]
theorem DX7_wornInAll_0 : dAll cX7_wornInAll lDX7_wornInAll_0 = true := by decide +kernel
theorem dX7_wornInAll_0 : decode cX7_wornInAll 0 = .ok (.iconst 0, 1) := dAt (x := (0, .iconst 0, 1)) DX7_wornInAll_0 0 rfl
theorem dX7_wornInAll_1 : decode cX7_wornInAll 1 = .ok (.istore_n 1, 1) := dAt (x := (1, .istore_n 1, 1)) DX7_wornInAll_0 1 rfl
theorem dX7_wornInAll_2 : decode cX7_wornInAll 2 = .ok (.aload_n 0, 1) := dAt (x := (2, .aload_n 0, 1)) DX7_wornInAll_0 2 rfl
theorem dX7_wornInAll_3 : decode cX7_wornInAll 3 = .ok (.getfield 9, 3) := dAt (x := (3, .getfield 9, 3)) DX7_wornInAll_0 3 rfl
theorem dX7_wornInAll_6 : decode cX7_wornInAll 6 = .ok (.astore_n 2, 1) := dAt (x := (6, .astore_n 2, 1)) DX7_wornInAll_0 4 rfl
theorem dX7_wornInAll_7 : decode cX7_wornInAll 7 = .ok (.aload_n 2, 1) := dAt (x := (7, .aload_n 2, 1)) DX7_wornInAll_0 5 rfl
theorem dX7_wornInAll_8 : decode cX7_wornInAll 8 = .ok (.arraylength, 1) := dAt (x := (8, .arraylength, 1)) DX7_wornInAll_0 6 rfl
theorem dX7_wornInAll_9 : decode cX7_wornInAll 9 = .ok (.istore_n 3, 1) := dAt (x := (9, .istore_n 3, 1)) DX7_wornInAll_0 7 rfl
theorem dX7_wornInAll_10 : decode cX7_wornInAll 10 = .ok (.iconst 0, 1) := dAt (x := (10, .iconst 0, 1)) DX7_wornInAll_0 8 rfl
theorem dX7_wornInAll_11 : decode cX7_wornInAll 11 = .ok (.istore 4, 2) := dAt (x := (11, .istore 4, 2)) DX7_wornInAll_0 9 rfl
theorem dX7_wornInAll_13 : decode cX7_wornInAll 13 = .ok (.iload 4, 2) := dAt (x := (13, .iload 4, 2)) DX7_wornInAll_0 10 rfl
theorem dX7_wornInAll_15 : decode cX7_wornInAll 15 = .ok (.iload_n 3, 1) := dAt (x := (15, .iload_n 3, 1)) DX7_wornInAll_0 11 rfl
theorem dX7_wornInAll_16 : decode cX7_wornInAll 16 = .ok (.if_icmp .ge 20, 3) := dAt (x := (16, .if_icmp .ge 20, 3)) DX7_wornInAll_0 12 rfl
theorem dX7_wornInAll_19 : decode cX7_wornInAll 19 = .ok (.aload_n 2, 1) := dAt (x := (19, .aload_n 2, 1)) DX7_wornInAll_0 13 rfl
theorem dX7_wornInAll_20 : decode cX7_wornInAll 20 = .ok (.iload 4, 2) := dAt (x := (20, .iload 4, 2)) DX7_wornInAll_0 14 rfl
theorem dX7_wornInAll_22 : decode cX7_wornInAll 22 = .ok (.iaload, 1) := dAt (x := (22, .iaload, 1)) DX7_wornInAll_0 15 rfl
theorem dX7_wornInAll_23 : decode cX7_wornInAll 23 = .ok (.istore 5, 2) := dAt (x := (23, .istore 5, 2)) DX7_wornInAll_0 16 rfl
theorem dX7_wornInAll_25 : decode cX7_wornInAll 25 = .ok (.iload_n 1, 1) := dAt (x := (25, .iload_n 1, 1)) DX7_wornInAll_0 17 rfl
theorem dX7_wornInAll_26 : decode cX7_wornInAll 26 = .ok (.iload 5, 2) := dAt (x := (26, .iload 5, 2)) DX7_wornInAll_0 18 rfl
theorem dX7_wornInAll_28 : decode cX7_wornInAll 28 = .ok (.iadd, 1) := dAt (x := (28, .iadd, 1)) DX7_wornInAll_0 19 rfl
theorem dX7_wornInAll_29 : decode cX7_wornInAll 29 = .ok (.istore_n 1, 1) := dAt (x := (29, .istore_n 1, 1)) DX7_wornInAll_0 20 rfl
theorem dX7_wornInAll_30 : decode cX7_wornInAll 30 = .ok (.iinc 4 1, 3) := dAt (x := (30, .iinc 4 1, 3)) DX7_wornInAll_0 21 rfl
theorem dX7_wornInAll_33 : decode cX7_wornInAll 33 = .ok (.goto (-20), 3) := dAt (x := (33, .goto (-20), 3)) DX7_wornInAll_0 22 rfl
theorem dX7_wornInAll_36 : decode cX7_wornInAll 36 = .ok (.iload_n 1, 1) := dAt (x := (36, .iload_n 1, 1)) DX7_wornInAll_0 23 rfl
theorem dX7_wornInAll_37 : decode cX7_wornInAll 37 = .ok (.ireturn, 1) := dAt (x := (37, .ireturn, 1)) DX7_wornInAll_0 24 rfl
def lDX8_init_0 : List (Nat × Instr × Nat) := [(0, .aload_n 0, 1), (1, .invokespecial 3, 3), (4, .aload_n 0, 1), (5, .sipush 700, 3), (8, .newarray .int, 2), (10, .putfield 9, 3), (13, .aload_n 0, 1), (14, .bipush 24, 2), (16, .newarray .int, 2), (18, .putfield 15, 3), (21, .iconst 0, 1), (22, .istore_n 1, 1), (23, .iconst 0, 1), (24, .istore_n 2, 1), (25, .iconst 0, 1), (26, .istore_n 3, 1), (27, .iload_n 3, 1), (28, .ldc 18, 2), (30, .invokevirtual 20, 3), (33, .if_icmp .ge 56, 3), (36, .ldc 18, 2), (38, .iload_n 3, 1), (39, .invokevirtual 26, 3), (42, .bipush 32, 2), (44, .if_icmp .ne 11, 3), (47, .iinc 1 1, 3), (50, .iconst 0, 1), (51, .istore_n 2, 1), (52, .goto 31, 3), (55, .iload_n 1, 1), (56, .bipush 24, 2), (58, .if_icmp .ge 25, 3), (61, .aload_n 0, 1), (62, .getfield 15, 3), (65, .iload_n 1, 1), (66, .dup2, 1), (67, .iaload, 1), (68, .ldc 18, 2), (70, .iload_n 3, 1), (71, .invokevirtual 26, 3), (74, .iload_n 2, 1), (75, .invokestatic 30, 3), (78, .ior, 1), (79, .iastore, 1), (80, .iinc 2 1, 3), (83, .iinc 3 1, 3), (86, .goto (-59), 3), (89, .return_, 1)]
theorem DX8_init_0 : dAll cX8_init lDX8_init_0 = true := by decide +kernel
theorem dX8_init_0 : decode cX8_init 0 = .ok (.aload_n 0, 1) := dAt (x := (0, .aload_n 0, 1)) DX8_init_0 0 rfl
theorem dX8_init_1 : decode cX8_init 1 = .ok (.invokespecial 3, 3) := dAt (x := (1, .invokespecial 3, 3)) DX8_init_0 1 rfl
theorem dX8_init_4 : decode cX8_init 4 = .ok (.aload_n 0, 1) := dAt (x := (4, .aload_n 0, 1)) DX8_init_0 2 rfl
theorem dX8_init_5 : decode cX8_init 5 = .ok (.sipush 700, 3) := dAt (x := (5, .sipush 700, 3)) DX8_init_0 3 rfl
theorem dX8_init_8 : decode cX8_init 8 = .ok (.newarray .int, 2) := dAt (x := (8, .newarray .int, 2)) DX8_init_0 4 rfl
theorem dX8_init_10 : decode cX8_init 10 = .ok (.putfield 9, 3) := dAt (x := (10, .putfield 9, 3)) DX8_init_0 5 rfl
theorem dX8_init_13 : decode cX8_init 13 = .ok (.aload_n 0, 1) := dAt (x := (13, .aload_n 0, 1)) DX8_init_0 6 rfl
theorem dX8_init_14 : decode cX8_init 14 = .ok (.bipush 24, 2) := dAt (x := (14, .bipush 24, 2)) DX8_init_0 7 rfl
theorem dX8_init_16 : decode cX8_init 16 = .ok (.newarray .int, 2) := dAt (x := (16, .newarray .int, 2)) DX8_init_0 8 rfl
theorem dX8_init_18 : decode cX8_init 18 = .ok (.putfield 15, 3) := dAt (x := (18, .putfield 15, 3)) DX8_init_0 9 rfl
theorem dX8_init_21 : decode cX8_init 21 = .ok (.iconst 0, 1) := dAt (x := (21, .iconst 0, 1)) DX8_init_0 10 rfl
theorem dX8_init_22 : decode cX8_init 22 = .ok (.istore_n 1, 1) := dAt (x := (22, .istore_n 1, 1)) DX8_init_0 11 rfl
theorem dX8_init_23 : decode cX8_init 23 = .ok (.iconst 0, 1) := dAt (x := (23, .iconst 0, 1)) DX8_init_0 12 rfl
theorem dX8_init_24 : decode cX8_init 24 = .ok (.istore_n 2, 1) := dAt (x := (24, .istore_n 2, 1)) DX8_init_0 13 rfl
theorem dX8_init_25 : decode cX8_init 25 = .ok (.iconst 0, 1) := dAt (x := (25, .iconst 0, 1)) DX8_init_0 14 rfl
theorem dX8_init_26 : decode cX8_init 26 = .ok (.istore_n 3, 1) := dAt (x := (26, .istore_n 3, 1)) DX8_init_0 15 rfl
theorem dX8_init_27 : decode cX8_init 27 = .ok (.iload_n 3, 1) := dAt (x := (27, .iload_n 3, 1)) DX8_init_0 16 rfl
theorem dX8_init_28 : decode cX8_init 28 = .ok (.ldc 18, 2) := dAt (x := (28, .ldc 18, 2)) DX8_init_0 17 rfl
theorem dX8_init_30 : decode cX8_init 30 = .ok (.invokevirtual 20, 3) := dAt (x := (30, .invokevirtual 20, 3)) DX8_init_0 18 rfl
theorem dX8_init_33 : decode cX8_init 33 = .ok (.if_icmp .ge 56, 3) := dAt (x := (33, .if_icmp .ge 56, 3)) DX8_init_0 19 rfl
theorem dX8_init_36 : decode cX8_init 36 = .ok (.ldc 18, 2) := dAt (x := (36, .ldc 18, 2)) DX8_init_0 20 rfl
theorem dX8_init_38 : decode cX8_init 38 = .ok (.iload_n 3, 1) := dAt (x := (38, .iload_n 3, 1)) DX8_init_0 21 rfl
theorem dX8_init_39 : decode cX8_init 39 = .ok (.invokevirtual 26, 3) := dAt (x := (39, .invokevirtual 26, 3)) DX8_init_0 22 rfl
theorem dX8_init_42 : decode cX8_init 42 = .ok (.bipush 32, 2) := dAt (x := (42, .bipush 32, 2)) DX8_init_0 23 rfl
theorem dX8_init_44 : decode cX8_init 44 = .ok (.if_icmp .ne 11, 3) := dAt (x := (44, .if_icmp .ne 11, 3)) DX8_init_0 24 rfl
theorem dX8_init_47 : decode cX8_init 47 = .ok (.iinc 1 1, 3) := dAt (x := (47, .iinc 1 1, 3)) DX8_init_0 25 rfl
theorem dX8_init_50 : decode cX8_init 50 = .ok (.iconst 0, 1) := dAt (x := (50, .iconst 0, 1)) DX8_init_0 26 rfl
theorem dX8_init_51 : decode cX8_init 51 = .ok (.istore_n 2, 1) := dAt (x := (51, .istore_n 2, 1)) DX8_init_0 27 rfl
theorem dX8_init_52 : decode cX8_init 52 = .ok (.goto 31, 3) := dAt (x := (52, .goto 31, 3)) DX8_init_0 28 rfl
theorem dX8_init_55 : decode cX8_init 55 = .ok (.iload_n 1, 1) := dAt (x := (55, .iload_n 1, 1)) DX8_init_0 29 rfl
theorem dX8_init_56 : decode cX8_init 56 = .ok (.bipush 24, 2) := dAt (x := (56, .bipush 24, 2)) DX8_init_0 30 rfl
theorem dX8_init_58 : decode cX8_init 58 = .ok (.if_icmp .ge 25, 3) := dAt (x := (58, .if_icmp .ge 25, 3)) DX8_init_0 31 rfl
theorem dX8_init_61 : decode cX8_init 61 = .ok (.aload_n 0, 1) := dAt (x := (61, .aload_n 0, 1)) DX8_init_0 32 rfl
theorem dX8_init_62 : decode cX8_init 62 = .ok (.getfield 15, 3) := dAt (x := (62, .getfield 15, 3)) DX8_init_0 33 rfl
theorem dX8_init_65 : decode cX8_init 65 = .ok (.iload_n 1, 1) := dAt (x := (65, .iload_n 1, 1)) DX8_init_0 34 rfl
theorem dX8_init_66 : decode cX8_init 66 = .ok (.dup2, 1) := dAt (x := (66, .dup2, 1)) DX8_init_0 35 rfl
theorem dX8_init_67 : decode cX8_init 67 = .ok (.iaload, 1) := dAt (x := (67, .iaload, 1)) DX8_init_0 36 rfl
theorem dX8_init_68 : decode cX8_init 68 = .ok (.ldc 18, 2) := dAt (x := (68, .ldc 18, 2)) DX8_init_0 37 rfl
theorem dX8_init_70 : decode cX8_init 70 = .ok (.iload_n 3, 1) := dAt (x := (70, .iload_n 3, 1)) DX8_init_0 38 rfl
theorem dX8_init_71 : decode cX8_init 71 = .ok (.invokevirtual 26, 3) := dAt (x := (71, .invokevirtual 26, 3)) DX8_init_0 39 rfl
theorem dX8_init_74 : decode cX8_init 74 = .ok (.iload_n 2, 1) := dAt (x := (74, .iload_n 2, 1)) DX8_init_0 40 rfl
theorem dX8_init_75 : decode cX8_init 75 = .ok (.invokestatic 30, 3) := dAt (x := (75, .invokestatic 30, 3)) DX8_init_0 41 rfl
theorem dX8_init_78 : decode cX8_init 78 = .ok (.ior, 1) := dAt (x := (78, .ior, 1)) DX8_init_0 42 rfl
theorem dX8_init_79 : decode cX8_init 79 = .ok (.iastore, 1) := dAt (x := (79, .iastore, 1)) DX8_init_0 43 rfl
theorem dX8_init_80 : decode cX8_init 80 = .ok (.iinc 2 1, 3) := dAt (x := (80, .iinc 2 1, 3)) DX8_init_0 44 rfl
theorem dX8_init_83 : decode cX8_init 83 = .ok (.iinc 3 1, 3) := dAt (x := (83, .iinc 3 1, 3)) DX8_init_0 45 rfl
theorem dX8_init_86 : decode cX8_init 86 = .ok (.goto (-59), 3) := dAt (x := (86, .goto (-59), 3)) DX8_init_0 46 rfl
theorem dX8_init_89 : decode cX8_init 89 = .ok (.return_, 1) := dAt (x := (89, .return_, 1)) DX8_init_0 47 rfl
def lDX8_letterBits_0 : List (Nat × Instr × Nat) := [(0, .iload_n 1, 1), (1, .bipush 6, 2), (3, .if_icmp .ge 18, 3), (6, .iload_n 0, 1), (7, .bipush 97, 2), (9, .isub, 1), (10, .iconst 1, 1), (11, .iadd, 1), (12, .iconst 5, 1), (13, .iconst 5, 1), (14, .iload_n 1, 1), (15, .isub, 1), (16, .imul, 1), (17, .ishl, 1), (18, .goto 4, 3), (21, .iconst 0, 1), (22, .ireturn, 1)]
theorem DX8_letterBits_0 : dAll cX8_letterBits lDX8_letterBits_0 = true := by decide +kernel
theorem dX8_letterBits_0 : decode cX8_letterBits 0 = .ok (.iload_n 1, 1) := dAt (x := (0, .iload_n 1, 1)) DX8_letterBits_0 0 rfl
theorem dX8_letterBits_1 : decode cX8_letterBits 1 = .ok (.bipush 6, 2) := dAt (x := (1, .bipush 6, 2)) DX8_letterBits_0 1 rfl
theorem dX8_letterBits_3 : decode cX8_letterBits 3 = .ok (.if_icmp .ge 18, 3) := dAt (x := (3, .if_icmp .ge 18, 3)) DX8_letterBits_0 2 rfl
theorem dX8_letterBits_6 : decode cX8_letterBits 6 = .ok (.iload_n 0, 1) := dAt (x := (6, .iload_n 0, 1)) DX8_letterBits_0 3 rfl
theorem dX8_letterBits_7 : decode cX8_letterBits 7 = .ok (.bipush 97, 2) := dAt (x := (7, .bipush 97, 2)) DX8_letterBits_0 4 rfl
theorem dX8_letterBits_9 : decode cX8_letterBits 9 = .ok (.isub, 1) := dAt (x := (9, .isub, 1)) DX8_letterBits_0 5 rfl
theorem dX8_letterBits_10 : decode cX8_letterBits 10 = .ok (.iconst 1, 1) := dAt (x := (10, .iconst 1, 1)) DX8_letterBits_0 6 rfl
theorem dX8_letterBits_11 : decode cX8_letterBits 11 = .ok (.iadd, 1) := dAt (x := (11, .iadd, 1)) DX8_letterBits_0 7 rfl
theorem dX8_letterBits_12 : decode cX8_letterBits 12 = .ok (.iconst 5, 1) := dAt (x := (12, .iconst 5, 1)) DX8_letterBits_0 8 rfl
theorem dX8_letterBits_13 : decode cX8_letterBits 13 = .ok (.iconst 5, 1) := dAt (x := (13, .iconst 5, 1)) DX8_letterBits_0 9 rfl
theorem dX8_letterBits_14 : decode cX8_letterBits 14 = .ok (.iload_n 1, 1) := dAt (x := (14, .iload_n 1, 1)) DX8_letterBits_0 10 rfl
theorem dX8_letterBits_15 : decode cX8_letterBits 15 = .ok (.isub, 1) := dAt (x := (15, .isub, 1)) DX8_letterBits_0 11 rfl
theorem dX8_letterBits_16 : decode cX8_letterBits 16 = .ok (.imul, 1) := dAt (x := (16, .imul, 1)) DX8_letterBits_0 12 rfl
theorem dX8_letterBits_17 : decode cX8_letterBits 17 = .ok (.ishl, 1) := dAt (x := (17, .ishl, 1)) DX8_letterBits_0 13 rfl
theorem dX8_letterBits_18 : decode cX8_letterBits 18 = .ok (.goto 4, 3) := dAt (x := (18, .goto 4, 3)) DX8_letterBits_0 14 rfl
theorem dX8_letterBits_21 : decode cX8_letterBits 21 = .ok (.iconst 0, 1) := dAt (x := (21, .iconst 0, 1)) DX8_letterBits_0 15 rfl
theorem dX8_letterBits_22 : decode cX8_letterBits 22 = .ok (.ireturn, 1) := dAt (x := (22, .ireturn, 1)) DX8_letterBits_0 16 rfl
def lDX8_add_0 : List (Nat × Instr × Nat) := [(0, .bipush 24, 2), (2, .istore_n 2, 1), (3, .iload_n 2, 1), (4, .ifCond .lt 45, 3), (7, .aload_n 0, 1), (8, .getfield 34, 3), (11, .sipush 700, 3), (14, .if_icmp .ge 29, 3), (17, .aload_n 0, 1), (18, .getfield 9, 3), (21, .aload_n 0, 1), (22, .getfield 34, 3), (25, .iload_n 1, 1), (26, .iload_n 2, 1), (27, .ishr, 1), (28, .sipush 255, 3), (31, .iand, 1), (32, .iastore, 1), (33, .aload_n 0, 1), (34, .dup, 1), (35, .getfield 34, 3), (38, .iconst 1, 1), (39, .iadd, 1), (40, .putfield 34, 3), (43, .iinc 2 (-8), 3), (46, .goto (-43), 3), (49, .return_, 1)]
theorem DX8_add_0 : dAll cX8_add lDX8_add_0 = true := by decide +kernel
theorem dX8_add_0 : decode cX8_add 0 = .ok (.bipush 24, 2) := dAt (x := (0, .bipush 24, 2)) DX8_add_0 0 rfl
theorem dX8_add_2 : decode cX8_add 2 = .ok (.istore_n 2, 1) := dAt (x := (2, .istore_n 2, 1)) DX8_add_0 1 rfl
theorem dX8_add_3 : decode cX8_add 3 = .ok (.iload_n 2, 1) := dAt (x := (3, .iload_n 2, 1)) DX8_add_0 2 rfl
theorem dX8_add_4 : decode cX8_add 4 = .ok (.ifCond .lt 45, 3) := dAt (x := (4, .ifCond .lt 45, 3)) DX8_add_0 3 rfl
theorem dX8_add_7 : decode cX8_add 7 = .ok (.aload_n 0, 1) := dAt (x := (7, .aload_n 0, 1)) DX8_add_0 4 rfl
theorem dX8_add_8 : decode cX8_add 8 = .ok (.getfield 34, 3) := dAt (x := (8, .getfield 34, 3)) DX8_add_0 5 rfl
theorem dX8_add_11 : decode cX8_add 11 = .ok (.sipush 700, 3) := dAt (x := (11, .sipush 700, 3)) DX8_add_0 6 rfl
theorem dX8_add_14 : decode cX8_add 14 = .ok (.if_icmp .ge 29, 3) := dAt (x := (14, .if_icmp .ge 29, 3)) DX8_add_0 7 rfl
theorem dX8_add_17 : decode cX8_add 17 = .ok (.aload_n 0, 1) := dAt (x := (17, .aload_n 0, 1)) DX8_add_0 8 rfl
theorem dX8_add_18 : decode cX8_add 18 = .ok (.getfield 9, 3) := dAt (x := (18, .getfield 9, 3)) DX8_add_0 9 rfl
theorem dX8_add_21 : decode cX8_add 21 = .ok (.aload_n 0, 1) := dAt (x := (21, .aload_n 0, 1)) DX8_add_0 10 rfl
theorem dX8_add_22 : decode cX8_add 22 = .ok (.getfield 34, 3) := dAt (x := (22, .getfield 34, 3)) DX8_add_0 11 rfl
theorem dX8_add_25 : decode cX8_add 25 = .ok (.iload_n 1, 1) := dAt (x := (25, .iload_n 1, 1)) DX8_add_0 12 rfl
theorem dX8_add_26 : decode cX8_add 26 = .ok (.iload_n 2, 1) := dAt (x := (26, .iload_n 2, 1)) DX8_add_0 13 rfl
theorem dX8_add_27 : decode cX8_add 27 = .ok (.ishr, 1) := dAt (x := (27, .ishr, 1)) DX8_add_0 14 rfl
theorem dX8_add_28 : decode cX8_add 28 = .ok (.sipush 255, 3) := dAt (x := (28, .sipush 255, 3)) DX8_add_0 15 rfl
theorem dX8_add_31 : decode cX8_add 31 = .ok (.iand, 1) := dAt (x := (31, .iand, 1)) DX8_add_0 16 rfl
theorem dX8_add_32 : decode cX8_add 32 = .ok (.iastore, 1) := dAt (x := (32, .iastore, 1)) DX8_add_0 17 rfl
theorem dX8_add_33 : decode cX8_add 33 = .ok (.aload_n 0, 1) := dAt (x := (33, .aload_n 0, 1)) DX8_add_0 18 rfl
theorem dX8_add_34 : decode cX8_add 34 = .ok (.dup, 1) := dAt (x := (34, .dup, 1)) DX8_add_0 19 rfl
theorem dX8_add_35 : decode cX8_add 35 = .ok (.getfield 34, 3) := dAt (x := (35, .getfield 34, 3)) DX8_add_0 20 rfl
theorem dX8_add_38 : decode cX8_add 38 = .ok (.iconst 1, 1) := dAt (x := (38, .iconst 1, 1)) DX8_add_0 21 rfl
theorem dX8_add_39 : decode cX8_add 39 = .ok (.iadd, 1) := dAt (x := (39, .iadd, 1)) DX8_add_0 22 rfl
theorem dX8_add_40 : decode cX8_add 40 = .ok (.putfield 34, 3) := dAt (x := (40, .putfield 34, 3)) DX8_add_0 23 rfl
theorem dX8_add_43 : decode cX8_add 43 = .ok (.iinc 2 (-8), 3) := dAt (x := (43, .iinc 2 (-8), 3)) DX8_add_0 24 rfl
theorem dX8_add_46 : decode cX8_add 46 = .ok (.goto (-43), 3) := dAt (x := (46, .goto (-43), 3)) DX8_add_0 25 rfl
theorem dX8_add_49 : decode cX8_add 49 = .ok (.return_, 1) := dAt (x := (49, .return_, 1)) DX8_add_0 26 rfl
def lDX8_begin_0 : List (Nat × Instr × Nat) := [(0, .aload_n 0, 1), (1, .iload_n 1, 1), (2, .aload_n 0, 1), (3, .getfield 34, 3), (6, .invokestatic 38, 3), (9, .putfield 43, 3), (12, .aload_n 0, 1), (13, .iconst 0, 1), (14, .putfield 46, 3), (17, .aload_n 0, 1), (18, .invokevirtual 49, 3), (21, .return_, 1)]
theorem DX8_begin_0 : dAll cX8_begin lDX8_begin_0 = true := by decide +kernel
theorem dX8_begin_0 : decode cX8_begin 0 = .ok (.aload_n 0, 1) := dAt (x := (0, .aload_n 0, 1)) DX8_begin_0 0 rfl
theorem dX8_begin_1 : decode cX8_begin 1 = .ok (.iload_n 1, 1) := dAt (x := (1, .iload_n 1, 1)) DX8_begin_0 1 rfl
theorem dX8_begin_2 : decode cX8_begin 2 = .ok (.aload_n 0, 1) := dAt (x := (2, .aload_n 0, 1)) DX8_begin_0 2 rfl
theorem dX8_begin_3 : decode cX8_begin 3 = .ok (.getfield 34, 3) := dAt (x := (3, .getfield 34, 3)) DX8_begin_0 3 rfl
theorem dX8_begin_6 : decode cX8_begin 6 = .ok (.invokestatic 38, 3) := dAt (x := (6, .invokestatic 38, 3)) DX8_begin_0 4 rfl
theorem dX8_begin_9 : decode cX8_begin 9 = .ok (.putfield 43, 3) := dAt (x := (9, .putfield 43, 3)) DX8_begin_0 5 rfl
theorem dX8_begin_12 : decode cX8_begin 12 = .ok (.aload_n 0, 1) := dAt (x := (12, .aload_n 0, 1)) DX8_begin_0 6 rfl
theorem dX8_begin_13 : decode cX8_begin 13 = .ok (.iconst 0, 1) := dAt (x := (13, .iconst 0, 1)) DX8_begin_0 7 rfl
theorem dX8_begin_14 : decode cX8_begin 14 = .ok (.putfield 46, 3) := dAt (x := (14, .putfield 46, 3)) DX8_begin_0 8 rfl
theorem dX8_begin_17 : decode cX8_begin 17 = .ok (.aload_n 0, 1) := dAt (x := (17, .aload_n 0, 1)) DX8_begin_0 9 rfl
theorem dX8_begin_18 : decode cX8_begin 18 = .ok (.invokevirtual 49, 3) := dAt (x := (18, .invokevirtual 49, 3)) DX8_begin_0 10 rfl
theorem dX8_begin_21 : decode cX8_begin 21 = .ok (.return_, 1) := dAt (x := (21, .return_, 1)) DX8_begin_0 11 rfl
def lDX8_between_0 : List (Nat × Instr × Nat) := [(0, .aload_n 0, 1), (1, .getfield 46, 3), (4, .aload_n 0, 1), (5, .getfield 43, 3), (8, .if_icmp .ge 43, 3), (11, .aload_n 0, 1), (12, .getfield 46, 3), (15, .sipush 700, 3), (18, .if_icmp .ge 33, 3), (21, .aload_n 0, 1), (22, .getfield 9, 3), (25, .aload_n 0, 1), (26, .getfield 46, 3), (29, .iaload, 1), (30, .iload_n 1, 1), (31, .if_icmp .lt 20, 3), (34, .aload_n 0, 1), (35, .getfield 9, 3), (38, .aload_n 0, 1), (39, .getfield 46, 3), (42, .iaload, 1), (43, .iload_n 2, 1), (44, .if_icmp .gt 7, 3), (47, .iconst 1, 1), (48, .goto 4, 3), (51, .iconst 0, 1), (52, .ireturn, 1)]
theorem DX8_between_0 : dAll cX8_between lDX8_between_0 = true := by decide +kernel
theorem dX8_between_0 : decode cX8_between 0 = .ok (.aload_n 0, 1) := dAt (x := (0, .aload_n 0, 1)) DX8_between_0 0 rfl
theorem dX8_between_1 : decode cX8_between 1 = .ok (.getfield 46, 3) := dAt (x := (1, .getfield 46, 3)) DX8_between_0 1 rfl
theorem dX8_between_4 : decode cX8_between 4 = .ok (.aload_n 0, 1) := dAt (x := (4, .aload_n 0, 1)) DX8_between_0 2 rfl
theorem dX8_between_5 : decode cX8_between 5 = .ok (.getfield 43, 3) := dAt (x := (5, .getfield 43, 3)) DX8_between_0 3 rfl
theorem dX8_between_8 : decode cX8_between 8 = .ok (.if_icmp .ge 43, 3) := dAt (x := (8, .if_icmp .ge 43, 3)) DX8_between_0 4 rfl
theorem dX8_between_11 : decode cX8_between 11 = .ok (.aload_n 0, 1) := dAt (x := (11, .aload_n 0, 1)) DX8_between_0 5 rfl
theorem dX8_between_12 : decode cX8_between 12 = .ok (.getfield 46, 3) := dAt (x := (12, .getfield 46, 3)) DX8_between_0 6 rfl
theorem dX8_between_15 : decode cX8_between 15 = .ok (.sipush 700, 3) := dAt (x := (15, .sipush 700, 3)) DX8_between_0 7 rfl
theorem dX8_between_18 : decode cX8_between 18 = .ok (.if_icmp .ge 33, 3) := dAt (x := (18, .if_icmp .ge 33, 3)) DX8_between_0 8 rfl
theorem dX8_between_21 : decode cX8_between 21 = .ok (.aload_n 0, 1) := dAt (x := (21, .aload_n 0, 1)) DX8_between_0 9 rfl
theorem dX8_between_22 : decode cX8_between 22 = .ok (.getfield 9, 3) := dAt (x := (22, .getfield 9, 3)) DX8_between_0 10 rfl
theorem dX8_between_25 : decode cX8_between 25 = .ok (.aload_n 0, 1) := dAt (x := (25, .aload_n 0, 1)) DX8_between_0 11 rfl
theorem dX8_between_26 : decode cX8_between 26 = .ok (.getfield 46, 3) := dAt (x := (26, .getfield 46, 3)) DX8_between_0 12 rfl
theorem dX8_between_29 : decode cX8_between 29 = .ok (.iaload, 1) := dAt (x := (29, .iaload, 1)) DX8_between_0 13 rfl
theorem dX8_between_30 : decode cX8_between 30 = .ok (.iload_n 1, 1) := dAt (x := (30, .iload_n 1, 1)) DX8_between_0 14 rfl
theorem dX8_between_31 : decode cX8_between 31 = .ok (.if_icmp .lt 20, 3) := dAt (x := (31, .if_icmp .lt 20, 3)) DX8_between_0 15 rfl
theorem dX8_between_34 : decode cX8_between 34 = .ok (.aload_n 0, 1) := dAt (x := (34, .aload_n 0, 1)) DX8_between_0 16 rfl
theorem dX8_between_35 : decode cX8_between 35 = .ok (.getfield 9, 3) := dAt (x := (35, .getfield 9, 3)) DX8_between_0 17 rfl
theorem dX8_between_38 : decode cX8_between 38 = .ok (.aload_n 0, 1) := dAt (x := (38, .aload_n 0, 1)) DX8_between_0 18 rfl
theorem dX8_between_39 : decode cX8_between 39 = .ok (.getfield 46, 3) := dAt (x := (39, .getfield 46, 3)) DX8_between_0 19 rfl
theorem dX8_between_42 : decode cX8_between 42 = .ok (.iaload, 1) := dAt (x := (42, .iaload, 1)) DX8_between_0 20 rfl
theorem dX8_between_43 : decode cX8_between 43 = .ok (.iload_n 2, 1) := dAt (x := (43, .iload_n 2, 1)) DX8_between_0 21 rfl
theorem dX8_between_44 : decode cX8_between 44 = .ok (.if_icmp .gt 7, 3) := dAt (x := (44, .if_icmp .gt 7, 3)) DX8_between_0 22 rfl
theorem dX8_between_47 : decode cX8_between 47 = .ok (.iconst 1, 1) := dAt (x := (47, .iconst 1, 1)) DX8_between_0 23 rfl
theorem dX8_between_48 : decode cX8_between 48 = .ok (.goto 4, 3) := dAt (x := (48, .goto 4, 3)) DX8_between_0 24 rfl
theorem dX8_between_51 : decode cX8_between 51 = .ok (.iconst 0, 1) := dAt (x := (51, .iconst 0, 1)) DX8_between_0 25 rfl
theorem dX8_between_52 : decode cX8_between 52 = .ok (.ireturn, 1) := dAt (x := (52, .ireturn, 1)) DX8_between_0 26 rfl
def lDX8_advance_0 : List (Nat × Instr × Nat) := [(0, .aload_n 0, 1), (1, .getfield 46, 3), (4, .aload_n 0, 1), (5, .getfield 43, 3), (8, .if_icmp .ge 38, 3), (11, .aload_n 0, 1), (12, .bipush 32, 2), (14, .bipush 32, 2), (16, .invokevirtual 52, 3), (19, .ifCond .ne 14, 3), (22, .aload_n 0, 1), (23, .bipush 10, 2), (25, .bipush 10, 2), (27, .invokevirtual 52, 3), (30, .ifCond .eq 16, 3), (33, .aload_n 0, 1), (34, .dup, 1), (35, .getfield 46, 3), (38, .iconst 1, 1), (39, .iadd, 1), (40, .putfield 46, 3), (43, .goto (-43), 3), (46, .aload_n 0, 1), (47, .aload_n 0, 1), (48, .getfield 46, 3), (51, .putfield 56, 3), (54, .aload_n 0, 1), (55, .iconst 0, 1), (56, .putfield 59, 3), (59, .aload_n 0, 1), (60, .getfield 46, 3), (63, .aload_n 0, 1), (64, .getfield 43, 3), (67, .if_icmp .lt 12, 3), (70, .aload_n 0, 1), (71, .bipush 39, 2), (73, .putfield 62, 3), (76, .goto 43, 3), (79, .aload_n 0, 1), (80, .bipush 97, 2), (82, .bipush 122, 2), (84, .invokevirtual 52, 3), (87, .ifCond .eq 10, 3), (90, .aload_n 0, 1), (91, .invokevirtual 65, 3), (94, .goto 25, 3), (97, .aload_n 0, 1), (98, .bipush 48, 2), (100, .bipush 57, 2), (102, .invokevirtual 52, 3), (105, .ifCond .eq 10, 3), (108, .aload_n 0, 1), (109, .invokevirtual 68, 3), (112, .goto 7, 3), (115, .aload_n 0, 1), (116, .invokevirtual 71, 3), (119, .return_, 1)]
theorem DX8_advance_0 : dAll cX8_advance lDX8_advance_0 = true := by decide +kernel
theorem dX8_advance_0 : decode cX8_advance 0 = .ok (.aload_n 0, 1) := dAt (x := (0, .aload_n 0, 1)) DX8_advance_0 0 rfl
theorem dX8_advance_1 : decode cX8_advance 1 = .ok (.getfield 46, 3) := dAt (x := (1, .getfield 46, 3)) DX8_advance_0 1 rfl
theorem dX8_advance_4 : decode cX8_advance 4 = .ok (.aload_n 0, 1) := dAt (x := (4, .aload_n 0, 1)) DX8_advance_0 2 rfl
theorem dX8_advance_5 : decode cX8_advance 5 = .ok (.getfield 43, 3) := dAt (x := (5, .getfield 43, 3)) DX8_advance_0 3 rfl
theorem dX8_advance_8 : decode cX8_advance 8 = .ok (.if_icmp .ge 38, 3) := dAt (x := (8, .if_icmp .ge 38, 3)) DX8_advance_0 4 rfl
theorem dX8_advance_11 : decode cX8_advance 11 = .ok (.aload_n 0, 1) := dAt (x := (11, .aload_n 0, 1)) DX8_advance_0 5 rfl
theorem dX8_advance_12 : decode cX8_advance 12 = .ok (.bipush 32, 2) := dAt (x := (12, .bipush 32, 2)) DX8_advance_0 6 rfl
theorem dX8_advance_14 : decode cX8_advance 14 = .ok (.bipush 32, 2) := dAt (x := (14, .bipush 32, 2)) DX8_advance_0 7 rfl
theorem dX8_advance_16 : decode cX8_advance 16 = .ok (.invokevirtual 52, 3) := dAt (x := (16, .invokevirtual 52, 3)) DX8_advance_0 8 rfl
theorem dX8_advance_19 : decode cX8_advance 19 = .ok (.ifCond .ne 14, 3) := dAt (x := (19, .ifCond .ne 14, 3)) DX8_advance_0 9 rfl
theorem dX8_advance_22 : decode cX8_advance 22 = .ok (.aload_n 0, 1) := dAt (x := (22, .aload_n 0, 1)) DX8_advance_0 10 rfl
theorem dX8_advance_23 : decode cX8_advance 23 = .ok (.bipush 10, 2) := dAt (x := (23, .bipush 10, 2)) DX8_advance_0 11 rfl
theorem dX8_advance_25 : decode cX8_advance 25 = .ok (.bipush 10, 2) := dAt (x := (25, .bipush 10, 2)) DX8_advance_0 12 rfl
theorem dX8_advance_27 : decode cX8_advance 27 = .ok (.invokevirtual 52, 3) := dAt (x := (27, .invokevirtual 52, 3)) DX8_advance_0 13 rfl
theorem dX8_advance_30 : decode cX8_advance 30 = .ok (.ifCond .eq 16, 3) := dAt (x := (30, .ifCond .eq 16, 3)) DX8_advance_0 14 rfl
theorem dX8_advance_33 : decode cX8_advance 33 = .ok (.aload_n 0, 1) := dAt (x := (33, .aload_n 0, 1)) DX8_advance_0 15 rfl
theorem dX8_advance_34 : decode cX8_advance 34 = .ok (.dup, 1) := dAt (x := (34, .dup, 1)) DX8_advance_0 16 rfl
theorem dX8_advance_35 : decode cX8_advance 35 = .ok (.getfield 46, 3) := dAt (x := (35, .getfield 46, 3)) DX8_advance_0 17 rfl
theorem dX8_advance_38 : decode cX8_advance 38 = .ok (.iconst 1, 1) := dAt (x := (38, .iconst 1, 1)) DX8_advance_0 18 rfl
theorem dX8_advance_39 : decode cX8_advance 39 = .ok (.iadd, 1) := dAt (x := (39, .iadd, 1)) DX8_advance_0 19 rfl
theorem dX8_advance_40 : decode cX8_advance 40 = .ok (.putfield 46, 3) := dAt (x := (40, .putfield 46, 3)) DX8_advance_0 20 rfl
theorem dX8_advance_43 : decode cX8_advance 43 = .ok (.goto (-43), 3) := dAt (x := (43, .goto (-43), 3)) DX8_advance_0 21 rfl
theorem dX8_advance_46 : decode cX8_advance 46 = .ok (.aload_n 0, 1) := dAt (x := (46, .aload_n 0, 1)) DX8_advance_0 22 rfl
theorem dX8_advance_47 : decode cX8_advance 47 = .ok (.aload_n 0, 1) := dAt (x := (47, .aload_n 0, 1)) DX8_advance_0 23 rfl
theorem dX8_advance_48 : decode cX8_advance 48 = .ok (.getfield 46, 3) := dAt (x := (48, .getfield 46, 3)) DX8_advance_0 24 rfl
theorem dX8_advance_51 : decode cX8_advance 51 = .ok (.putfield 56, 3) := dAt (x := (51, .putfield 56, 3)) DX8_advance_0 25 rfl
theorem dX8_advance_54 : decode cX8_advance 54 = .ok (.aload_n 0, 1) := dAt (x := (54, .aload_n 0, 1)) DX8_advance_0 26 rfl
theorem dX8_advance_55 : decode cX8_advance 55 = .ok (.iconst 0, 1) := dAt (x := (55, .iconst 0, 1)) DX8_advance_0 27 rfl
theorem dX8_advance_56 : decode cX8_advance 56 = .ok (.putfield 59, 3) := dAt (x := (56, .putfield 59, 3)) DX8_advance_0 28 rfl
theorem dX8_advance_59 : decode cX8_advance 59 = .ok (.aload_n 0, 1) := dAt (x := (59, .aload_n 0, 1)) DX8_advance_0 29 rfl
theorem dX8_advance_60 : decode cX8_advance 60 = .ok (.getfield 46, 3) := dAt (x := (60, .getfield 46, 3)) DX8_advance_0 30 rfl
theorem dX8_advance_63 : decode cX8_advance 63 = .ok (.aload_n 0, 1) := dAt (x := (63, .aload_n 0, 1)) DX8_advance_0 31 rfl
theorem dX8_advance_64 : decode cX8_advance 64 = .ok (.getfield 43, 3) := dAt (x := (64, .getfield 43, 3)) DX8_advance_0 32 rfl
theorem dX8_advance_67 : decode cX8_advance 67 = .ok (.if_icmp .lt 12, 3) := dAt (x := (67, .if_icmp .lt 12, 3)) DX8_advance_0 33 rfl
theorem dX8_advance_70 : decode cX8_advance 70 = .ok (.aload_n 0, 1) := dAt (x := (70, .aload_n 0, 1)) DX8_advance_0 34 rfl
theorem dX8_advance_71 : decode cX8_advance 71 = .ok (.bipush 39, 2) := dAt (x := (71, .bipush 39, 2)) DX8_advance_0 35 rfl
theorem dX8_advance_73 : decode cX8_advance 73 = .ok (.putfield 62, 3) := dAt (x := (73, .putfield 62, 3)) DX8_advance_0 36 rfl
theorem dX8_advance_76 : decode cX8_advance 76 = .ok (.goto 43, 3) := dAt (x := (76, .goto 43, 3)) DX8_advance_0 37 rfl
theorem dX8_advance_79 : decode cX8_advance 79 = .ok (.aload_n 0, 1) := dAt (x := (79, .aload_n 0, 1)) DX8_advance_0 38 rfl
theorem dX8_advance_80 : decode cX8_advance 80 = .ok (.bipush 97, 2) := dAt (x := (80, .bipush 97, 2)) DX8_advance_0 39 rfl
theorem dX8_advance_82 : decode cX8_advance 82 = .ok (.bipush 122, 2) := dAt (x := (82, .bipush 122, 2)) DX8_advance_0 40 rfl
theorem dX8_advance_84 : decode cX8_advance 84 = .ok (.invokevirtual 52, 3) := dAt (x := (84, .invokevirtual 52, 3)) DX8_advance_0 41 rfl
theorem dX8_advance_87 : decode cX8_advance 87 = .ok (.ifCond .eq 10, 3) := dAt (x := (87, .ifCond .eq 10, 3)) DX8_advance_0 42 rfl
theorem dX8_advance_90 : decode cX8_advance 90 = .ok (.aload_n 0, 1) := dAt (x := (90, .aload_n 0, 1)) DX8_advance_0 43 rfl
theorem dX8_advance_91 : decode cX8_advance 91 = .ok (.invokevirtual 65, 3) := dAt (x := (91, .invokevirtual 65, 3)) DX8_advance_0 44 rfl
theorem dX8_advance_94 : decode cX8_advance 94 = .ok (.goto 25, 3) := dAt (x := (94, .goto 25, 3)) DX8_advance_0 45 rfl
theorem dX8_advance_97 : decode cX8_advance 97 = .ok (.aload_n 0, 1) := dAt (x := (97, .aload_n 0, 1)) DX8_advance_0 46 rfl
theorem dX8_advance_98 : decode cX8_advance 98 = .ok (.bipush 48, 2) := dAt (x := (98, .bipush 48, 2)) DX8_advance_0 47 rfl
theorem dX8_advance_100 : decode cX8_advance 100 = .ok (.bipush 57, 2) := dAt (x := (100, .bipush 57, 2)) DX8_advance_0 48 rfl
theorem dX8_advance_102 : decode cX8_advance 102 = .ok (.invokevirtual 52, 3) := dAt (x := (102, .invokevirtual 52, 3)) DX8_advance_0 49 rfl
theorem dX8_advance_105 : decode cX8_advance 105 = .ok (.ifCond .eq 10, 3) := dAt (x := (105, .ifCond .eq 10, 3)) DX8_advance_0 50 rfl
theorem dX8_advance_108 : decode cX8_advance 108 = .ok (.aload_n 0, 1) := dAt (x := (108, .aload_n 0, 1)) DX8_advance_0 51 rfl
theorem dX8_advance_109 : decode cX8_advance 109 = .ok (.invokevirtual 68, 3) := dAt (x := (109, .invokevirtual 68, 3)) DX8_advance_0 52 rfl
theorem dX8_advance_112 : decode cX8_advance 112 = .ok (.goto 7, 3) := dAt (x := (112, .goto 7, 3)) DX8_advance_0 53 rfl
theorem dX8_advance_115 : decode cX8_advance 115 = .ok (.aload_n 0, 1) := dAt (x := (115, .aload_n 0, 1)) DX8_advance_0 54 rfl
theorem dX8_advance_116 : decode cX8_advance 116 = .ok (.invokevirtual 71, 3) := dAt (x := (116, .invokevirtual 71, 3)) DX8_advance_0 55 rfl
theorem dX8_advance_119 : decode cX8_advance 119 = .ok (.return_, 1) := dAt (x := (119, .return_, 1)) DX8_advance_0 56 rfl
def lDX8_readWord_0 : List (Nat × Instr × Nat) := [(0, .aload_n 0, 1), (1, .getfield 46, 3), (4, .aload_n 0, 1), (5, .getfield 43, 3), (8, .if_icmp .ge 57, 3), (11, .aload_n 0, 1), (12, .bipush 97, 2), (14, .bipush 122, 2), (16, .invokevirtual 52, 3), (19, .ifCond .eq 46, 3), (22, .aload_n 0, 1), (23, .dup, 1), (24, .getfield 59, 3), (27, .aload_n 0, 1), (28, .getfield 9, 3), (31, .aload_n 0, 1), (32, .getfield 46, 3), (35, .iaload, 1), (36, .aload_n 0, 1), (37, .getfield 46, 3), (40, .aload_n 0, 1), (41, .getfield 56, 3), (44, .isub, 1), (45, .invokestatic 30, 3), (48, .ior, 1), (49, .putfield 59, 3), (52, .aload_n 0, 1), (53, .dup, 1), (54, .getfield 46, 3), (57, .iconst 1, 1), (58, .iadd, 1), (59, .putfield 46, 3), (62, .goto (-62), 3), (65, .aload_n 0, 1), (66, .getfield 46, 3), (69, .aload_n 0, 1), (70, .getfield 56, 3), (73, .isub, 1), (74, .bipush 6, 2), (76, .if_icmp .le 10, 3), (79, .aload_n 0, 1), (80, .bipush 40, 2), (82, .putfield 62, 3), (85, .return_, 1), (86, .aload_n 0, 1), (87, .bipush 38, 2), (89, .putfield 62, 3), (92, .iconst 0, 1), (93, .istore_n 1, 1), (94, .iload_n 1, 1), (95, .bipush 24, 2), (97, .if_icmp .ge 27, 3), (100, .aload_n 0, 1), (101, .getfield 15, 3), (104, .iload_n 1, 1), (105, .iaload, 1), (106, .aload_n 0, 1), (107, .getfield 59, 3), (110, .if_icmp .ne 8, 3), (113, .aload_n 0, 1)]
theorem DX8_readWord_0 : dAll cX8_readWord lDX8_readWord_0 = true := by decide +kernel
theorem dX8_readWord_0 : decode cX8_readWord 0 = .ok (.aload_n 0, 1) := dAt (x := (0, .aload_n 0, 1)) DX8_readWord_0 0 rfl
theorem dX8_readWord_1 : decode cX8_readWord 1 = .ok (.getfield 46, 3) := dAt (x := (1, .getfield 46, 3)) DX8_readWord_0 1 rfl
theorem dX8_readWord_4 : decode cX8_readWord 4 = .ok (.aload_n 0, 1) := dAt (x := (4, .aload_n 0, 1)) DX8_readWord_0 2 rfl
theorem dX8_readWord_5 : decode cX8_readWord 5 = .ok (.getfield 43, 3) := dAt (x := (5, .getfield 43, 3)) DX8_readWord_0 3 rfl
theorem dX8_readWord_8 : decode cX8_readWord 8 = .ok (.if_icmp .ge 57, 3) := dAt (x := (8, .if_icmp .ge 57, 3)) DX8_readWord_0 4 rfl
theorem dX8_readWord_11 : decode cX8_readWord 11 = .ok (.aload_n 0, 1) := dAt (x := (11, .aload_n 0, 1)) DX8_readWord_0 5 rfl
theorem dX8_readWord_12 : decode cX8_readWord 12 = .ok (.bipush 97, 2) := dAt (x := (12, .bipush 97, 2)) DX8_readWord_0 6 rfl
theorem dX8_readWord_14 : decode cX8_readWord 14 = .ok (.bipush 122, 2) := dAt (x := (14, .bipush 122, 2)) DX8_readWord_0 7 rfl
theorem dX8_readWord_16 : decode cX8_readWord 16 = .ok (.invokevirtual 52, 3) := dAt (x := (16, .invokevirtual 52, 3)) DX8_readWord_0 8 rfl
theorem dX8_readWord_19 : decode cX8_readWord 19 = .ok (.ifCond .eq 46, 3) := dAt (x := (19, .ifCond .eq 46, 3)) DX8_readWord_0 9 rfl
theorem dX8_readWord_22 : decode cX8_readWord 22 = .ok (.aload_n 0, 1) := dAt (x := (22, .aload_n 0, 1)) DX8_readWord_0 10 rfl
theorem dX8_readWord_23 : decode cX8_readWord 23 = .ok (.dup, 1) := dAt (x := (23, .dup, 1)) DX8_readWord_0 11 rfl
theorem dX8_readWord_24 : decode cX8_readWord 24 = .ok (.getfield 59, 3) := dAt (x := (24, .getfield 59, 3)) DX8_readWord_0 12 rfl
theorem dX8_readWord_27 : decode cX8_readWord 27 = .ok (.aload_n 0, 1) := dAt (x := (27, .aload_n 0, 1)) DX8_readWord_0 13 rfl
theorem dX8_readWord_28 : decode cX8_readWord 28 = .ok (.getfield 9, 3) := dAt (x := (28, .getfield 9, 3)) DX8_readWord_0 14 rfl
theorem dX8_readWord_31 : decode cX8_readWord 31 = .ok (.aload_n 0, 1) := dAt (x := (31, .aload_n 0, 1)) DX8_readWord_0 15 rfl
theorem dX8_readWord_32 : decode cX8_readWord 32 = .ok (.getfield 46, 3) := dAt (x := (32, .getfield 46, 3)) DX8_readWord_0 16 rfl
theorem dX8_readWord_35 : decode cX8_readWord 35 = .ok (.iaload, 1) := dAt (x := (35, .iaload, 1)) DX8_readWord_0 17 rfl
theorem dX8_readWord_36 : decode cX8_readWord 36 = .ok (.aload_n 0, 1) := dAt (x := (36, .aload_n 0, 1)) DX8_readWord_0 18 rfl
theorem dX8_readWord_37 : decode cX8_readWord 37 = .ok (.getfield 46, 3) := dAt (x := (37, .getfield 46, 3)) DX8_readWord_0 19 rfl
theorem dX8_readWord_40 : decode cX8_readWord 40 = .ok (.aload_n 0, 1) := dAt (x := (40, .aload_n 0, 1)) DX8_readWord_0 20 rfl
theorem dX8_readWord_41 : decode cX8_readWord 41 = .ok (.getfield 56, 3) := dAt (x := (41, .getfield 56, 3)) DX8_readWord_0 21 rfl
theorem dX8_readWord_44 : decode cX8_readWord 44 = .ok (.isub, 1) := dAt (x := (44, .isub, 1)) DX8_readWord_0 22 rfl
theorem dX8_readWord_45 : decode cX8_readWord 45 = .ok (.invokestatic 30, 3) := dAt (x := (45, .invokestatic 30, 3)) DX8_readWord_0 23 rfl
theorem dX8_readWord_48 : decode cX8_readWord 48 = .ok (.ior, 1) := dAt (x := (48, .ior, 1)) DX8_readWord_0 24 rfl
theorem dX8_readWord_49 : decode cX8_readWord 49 = .ok (.putfield 59, 3) := dAt (x := (49, .putfield 59, 3)) DX8_readWord_0 25 rfl
theorem dX8_readWord_52 : decode cX8_readWord 52 = .ok (.aload_n 0, 1) := dAt (x := (52, .aload_n 0, 1)) DX8_readWord_0 26 rfl
theorem dX8_readWord_53 : decode cX8_readWord 53 = .ok (.dup, 1) := dAt (x := (53, .dup, 1)) DX8_readWord_0 27 rfl
theorem dX8_readWord_54 : decode cX8_readWord 54 = .ok (.getfield 46, 3) := dAt (x := (54, .getfield 46, 3)) DX8_readWord_0 28 rfl
theorem dX8_readWord_57 : decode cX8_readWord 57 = .ok (.iconst 1, 1) := dAt (x := (57, .iconst 1, 1)) DX8_readWord_0 29 rfl
theorem dX8_readWord_58 : decode cX8_readWord 58 = .ok (.iadd, 1) := dAt (x := (58, .iadd, 1)) DX8_readWord_0 30 rfl
theorem dX8_readWord_59 : decode cX8_readWord 59 = .ok (.putfield 46, 3) := dAt (x := (59, .putfield 46, 3)) DX8_readWord_0 31 rfl
theorem dX8_readWord_62 : decode cX8_readWord 62 = .ok (.goto (-62), 3) := dAt (x := (62, .goto (-62), 3)) DX8_readWord_0 32 rfl
theorem dX8_readWord_65 : decode cX8_readWord 65 = .ok (.aload_n 0, 1) := dAt (x := (65, .aload_n 0, 1)) DX8_readWord_0 33 rfl
theorem dX8_readWord_66 : decode cX8_readWord 66 = .ok (.getfield 46, 3) := dAt (x := (66, .getfield 46, 3)) DX8_readWord_0 34 rfl
theorem dX8_readWord_69 : decode cX8_readWord 69 = .ok (.aload_n 0, 1) := dAt (x := (69, .aload_n 0, 1)) DX8_readWord_0 35 rfl
theorem dX8_readWord_70 : decode cX8_readWord 70 = .ok (.getfield 56, 3) := dAt (x := (70, .getfield 56, 3)) DX8_readWord_0 36 rfl
theorem dX8_readWord_73 : decode cX8_readWord 73 = .ok (.isub, 1) := dAt (x := (73, .isub, 1)) DX8_readWord_0 37 rfl
theorem dX8_readWord_74 : decode cX8_readWord 74 = .ok (.bipush 6, 2) := dAt (x := (74, .bipush 6, 2)) DX8_readWord_0 38 rfl
theorem dX8_readWord_76 : decode cX8_readWord 76 = .ok (.if_icmp .le 10, 3) := dAt (x := (76, .if_icmp .le 10, 3)) DX8_readWord_0 39 rfl
theorem dX8_readWord_79 : decode cX8_readWord 79 = .ok (.aload_n 0, 1) := dAt (x := (79, .aload_n 0, 1)) DX8_readWord_0 40 rfl
theorem dX8_readWord_80 : decode cX8_readWord 80 = .ok (.bipush 40, 2) := dAt (x := (80, .bipush 40, 2)) DX8_readWord_0 41 rfl
theorem dX8_readWord_82 : decode cX8_readWord 82 = .ok (.putfield 62, 3) := dAt (x := (82, .putfield 62, 3)) DX8_readWord_0 42 rfl
theorem dX8_readWord_85 : decode cX8_readWord 85 = .ok (.return_, 1) := dAt (x := (85, .return_, 1)) DX8_readWord_0 43 rfl
theorem dX8_readWord_86 : decode cX8_readWord 86 = .ok (.aload_n 0, 1) := dAt (x := (86, .aload_n 0, 1)) DX8_readWord_0 44 rfl
theorem dX8_readWord_87 : decode cX8_readWord 87 = .ok (.bipush 38, 2) := dAt (x := (87, .bipush 38, 2)) DX8_readWord_0 45 rfl
theorem dX8_readWord_89 : decode cX8_readWord 89 = .ok (.putfield 62, 3) := dAt (x := (89, .putfield 62, 3)) DX8_readWord_0 46 rfl
theorem dX8_readWord_92 : decode cX8_readWord 92 = .ok (.iconst 0, 1) := dAt (x := (92, .iconst 0, 1)) DX8_readWord_0 47 rfl
theorem dX8_readWord_93 : decode cX8_readWord 93 = .ok (.istore_n 1, 1) := dAt (x := (93, .istore_n 1, 1)) DX8_readWord_0 48 rfl
theorem dX8_readWord_94 : decode cX8_readWord 94 = .ok (.iload_n 1, 1) := dAt (x := (94, .iload_n 1, 1)) DX8_readWord_0 49 rfl
theorem dX8_readWord_95 : decode cX8_readWord 95 = .ok (.bipush 24, 2) := dAt (x := (95, .bipush 24, 2)) DX8_readWord_0 50 rfl
theorem dX8_readWord_97 : decode cX8_readWord 97 = .ok (.if_icmp .ge 27, 3) := dAt (x := (97, .if_icmp .ge 27, 3)) DX8_readWord_0 51 rfl
theorem dX8_readWord_100 : decode cX8_readWord 100 = .ok (.aload_n 0, 1) := dAt (x := (100, .aload_n 0, 1)) DX8_readWord_0 52 rfl
theorem dX8_readWord_101 : decode cX8_readWord 101 = .ok (.getfield 15, 3) := dAt (x := (101, .getfield 15, 3)) DX8_readWord_0 53 rfl
theorem dX8_readWord_104 : decode cX8_readWord 104 = .ok (.iload_n 1, 1) := dAt (x := (104, .iload_n 1, 1)) DX8_readWord_0 54 rfl
theorem dX8_readWord_105 : decode cX8_readWord 105 = .ok (.iaload, 1) := dAt (x := (105, .iaload, 1)) DX8_readWord_0 55 rfl
theorem dX8_readWord_106 : decode cX8_readWord 106 = .ok (.aload_n 0, 1) := dAt (x := (106, .aload_n 0, 1)) DX8_readWord_0 56 rfl
theorem dX8_readWord_107 : decode cX8_readWord 107 = .ok (.getfield 59, 3) := dAt (x := (107, .getfield 59, 3)) DX8_readWord_0 57 rfl
theorem dX8_readWord_110 : decode cX8_readWord 110 = .ok (.if_icmp .ne 8, 3) := dAt (x := (110, .if_icmp .ne 8, 3)) DX8_readWord_0 58 rfl
theorem dX8_readWord_113 : decode cX8_readWord 113 = .ok (.aload_n 0, 1) := dAt (x := (113, .aload_n 0, 1)) DX8_readWord_0 59 rfl
def lDX8_readWord_1 : List (Nat × Instr × Nat) := [(114, .iload_n 1, 1), (115, .putfield 62, 3), (118, .iinc 1 1, 3), (121, .goto (-27), 3), (124, .return_, 1)]
theorem DX8_readWord_1 : dAll cX8_readWord lDX8_readWord_1 = true := by decide +kernel
theorem dX8_readWord_114 : decode cX8_readWord 114 = .ok (.iload_n 1, 1) := dAt (x := (114, .iload_n 1, 1)) DX8_readWord_1 0 rfl
theorem dX8_readWord_115 : decode cX8_readWord 115 = .ok (.putfield 62, 3) := dAt (x := (115, .putfield 62, 3)) DX8_readWord_1 1 rfl
theorem dX8_readWord_118 : decode cX8_readWord 118 = .ok (.iinc 1 1, 3) := dAt (x := (118, .iinc 1 1, 3)) DX8_readWord_1 2 rfl
theorem dX8_readWord_121 : decode cX8_readWord 121 = .ok (.goto (-27), 3) := dAt (x := (121, .goto (-27), 3)) DX8_readWord_1 3 rfl
theorem dX8_readWord_124 : decode cX8_readWord 124 = .ok (.return_, 1) := dAt (x := (124, .return_, 1)) DX8_readWord_1 4 rfl
def lDX8_readNumber_0 : List (Nat × Instr × Nat) := [(0, .aload_n 0, 1), (1, .bipush 37, 2), (3, .putfield 62, 3), (6, .aload_n 0, 1), (7, .getfield 46, 3), (10, .aload_n 0, 1), (11, .getfield 43, 3), (14, .if_icmp .ge 56, 3), (17, .aload_n 0, 1), (18, .bipush 48, 2), (20, .bipush 57, 2), (22, .invokevirtual 52, 3), (25, .ifCond .eq 45, 3), (28, .aload_n 0, 1), (29, .ldc 74, 2), (31, .aload_n 0, 1), (32, .getfield 59, 3), (35, .bipush 10, 2), (37, .imul, 1), (38, .aload_n 0, 1), (39, .getfield 9, 3), (42, .aload_n 0, 1), (43, .getfield 46, 3), (46, .iaload, 1), (47, .iadd, 1), (48, .bipush 48, 2), (50, .isub, 1), (51, .invokestatic 38, 3), (54, .putfield 59, 3), (57, .aload_n 0, 1), (58, .dup, 1), (59, .getfield 46, 3), (62, .iconst 1, 1), (63, .iadd, 1), (64, .putfield 46, 3), (67, .goto (-61), 3), (70, .return_, 1)]
theorem DX8_readNumber_0 : dAll cX8_readNumber lDX8_readNumber_0 = true := by decide +kernel
theorem dX8_readNumber_0 : decode cX8_readNumber 0 = .ok (.aload_n 0, 1) := dAt (x := (0, .aload_n 0, 1)) DX8_readNumber_0 0 rfl
theorem dX8_readNumber_1 : decode cX8_readNumber 1 = .ok (.bipush 37, 2) := dAt (x := (1, .bipush 37, 2)) DX8_readNumber_0 1 rfl
theorem dX8_readNumber_3 : decode cX8_readNumber 3 = .ok (.putfield 62, 3) := dAt (x := (3, .putfield 62, 3)) DX8_readNumber_0 2 rfl
theorem dX8_readNumber_6 : decode cX8_readNumber 6 = .ok (.aload_n 0, 1) := dAt (x := (6, .aload_n 0, 1)) DX8_readNumber_0 3 rfl
theorem dX8_readNumber_7 : decode cX8_readNumber 7 = .ok (.getfield 46, 3) := dAt (x := (7, .getfield 46, 3)) DX8_readNumber_0 4 rfl
theorem dX8_readNumber_10 : decode cX8_readNumber 10 = .ok (.aload_n 0, 1) := dAt (x := (10, .aload_n 0, 1)) DX8_readNumber_0 5 rfl
theorem dX8_readNumber_11 : decode cX8_readNumber 11 = .ok (.getfield 43, 3) := dAt (x := (11, .getfield 43, 3)) DX8_readNumber_0 6 rfl
theorem dX8_readNumber_14 : decode cX8_readNumber 14 = .ok (.if_icmp .ge 56, 3) := dAt (x := (14, .if_icmp .ge 56, 3)) DX8_readNumber_0 7 rfl
theorem dX8_readNumber_17 : decode cX8_readNumber 17 = .ok (.aload_n 0, 1) := dAt (x := (17, .aload_n 0, 1)) DX8_readNumber_0 8 rfl
theorem dX8_readNumber_18 : decode cX8_readNumber 18 = .ok (.bipush 48, 2) := dAt (x := (18, .bipush 48, 2)) DX8_readNumber_0 9 rfl
theorem dX8_readNumber_20 : decode cX8_readNumber 20 = .ok (.bipush 57, 2) := dAt (x := (20, .bipush 57, 2)) DX8_readNumber_0 10 rfl
theorem dX8_readNumber_22 : decode cX8_readNumber 22 = .ok (.invokevirtual 52, 3) := dAt (x := (22, .invokevirtual 52, 3)) DX8_readNumber_0 11 rfl
theorem dX8_readNumber_25 : decode cX8_readNumber 25 = .ok (.ifCond .eq 45, 3) := dAt (x := (25, .ifCond .eq 45, 3)) DX8_readNumber_0 12 rfl
theorem dX8_readNumber_28 : decode cX8_readNumber 28 = .ok (.aload_n 0, 1) := dAt (x := (28, .aload_n 0, 1)) DX8_readNumber_0 13 rfl
theorem dX8_readNumber_29 : decode cX8_readNumber 29 = .ok (.ldc 74, 2) := dAt (x := (29, .ldc 74, 2)) DX8_readNumber_0 14 rfl
theorem dX8_readNumber_31 : decode cX8_readNumber 31 = .ok (.aload_n 0, 1) := dAt (x := (31, .aload_n 0, 1)) DX8_readNumber_0 15 rfl
theorem dX8_readNumber_32 : decode cX8_readNumber 32 = .ok (.getfield 59, 3) := dAt (x := (32, .getfield 59, 3)) DX8_readNumber_0 16 rfl
theorem dX8_readNumber_35 : decode cX8_readNumber 35 = .ok (.bipush 10, 2) := dAt (x := (35, .bipush 10, 2)) DX8_readNumber_0 17 rfl
theorem dX8_readNumber_37 : decode cX8_readNumber 37 = .ok (.imul, 1) := dAt (x := (37, .imul, 1)) DX8_readNumber_0 18 rfl
theorem dX8_readNumber_38 : decode cX8_readNumber 38 = .ok (.aload_n 0, 1) := dAt (x := (38, .aload_n 0, 1)) DX8_readNumber_0 19 rfl
theorem dX8_readNumber_39 : decode cX8_readNumber 39 = .ok (.getfield 9, 3) := dAt (x := (39, .getfield 9, 3)) DX8_readNumber_0 20 rfl
theorem dX8_readNumber_42 : decode cX8_readNumber 42 = .ok (.aload_n 0, 1) := dAt (x := (42, .aload_n 0, 1)) DX8_readNumber_0 21 rfl
theorem dX8_readNumber_43 : decode cX8_readNumber 43 = .ok (.getfield 46, 3) := dAt (x := (43, .getfield 46, 3)) DX8_readNumber_0 22 rfl
theorem dX8_readNumber_46 : decode cX8_readNumber 46 = .ok (.iaload, 1) := dAt (x := (46, .iaload, 1)) DX8_readNumber_0 23 rfl
theorem dX8_readNumber_47 : decode cX8_readNumber 47 = .ok (.iadd, 1) := dAt (x := (47, .iadd, 1)) DX8_readNumber_0 24 rfl
theorem dX8_readNumber_48 : decode cX8_readNumber 48 = .ok (.bipush 48, 2) := dAt (x := (48, .bipush 48, 2)) DX8_readNumber_0 25 rfl
theorem dX8_readNumber_50 : decode cX8_readNumber 50 = .ok (.isub, 1) := dAt (x := (50, .isub, 1)) DX8_readNumber_0 26 rfl
theorem dX8_readNumber_51 : decode cX8_readNumber 51 = .ok (.invokestatic 38, 3) := dAt (x := (51, .invokestatic 38, 3)) DX8_readNumber_0 27 rfl
theorem dX8_readNumber_54 : decode cX8_readNumber 54 = .ok (.putfield 59, 3) := dAt (x := (54, .putfield 59, 3)) DX8_readNumber_0 28 rfl
theorem dX8_readNumber_57 : decode cX8_readNumber 57 = .ok (.aload_n 0, 1) := dAt (x := (57, .aload_n 0, 1)) DX8_readNumber_0 29 rfl
theorem dX8_readNumber_58 : decode cX8_readNumber 58 = .ok (.dup, 1) := dAt (x := (58, .dup, 1)) DX8_readNumber_0 30 rfl
theorem dX8_readNumber_59 : decode cX8_readNumber 59 = .ok (.getfield 46, 3) := dAt (x := (59, .getfield 46, 3)) DX8_readNumber_0 31 rfl
theorem dX8_readNumber_62 : decode cX8_readNumber 62 = .ok (.iconst 1, 1) := dAt (x := (62, .iconst 1, 1)) DX8_readNumber_0 32 rfl
theorem dX8_readNumber_63 : decode cX8_readNumber 63 = .ok (.iadd, 1) := dAt (x := (63, .iadd, 1)) DX8_readNumber_0 33 rfl
theorem dX8_readNumber_64 : decode cX8_readNumber 64 = .ok (.putfield 46, 3) := dAt (x := (64, .putfield 46, 3)) DX8_readNumber_0 34 rfl
theorem dX8_readNumber_67 : decode cX8_readNumber 67 = .ok (.goto (-61), 3) := dAt (x := (67, .goto (-61), 3)) DX8_readNumber_0 35 rfl
theorem dX8_readNumber_70 : decode cX8_readNumber 70 = .ok (.return_, 1) := dAt (x := (70, .return_, 1)) DX8_readNumber_0 36 rfl
def lDX8_readSign_0 : List (Nat × Instr × Nat) := [(0, .iconst (-1), 1), (1, .istore_n 1, 1), (2, .aload_n 0, 1), (3, .getfield 46, 3), (6, .sipush 700, 3), (9, .if_icmp .ge 19, 3), (12, .ldc 75, 2), (14, .aload_n 0, 1), (15, .getfield 9, 3), (18, .aload_n 0, 1), (19, .getfield 46, 3), (22, .iaload, 1), (23, .i2c, 1), (24, .invokevirtual 77, 3), (27, .istore_n 1, 1), (28, .aload_n 0, 1), (29, .dup, 1), (30, .getfield 46, 3), (33, .iconst 1, 1), (34, .iadd, 1), (35, .putfield 46, 3), (38, .aload_n 0, 1), (39, .iload_n 1, 1), (40, .ifCond .ge 8, 3), (43, .bipush 40, 2), (45, .goto 7, 3), (48, .bipush 24, 2), (50, .iload_n 1, 1), (51, .iadd, 1), (52, .putfield 62, 3), (55, .aload_n 0, 1), (56, .getfield 62, 3), (59, .bipush 27, 2), (61, .if_icmp .ne 33, 3), (64, .aload_n 0, 1), (65, .bipush 61, 2), (67, .bipush 61, 2), (69, .invokevirtual 52, 3), (72, .ifCond .eq 22, 3), (75, .aload_n 0, 1), (76, .bipush 34, 2), (78, .putfield 62, 3), (81, .aload_n 0, 1), (82, .dup, 1), (83, .getfield 46, 3), (86, .iconst 1, 1), (87, .iadd, 1), (88, .putfield 46, 3), (91, .goto 78, 3), (94, .aload_n 0, 1), (95, .getfield 62, 3), (98, .bipush 27, 2), (100, .if_icmp .ne 33, 3), (103, .aload_n 0, 1), (104, .bipush 62, 2), (106, .bipush 62, 2), (108, .invokevirtual 52, 3), (111, .ifCond .eq 22, 3), (114, .aload_n 0, 1), (115, .bipush 35, 2)]
theorem DX8_readSign_0 : dAll cX8_readSign lDX8_readSign_0 = true := by decide +kernel
theorem dX8_readSign_0 : decode cX8_readSign 0 = .ok (.iconst (-1), 1) := dAt (x := (0, .iconst (-1), 1)) DX8_readSign_0 0 rfl
theorem dX8_readSign_1 : decode cX8_readSign 1 = .ok (.istore_n 1, 1) := dAt (x := (1, .istore_n 1, 1)) DX8_readSign_0 1 rfl
theorem dX8_readSign_2 : decode cX8_readSign 2 = .ok (.aload_n 0, 1) := dAt (x := (2, .aload_n 0, 1)) DX8_readSign_0 2 rfl
theorem dX8_readSign_3 : decode cX8_readSign 3 = .ok (.getfield 46, 3) := dAt (x := (3, .getfield 46, 3)) DX8_readSign_0 3 rfl
theorem dX8_readSign_6 : decode cX8_readSign 6 = .ok (.sipush 700, 3) := dAt (x := (6, .sipush 700, 3)) DX8_readSign_0 4 rfl
theorem dX8_readSign_9 : decode cX8_readSign 9 = .ok (.if_icmp .ge 19, 3) := dAt (x := (9, .if_icmp .ge 19, 3)) DX8_readSign_0 5 rfl
theorem dX8_readSign_12 : decode cX8_readSign 12 = .ok (.ldc 75, 2) := dAt (x := (12, .ldc 75, 2)) DX8_readSign_0 6 rfl
theorem dX8_readSign_14 : decode cX8_readSign 14 = .ok (.aload_n 0, 1) := dAt (x := (14, .aload_n 0, 1)) DX8_readSign_0 7 rfl
theorem dX8_readSign_15 : decode cX8_readSign 15 = .ok (.getfield 9, 3) := dAt (x := (15, .getfield 9, 3)) DX8_readSign_0 8 rfl
theorem dX8_readSign_18 : decode cX8_readSign 18 = .ok (.aload_n 0, 1) := dAt (x := (18, .aload_n 0, 1)) DX8_readSign_0 9 rfl
theorem dX8_readSign_19 : decode cX8_readSign 19 = .ok (.getfield 46, 3) := dAt (x := (19, .getfield 46, 3)) DX8_readSign_0 10 rfl
theorem dX8_readSign_22 : decode cX8_readSign 22 = .ok (.iaload, 1) := dAt (x := (22, .iaload, 1)) DX8_readSign_0 11 rfl
theorem dX8_readSign_23 : decode cX8_readSign 23 = .ok (.i2c, 1) := dAt (x := (23, .i2c, 1)) DX8_readSign_0 12 rfl
theorem dX8_readSign_24 : decode cX8_readSign 24 = .ok (.invokevirtual 77, 3) := dAt (x := (24, .invokevirtual 77, 3)) DX8_readSign_0 13 rfl
theorem dX8_readSign_27 : decode cX8_readSign 27 = .ok (.istore_n 1, 1) := dAt (x := (27, .istore_n 1, 1)) DX8_readSign_0 14 rfl
theorem dX8_readSign_28 : decode cX8_readSign 28 = .ok (.aload_n 0, 1) := dAt (x := (28, .aload_n 0, 1)) DX8_readSign_0 15 rfl
theorem dX8_readSign_29 : decode cX8_readSign 29 = .ok (.dup, 1) := dAt (x := (29, .dup, 1)) DX8_readSign_0 16 rfl
theorem dX8_readSign_30 : decode cX8_readSign 30 = .ok (.getfield 46, 3) := dAt (x := (30, .getfield 46, 3)) DX8_readSign_0 17 rfl
theorem dX8_readSign_33 : decode cX8_readSign 33 = .ok (.iconst 1, 1) := dAt (x := (33, .iconst 1, 1)) DX8_readSign_0 18 rfl
theorem dX8_readSign_34 : decode cX8_readSign 34 = .ok (.iadd, 1) := dAt (x := (34, .iadd, 1)) DX8_readSign_0 19 rfl
theorem dX8_readSign_35 : decode cX8_readSign 35 = .ok (.putfield 46, 3) := dAt (x := (35, .putfield 46, 3)) DX8_readSign_0 20 rfl
theorem dX8_readSign_38 : decode cX8_readSign 38 = .ok (.aload_n 0, 1) := dAt (x := (38, .aload_n 0, 1)) DX8_readSign_0 21 rfl
theorem dX8_readSign_39 : decode cX8_readSign 39 = .ok (.iload_n 1, 1) := dAt (x := (39, .iload_n 1, 1)) DX8_readSign_0 22 rfl
theorem dX8_readSign_40 : decode cX8_readSign 40 = .ok (.ifCond .ge 8, 3) := dAt (x := (40, .ifCond .ge 8, 3)) DX8_readSign_0 23 rfl
theorem dX8_readSign_43 : decode cX8_readSign 43 = .ok (.bipush 40, 2) := dAt (x := (43, .bipush 40, 2)) DX8_readSign_0 24 rfl
theorem dX8_readSign_45 : decode cX8_readSign 45 = .ok (.goto 7, 3) := dAt (x := (45, .goto 7, 3)) DX8_readSign_0 25 rfl
theorem dX8_readSign_48 : decode cX8_readSign 48 = .ok (.bipush 24, 2) := dAt (x := (48, .bipush 24, 2)) DX8_readSign_0 26 rfl
theorem dX8_readSign_50 : decode cX8_readSign 50 = .ok (.iload_n 1, 1) := dAt (x := (50, .iload_n 1, 1)) DX8_readSign_0 27 rfl
theorem dX8_readSign_51 : decode cX8_readSign 51 = .ok (.iadd, 1) := dAt (x := (51, .iadd, 1)) DX8_readSign_0 28 rfl
theorem dX8_readSign_52 : decode cX8_readSign 52 = .ok (.putfield 62, 3) := dAt (x := (52, .putfield 62, 3)) DX8_readSign_0 29 rfl
theorem dX8_readSign_55 : decode cX8_readSign 55 = .ok (.aload_n 0, 1) := dAt (x := (55, .aload_n 0, 1)) DX8_readSign_0 30 rfl
theorem dX8_readSign_56 : decode cX8_readSign 56 = .ok (.getfield 62, 3) := dAt (x := (56, .getfield 62, 3)) DX8_readSign_0 31 rfl
theorem dX8_readSign_59 : decode cX8_readSign 59 = .ok (.bipush 27, 2) := dAt (x := (59, .bipush 27, 2)) DX8_readSign_0 32 rfl
theorem dX8_readSign_61 : decode cX8_readSign 61 = .ok (.if_icmp .ne 33, 3) := dAt (x := (61, .if_icmp .ne 33, 3)) DX8_readSign_0 33 rfl
theorem dX8_readSign_64 : decode cX8_readSign 64 = .ok (.aload_n 0, 1) := dAt (x := (64, .aload_n 0, 1)) DX8_readSign_0 34 rfl
theorem dX8_readSign_65 : decode cX8_readSign 65 = .ok (.bipush 61, 2) := dAt (x := (65, .bipush 61, 2)) DX8_readSign_0 35 rfl
theorem dX8_readSign_67 : decode cX8_readSign 67 = .ok (.bipush 61, 2) := dAt (x := (67, .bipush 61, 2)) DX8_readSign_0 36 rfl
theorem dX8_readSign_69 : decode cX8_readSign 69 = .ok (.invokevirtual 52, 3) := dAt (x := (69, .invokevirtual 52, 3)) DX8_readSign_0 37 rfl
theorem dX8_readSign_72 : decode cX8_readSign 72 = .ok (.ifCond .eq 22, 3) := dAt (x := (72, .ifCond .eq 22, 3)) DX8_readSign_0 38 rfl
theorem dX8_readSign_75 : decode cX8_readSign 75 = .ok (.aload_n 0, 1) := dAt (x := (75, .aload_n 0, 1)) DX8_readSign_0 39 rfl
theorem dX8_readSign_76 : decode cX8_readSign 76 = .ok (.bipush 34, 2) := dAt (x := (76, .bipush 34, 2)) DX8_readSign_0 40 rfl
theorem dX8_readSign_78 : decode cX8_readSign 78 = .ok (.putfield 62, 3) := dAt (x := (78, .putfield 62, 3)) DX8_readSign_0 41 rfl
theorem dX8_readSign_81 : decode cX8_readSign 81 = .ok (.aload_n 0, 1) := dAt (x := (81, .aload_n 0, 1)) DX8_readSign_0 42 rfl
theorem dX8_readSign_82 : decode cX8_readSign 82 = .ok (.dup, 1) := dAt (x := (82, .dup, 1)) DX8_readSign_0 43 rfl
theorem dX8_readSign_83 : decode cX8_readSign 83 = .ok (.getfield 46, 3) := dAt (x := (83, .getfield 46, 3)) DX8_readSign_0 44 rfl
theorem dX8_readSign_86 : decode cX8_readSign 86 = .ok (.iconst 1, 1) := dAt (x := (86, .iconst 1, 1)) DX8_readSign_0 45 rfl
theorem dX8_readSign_87 : decode cX8_readSign 87 = .ok (.iadd, 1) := dAt (x := (87, .iadd, 1)) DX8_readSign_0 46 rfl
theorem dX8_readSign_88 : decode cX8_readSign 88 = .ok (.putfield 46, 3) := dAt (x := (88, .putfield 46, 3)) DX8_readSign_0 47 rfl
theorem dX8_readSign_91 : decode cX8_readSign 91 = .ok (.goto 78, 3) := dAt (x := (91, .goto 78, 3)) DX8_readSign_0 48 rfl
theorem dX8_readSign_94 : decode cX8_readSign 94 = .ok (.aload_n 0, 1) := dAt (x := (94, .aload_n 0, 1)) DX8_readSign_0 49 rfl
theorem dX8_readSign_95 : decode cX8_readSign 95 = .ok (.getfield 62, 3) := dAt (x := (95, .getfield 62, 3)) DX8_readSign_0 50 rfl
theorem dX8_readSign_98 : decode cX8_readSign 98 = .ok (.bipush 27, 2) := dAt (x := (98, .bipush 27, 2)) DX8_readSign_0 51 rfl
theorem dX8_readSign_100 : decode cX8_readSign 100 = .ok (.if_icmp .ne 33, 3) := dAt (x := (100, .if_icmp .ne 33, 3)) DX8_readSign_0 52 rfl
theorem dX8_readSign_103 : decode cX8_readSign 103 = .ok (.aload_n 0, 1) := dAt (x := (103, .aload_n 0, 1)) DX8_readSign_0 53 rfl
theorem dX8_readSign_104 : decode cX8_readSign 104 = .ok (.bipush 62, 2) := dAt (x := (104, .bipush 62, 2)) DX8_readSign_0 54 rfl
theorem dX8_readSign_106 : decode cX8_readSign 106 = .ok (.bipush 62, 2) := dAt (x := (106, .bipush 62, 2)) DX8_readSign_0 55 rfl
theorem dX8_readSign_108 : decode cX8_readSign 108 = .ok (.invokevirtual 52, 3) := dAt (x := (108, .invokevirtual 52, 3)) DX8_readSign_0 56 rfl
theorem dX8_readSign_111 : decode cX8_readSign 111 = .ok (.ifCond .eq 22, 3) := dAt (x := (111, .ifCond .eq 22, 3)) DX8_readSign_0 57 rfl
theorem dX8_readSign_114 : decode cX8_readSign 114 = .ok (.aload_n 0, 1) := dAt (x := (114, .aload_n 0, 1)) DX8_readSign_0 58 rfl
theorem dX8_readSign_115 : decode cX8_readSign 115 = .ok (.bipush 35, 2) := dAt (x := (115, .bipush 35, 2)) DX8_readSign_0 59 rfl
def lDX8_readSign_1 : List (Nat × Instr × Nat) := [(117, .putfield 62, 3), (120, .aload_n 0, 1), (121, .dup, 1), (122, .getfield 46, 3), (125, .iconst 1, 1), (126, .iadd, 1), (127, .putfield 46, 3), (130, .goto 39, 3), (133, .aload_n 0, 1), (134, .getfield 62, 3), (137, .bipush 29, 2), (139, .if_icmp .ne 30, 3), (142, .aload_n 0, 1), (143, .bipush 61, 2), (145, .bipush 61, 2), (147, .invokevirtual 52, 3), (150, .ifCond .eq 19, 3), (153, .aload_n 0, 1), (154, .bipush 36, 2), (156, .putfield 62, 3), (159, .aload_n 0, 1), (160, .dup, 1), (161, .getfield 46, 3), (164, .iconst 1, 1), (165, .iadd, 1), (166, .putfield 46, 3), (169, .return_, 1)]
theorem DX8_readSign_1 : dAll cX8_readSign lDX8_readSign_1 = true := by decide +kernel
theorem dX8_readSign_117 : decode cX8_readSign 117 = .ok (.putfield 62, 3) := dAt (x := (117, .putfield 62, 3)) DX8_readSign_1 0 rfl
theorem dX8_readSign_120 : decode cX8_readSign 120 = .ok (.aload_n 0, 1) := dAt (x := (120, .aload_n 0, 1)) DX8_readSign_1 1 rfl
theorem dX8_readSign_121 : decode cX8_readSign 121 = .ok (.dup, 1) := dAt (x := (121, .dup, 1)) DX8_readSign_1 2 rfl
theorem dX8_readSign_122 : decode cX8_readSign 122 = .ok (.getfield 46, 3) := dAt (x := (122, .getfield 46, 3)) DX8_readSign_1 3 rfl
theorem dX8_readSign_125 : decode cX8_readSign 125 = .ok (.iconst 1, 1) := dAt (x := (125, .iconst 1, 1)) DX8_readSign_1 4 rfl
theorem dX8_readSign_126 : decode cX8_readSign 126 = .ok (.iadd, 1) := dAt (x := (126, .iadd, 1)) DX8_readSign_1 5 rfl
theorem dX8_readSign_127 : decode cX8_readSign 127 = .ok (.putfield 46, 3) := dAt (x := (127, .putfield 46, 3)) DX8_readSign_1 6 rfl
theorem dX8_readSign_130 : decode cX8_readSign 130 = .ok (.goto 39, 3) := dAt (x := (130, .goto 39, 3)) DX8_readSign_1 7 rfl
theorem dX8_readSign_133 : decode cX8_readSign 133 = .ok (.aload_n 0, 1) := dAt (x := (133, .aload_n 0, 1)) DX8_readSign_1 8 rfl
theorem dX8_readSign_134 : decode cX8_readSign 134 = .ok (.getfield 62, 3) := dAt (x := (134, .getfield 62, 3)) DX8_readSign_1 9 rfl
theorem dX8_readSign_137 : decode cX8_readSign 137 = .ok (.bipush 29, 2) := dAt (x := (137, .bipush 29, 2)) DX8_readSign_1 10 rfl
theorem dX8_readSign_139 : decode cX8_readSign 139 = .ok (.if_icmp .ne 30, 3) := dAt (x := (139, .if_icmp .ne 30, 3)) DX8_readSign_1 11 rfl
theorem dX8_readSign_142 : decode cX8_readSign 142 = .ok (.aload_n 0, 1) := dAt (x := (142, .aload_n 0, 1)) DX8_readSign_1 12 rfl
theorem dX8_readSign_143 : decode cX8_readSign 143 = .ok (.bipush 61, 2) := dAt (x := (143, .bipush 61, 2)) DX8_readSign_1 13 rfl
theorem dX8_readSign_145 : decode cX8_readSign 145 = .ok (.bipush 61, 2) := dAt (x := (145, .bipush 61, 2)) DX8_readSign_1 14 rfl
theorem dX8_readSign_147 : decode cX8_readSign 147 = .ok (.invokevirtual 52, 3) := dAt (x := (147, .invokevirtual 52, 3)) DX8_readSign_1 15 rfl
theorem dX8_readSign_150 : decode cX8_readSign 150 = .ok (.ifCond .eq 19, 3) := dAt (x := (150, .ifCond .eq 19, 3)) DX8_readSign_1 16 rfl
theorem dX8_readSign_153 : decode cX8_readSign 153 = .ok (.aload_n 0, 1) := dAt (x := (153, .aload_n 0, 1)) DX8_readSign_1 17 rfl
theorem dX8_readSign_154 : decode cX8_readSign 154 = .ok (.bipush 36, 2) := dAt (x := (154, .bipush 36, 2)) DX8_readSign_1 18 rfl
theorem dX8_readSign_156 : decode cX8_readSign 156 = .ok (.putfield 62, 3) := dAt (x := (156, .putfield 62, 3)) DX8_readSign_1 19 rfl
theorem dX8_readSign_159 : decode cX8_readSign 159 = .ok (.aload_n 0, 1) := dAt (x := (159, .aload_n 0, 1)) DX8_readSign_1 20 rfl
theorem dX8_readSign_160 : decode cX8_readSign 160 = .ok (.dup, 1) := dAt (x := (160, .dup, 1)) DX8_readSign_1 21 rfl
theorem dX8_readSign_161 : decode cX8_readSign 161 = .ok (.getfield 46, 3) := dAt (x := (161, .getfield 46, 3)) DX8_readSign_1 22 rfl
theorem dX8_readSign_164 : decode cX8_readSign 164 = .ok (.iconst 1, 1) := dAt (x := (164, .iconst 1, 1)) DX8_readSign_1 23 rfl
theorem dX8_readSign_165 : decode cX8_readSign 165 = .ok (.iadd, 1) := dAt (x := (165, .iadd, 1)) DX8_readSign_1 24 rfl
theorem dX8_readSign_166 : decode cX8_readSign 166 = .ok (.putfield 46, 3) := dAt (x := (166, .putfield 46, 3)) DX8_readSign_1 25 rfl
theorem dX8_readSign_169 : decode cX8_readSign 169 = .ok (.return_, 1) := dAt (x := (169, .return_, 1)) DX8_readSign_1 26 rfl
def lDX9_init_0 : List (Nat × Instr × Nat) := [(0, .aload_n 0, 1), (1, .invokespecial 3, 3), (4, .aload_n 0, 1), (5, .bipush 20, 2), (7, .newarray .int, 2), (9, .putfield 9, 3), (12, .aload_n 0, 1), (13, .bipush 20, 2), (15, .newarray .int, 2), (17, .putfield 15, 3), (20, .aload_n 0, 1), (21, .bipush 20, 2), (23, .newarray .int, 2), (25, .putfield 18, 3), (28, .aload_n 0, 1), (29, .bipush 20, 2), (31, .newarray .int, 2), (33, .putfield 21, 3), (36, .aload_n 0, 1), (37, .bipush 20, 2), (39, .newarray .int, 2), (41, .putfield 24, 3), (44, .return_, 1)]
theorem DX9_init_0 : dAll cX9_init lDX9_init_0 = true := by decide +kernel
theorem dX9_init_0 : decode cX9_init 0 = .ok (.aload_n 0, 1) := dAt (x := (0, .aload_n 0, 1)) DX9_init_0 0 rfl
theorem dX9_init_1 : decode cX9_init 1 = .ok (.invokespecial 3, 3) := dAt (x := (1, .invokespecial 3, 3)) DX9_init_0 1 rfl
theorem dX9_init_4 : decode cX9_init 4 = .ok (.aload_n 0, 1) := dAt (x := (4, .aload_n 0, 1)) DX9_init_0 2 rfl
theorem dX9_init_5 : decode cX9_init 5 = .ok (.bipush 20, 2) := dAt (x := (5, .bipush 20, 2)) DX9_init_0 3 rfl
theorem dX9_init_7 : decode cX9_init 7 = .ok (.newarray .int, 2) := dAt (x := (7, .newarray .int, 2)) DX9_init_0 4 rfl
theorem dX9_init_9 : decode cX9_init 9 = .ok (.putfield 9, 3) := dAt (x := (9, .putfield 9, 3)) DX9_init_0 5 rfl
theorem dX9_init_12 : decode cX9_init 12 = .ok (.aload_n 0, 1) := dAt (x := (12, .aload_n 0, 1)) DX9_init_0 6 rfl
theorem dX9_init_13 : decode cX9_init 13 = .ok (.bipush 20, 2) := dAt (x := (13, .bipush 20, 2)) DX9_init_0 7 rfl
theorem dX9_init_15 : decode cX9_init 15 = .ok (.newarray .int, 2) := dAt (x := (15, .newarray .int, 2)) DX9_init_0 8 rfl
theorem dX9_init_17 : decode cX9_init 17 = .ok (.putfield 15, 3) := dAt (x := (17, .putfield 15, 3)) DX9_init_0 9 rfl
theorem dX9_init_20 : decode cX9_init 20 = .ok (.aload_n 0, 1) := dAt (x := (20, .aload_n 0, 1)) DX9_init_0 10 rfl
theorem dX9_init_21 : decode cX9_init 21 = .ok (.bipush 20, 2) := dAt (x := (21, .bipush 20, 2)) DX9_init_0 11 rfl
theorem dX9_init_23 : decode cX9_init 23 = .ok (.newarray .int, 2) := dAt (x := (23, .newarray .int, 2)) DX9_init_0 12 rfl
theorem dX9_init_25 : decode cX9_init 25 = .ok (.putfield 18, 3) := dAt (x := (25, .putfield 18, 3)) DX9_init_0 13 rfl
theorem dX9_init_28 : decode cX9_init 28 = .ok (.aload_n 0, 1) := dAt (x := (28, .aload_n 0, 1)) DX9_init_0 14 rfl
theorem dX9_init_29 : decode cX9_init 29 = .ok (.bipush 20, 2) := dAt (x := (29, .bipush 20, 2)) DX9_init_0 15 rfl
theorem dX9_init_31 : decode cX9_init 31 = .ok (.newarray .int, 2) := dAt (x := (31, .newarray .int, 2)) DX9_init_0 16 rfl
theorem dX9_init_33 : decode cX9_init 33 = .ok (.putfield 21, 3) := dAt (x := (33, .putfield 21, 3)) DX9_init_0 17 rfl
theorem dX9_init_36 : decode cX9_init 36 = .ok (.aload_n 0, 1) := dAt (x := (36, .aload_n 0, 1)) DX9_init_0 18 rfl
theorem dX9_init_37 : decode cX9_init 37 = .ok (.bipush 20, 2) := dAt (x := (37, .bipush 20, 2)) DX9_init_0 19 rfl
theorem dX9_init_39 : decode cX9_init 39 = .ok (.newarray .int, 2) := dAt (x := (39, .newarray .int, 2)) DX9_init_0 20 rfl
theorem dX9_init_41 : decode cX9_init 41 = .ok (.putfield 24, 3) := dAt (x := (41, .putfield 24, 3)) DX9_init_0 21 rfl
theorem dX9_init_44 : decode cX9_init 44 = .ok (.return_, 1) := dAt (x := (44, .return_, 1)) DX9_init_0 22 rfl
def lDX9_clear_0 : List (Nat × Instr × Nat) := [(0, .aload_n 0, 1), (1, .iconst 0, 1), (2, .putfield 27, 3), (5, .aload_n 0, 1), (6, .iconst 0, 1), (7, .putfield 31, 3), (10, .return_, 1)]
theorem DX9_clear_0 : dAll cX9_clear lDX9_clear_0 = true := by decide +kernel
theorem dX9_clear_0 : decode cX9_clear 0 = .ok (.aload_n 0, 1) := dAt (x := (0, .aload_n 0, 1)) DX9_clear_0 0 rfl
theorem dX9_clear_1 : decode cX9_clear 1 = .ok (.iconst 0, 1) := dAt (x := (1, .iconst 0, 1)) DX9_clear_0 1 rfl
theorem dX9_clear_2 : decode cX9_clear 2 = .ok (.putfield 27, 3) := dAt (x := (2, .putfield 27, 3)) DX9_clear_0 2 rfl
theorem dX9_clear_5 : decode cX9_clear 5 = .ok (.aload_n 0, 1) := dAt (x := (5, .aload_n 0, 1)) DX9_clear_0 3 rfl
theorem dX9_clear_6 : decode cX9_clear 6 = .ok (.iconst 0, 1) := dAt (x := (6, .iconst 0, 1)) DX9_clear_0 4 rfl
theorem dX9_clear_7 : decode cX9_clear 7 = .ok (.putfield 31, 3) := dAt (x := (7, .putfield 31, 3)) DX9_clear_0 5 rfl
theorem dX9_clear_10 : decode cX9_clear 10 = .ok (.return_, 1) := dAt (x := (10, .return_, 1)) DX9_clear_0 6 rfl
def lDX9_remember_0 : List (Nat × Instr × Nat) := [(0, .aload_n 0, 1), (1, .getfield 31, 3), (4, .bipush 20, 2), (6, .if_icmp .ne 28, 3), (9, .aload_n 0, 1), (10, .aload_n 0, 1), (11, .getfield 27, 3), (14, .iconst 1, 1), (15, .iadd, 1), (16, .bipush 20, 2), (18, .invokestatic 34, 3), (21, .putfield 27, 3), (24, .aload_n 0, 1), (25, .dup, 1), (26, .getfield 31, 3), (29, .iconst 1, 1), (30, .isub, 1), (31, .putfield 31, 3), (34, .aload_n 0, 1), (35, .getfield 27, 3), (38, .aload_n 0, 1), (39, .getfield 31, 3), (42, .iadd, 1), (43, .bipush 20, 2), (45, .invokestatic 34, 3), (48, .istore_n 3, 1), (49, .aload_n 0, 1), (50, .getfield 9, 3), (53, .iload_n 3, 1), (54, .aload_n 1, 1), (55, .getfield 40, 3), (58, .iastore, 1), (59, .aload_n 0, 1), (60, .getfield 15, 3), (63, .iload_n 3, 1), (64, .aload_n 1, 1), (65, .getfield 45, 3), (68, .iastore, 1), (69, .aload_n 0, 1), (70, .getfield 18, 3), (73, .iload_n 3, 1), (74, .aload_n 1, 1), (75, .getfield 48, 3), (78, .iastore, 1), (79, .aload_n 0, 1), (80, .getfield 21, 3), (83, .iload_n 3, 1), (84, .iload_n 2, 1), (85, .iastore, 1), (86, .aload_n 0, 1), (87, .getfield 24, 3), (90, .iload_n 3, 1), (91, .aload_n 1, 1), (92, .iload_n 2, 1), (93, .invokevirtual 51, 3), (96, .iastore, 1), (97, .aload_n 0, 1), (98, .dup, 1), (99, .getfield 31, 3), (102, .iconst 1, 1)]
theorem DX9_remember_0 : dAll cX9_remember lDX9_remember_0 = true := by decide +kernel
theorem dX9_remember_0 : decode cX9_remember 0 = .ok (.aload_n 0, 1) := dAt (x := (0, .aload_n 0, 1)) DX9_remember_0 0 rfl
theorem dX9_remember_1 : decode cX9_remember 1 = .ok (.getfield 31, 3) := dAt (x := (1, .getfield 31, 3)) DX9_remember_0 1 rfl
theorem dX9_remember_4 : decode cX9_remember 4 = .ok (.bipush 20, 2) := dAt (x := (4, .bipush 20, 2)) DX9_remember_0 2 rfl
theorem dX9_remember_6 : decode cX9_remember 6 = .ok (.if_icmp .ne 28, 3) := dAt (x := (6, .if_icmp .ne 28, 3)) DX9_remember_0 3 rfl
theorem dX9_remember_9 : decode cX9_remember 9 = .ok (.aload_n 0, 1) := dAt (x := (9, .aload_n 0, 1)) DX9_remember_0 4 rfl
theorem dX9_remember_10 : decode cX9_remember 10 = .ok (.aload_n 0, 1) := dAt (x := (10, .aload_n 0, 1)) DX9_remember_0 5 rfl
theorem dX9_remember_11 : decode cX9_remember 11 = .ok (.getfield 27, 3) := dAt (x := (11, .getfield 27, 3)) DX9_remember_0 6 rfl
theorem dX9_remember_14 : decode cX9_remember 14 = .ok (.iconst 1, 1) := dAt (x := (14, .iconst 1, 1)) DX9_remember_0 7 rfl
theorem dX9_remember_15 : decode cX9_remember 15 = .ok (.iadd, 1) := dAt (x := (15, .iadd, 1)) DX9_remember_0 8 rfl
theorem dX9_remember_16 : decode cX9_remember 16 = .ok (.bipush 20, 2) := dAt (x := (16, .bipush 20, 2)) DX9_remember_0 9 rfl
theorem dX9_remember_18 : decode cX9_remember 18 = .ok (.invokestatic 34, 3) := dAt (x := (18, .invokestatic 34, 3)) DX9_remember_0 10 rfl
theorem dX9_remember_21 : decode cX9_remember 21 = .ok (.putfield 27, 3) := dAt (x := (21, .putfield 27, 3)) DX9_remember_0 11 rfl
theorem dX9_remember_24 : decode cX9_remember 24 = .ok (.aload_n 0, 1) := dAt (x := (24, .aload_n 0, 1)) DX9_remember_0 12 rfl
theorem dX9_remember_25 : decode cX9_remember 25 = .ok (.dup, 1) := dAt (x := (25, .dup, 1)) DX9_remember_0 13 rfl
theorem dX9_remember_26 : decode cX9_remember 26 = .ok (.getfield 31, 3) := dAt (x := (26, .getfield 31, 3)) DX9_remember_0 14 rfl
theorem dX9_remember_29 : decode cX9_remember 29 = .ok (.iconst 1, 1) := dAt (x := (29, .iconst 1, 1)) DX9_remember_0 15 rfl
theorem dX9_remember_30 : decode cX9_remember 30 = .ok (.isub, 1) := dAt (x := (30, .isub, 1)) DX9_remember_0 16 rfl
theorem dX9_remember_31 : decode cX9_remember 31 = .ok (.putfield 31, 3) := dAt (x := (31, .putfield 31, 3)) DX9_remember_0 17 rfl
theorem dX9_remember_34 : decode cX9_remember 34 = .ok (.aload_n 0, 1) := dAt (x := (34, .aload_n 0, 1)) DX9_remember_0 18 rfl
theorem dX9_remember_35 : decode cX9_remember 35 = .ok (.getfield 27, 3) := dAt (x := (35, .getfield 27, 3)) DX9_remember_0 19 rfl
theorem dX9_remember_38 : decode cX9_remember 38 = .ok (.aload_n 0, 1) := dAt (x := (38, .aload_n 0, 1)) DX9_remember_0 20 rfl
theorem dX9_remember_39 : decode cX9_remember 39 = .ok (.getfield 31, 3) := dAt (x := (39, .getfield 31, 3)) DX9_remember_0 21 rfl
theorem dX9_remember_42 : decode cX9_remember 42 = .ok (.iadd, 1) := dAt (x := (42, .iadd, 1)) DX9_remember_0 22 rfl
theorem dX9_remember_43 : decode cX9_remember 43 = .ok (.bipush 20, 2) := dAt (x := (43, .bipush 20, 2)) DX9_remember_0 23 rfl
theorem dX9_remember_45 : decode cX9_remember 45 = .ok (.invokestatic 34, 3) := dAt (x := (45, .invokestatic 34, 3)) DX9_remember_0 24 rfl
theorem dX9_remember_48 : decode cX9_remember 48 = .ok (.istore_n 3, 1) := dAt (x := (48, .istore_n 3, 1)) DX9_remember_0 25 rfl
theorem dX9_remember_49 : decode cX9_remember 49 = .ok (.aload_n 0, 1) := dAt (x := (49, .aload_n 0, 1)) DX9_remember_0 26 rfl
theorem dX9_remember_50 : decode cX9_remember 50 = .ok (.getfield 9, 3) := dAt (x := (50, .getfield 9, 3)) DX9_remember_0 27 rfl
theorem dX9_remember_53 : decode cX9_remember 53 = .ok (.iload_n 3, 1) := dAt (x := (53, .iload_n 3, 1)) DX9_remember_0 28 rfl
theorem dX9_remember_54 : decode cX9_remember 54 = .ok (.aload_n 1, 1) := dAt (x := (54, .aload_n 1, 1)) DX9_remember_0 29 rfl
theorem dX9_remember_55 : decode cX9_remember 55 = .ok (.getfield 40, 3) := dAt (x := (55, .getfield 40, 3)) DX9_remember_0 30 rfl
theorem dX9_remember_58 : decode cX9_remember 58 = .ok (.iastore, 1) := dAt (x := (58, .iastore, 1)) DX9_remember_0 31 rfl
theorem dX9_remember_59 : decode cX9_remember 59 = .ok (.aload_n 0, 1) := dAt (x := (59, .aload_n 0, 1)) DX9_remember_0 32 rfl
theorem dX9_remember_60 : decode cX9_remember 60 = .ok (.getfield 15, 3) := dAt (x := (60, .getfield 15, 3)) DX9_remember_0 33 rfl
theorem dX9_remember_63 : decode cX9_remember 63 = .ok (.iload_n 3, 1) := dAt (x := (63, .iload_n 3, 1)) DX9_remember_0 34 rfl
theorem dX9_remember_64 : decode cX9_remember 64 = .ok (.aload_n 1, 1) := dAt (x := (64, .aload_n 1, 1)) DX9_remember_0 35 rfl
theorem dX9_remember_65 : decode cX9_remember 65 = .ok (.getfield 45, 3) := dAt (x := (65, .getfield 45, 3)) DX9_remember_0 36 rfl
theorem dX9_remember_68 : decode cX9_remember 68 = .ok (.iastore, 1) := dAt (x := (68, .iastore, 1)) DX9_remember_0 37 rfl
theorem dX9_remember_69 : decode cX9_remember 69 = .ok (.aload_n 0, 1) := dAt (x := (69, .aload_n 0, 1)) DX9_remember_0 38 rfl
theorem dX9_remember_70 : decode cX9_remember 70 = .ok (.getfield 18, 3) := dAt (x := (70, .getfield 18, 3)) DX9_remember_0 39 rfl
theorem dX9_remember_73 : decode cX9_remember 73 = .ok (.iload_n 3, 1) := dAt (x := (73, .iload_n 3, 1)) DX9_remember_0 40 rfl
theorem dX9_remember_74 : decode cX9_remember 74 = .ok (.aload_n 1, 1) := dAt (x := (74, .aload_n 1, 1)) DX9_remember_0 41 rfl
theorem dX9_remember_75 : decode cX9_remember 75 = .ok (.getfield 48, 3) := dAt (x := (75, .getfield 48, 3)) DX9_remember_0 42 rfl
theorem dX9_remember_78 : decode cX9_remember 78 = .ok (.iastore, 1) := dAt (x := (78, .iastore, 1)) DX9_remember_0 43 rfl
theorem dX9_remember_79 : decode cX9_remember 79 = .ok (.aload_n 0, 1) := dAt (x := (79, .aload_n 0, 1)) DX9_remember_0 44 rfl
theorem dX9_remember_80 : decode cX9_remember 80 = .ok (.getfield 21, 3) := dAt (x := (80, .getfield 21, 3)) DX9_remember_0 45 rfl
theorem dX9_remember_83 : decode cX9_remember 83 = .ok (.iload_n 3, 1) := dAt (x := (83, .iload_n 3, 1)) DX9_remember_0 46 rfl
theorem dX9_remember_84 : decode cX9_remember 84 = .ok (.iload_n 2, 1) := dAt (x := (84, .iload_n 2, 1)) DX9_remember_0 47 rfl
theorem dX9_remember_85 : decode cX9_remember 85 = .ok (.iastore, 1) := dAt (x := (85, .iastore, 1)) DX9_remember_0 48 rfl
theorem dX9_remember_86 : decode cX9_remember 86 = .ok (.aload_n 0, 1) := dAt (x := (86, .aload_n 0, 1)) DX9_remember_0 49 rfl
theorem dX9_remember_87 : decode cX9_remember 87 = .ok (.getfield 24, 3) := dAt (x := (87, .getfield 24, 3)) DX9_remember_0 50 rfl
theorem dX9_remember_90 : decode cX9_remember 90 = .ok (.iload_n 3, 1) := dAt (x := (90, .iload_n 3, 1)) DX9_remember_0 51 rfl
theorem dX9_remember_91 : decode cX9_remember 91 = .ok (.aload_n 1, 1) := dAt (x := (91, .aload_n 1, 1)) DX9_remember_0 52 rfl
theorem dX9_remember_92 : decode cX9_remember 92 = .ok (.iload_n 2, 1) := dAt (x := (92, .iload_n 2, 1)) DX9_remember_0 53 rfl
theorem dX9_remember_93 : decode cX9_remember 93 = .ok (.invokevirtual 51, 3) := dAt (x := (93, .invokevirtual 51, 3)) DX9_remember_0 54 rfl
theorem dX9_remember_96 : decode cX9_remember 96 = .ok (.iastore, 1) := dAt (x := (96, .iastore, 1)) DX9_remember_0 55 rfl
theorem dX9_remember_97 : decode cX9_remember 97 = .ok (.aload_n 0, 1) := dAt (x := (97, .aload_n 0, 1)) DX9_remember_0 56 rfl
theorem dX9_remember_98 : decode cX9_remember 98 = .ok (.dup, 1) := dAt (x := (98, .dup, 1)) DX9_remember_0 57 rfl
theorem dX9_remember_99 : decode cX9_remember 99 = .ok (.getfield 31, 3) := dAt (x := (99, .getfield 31, 3)) DX9_remember_0 58 rfl
theorem dX9_remember_102 : decode cX9_remember 102 = .ok (.iconst 1, 1) := dAt (x := (102, .iconst 1, 1)) DX9_remember_0 59 rfl
def lDX9_remember_1 : List (Nat × Instr × Nat) := [(103, .iadd, 1), (104, .putfield 31, 3), (107, .return_, 1)]
theorem DX9_remember_1 : dAll cX9_remember lDX9_remember_1 = true := by decide +kernel
theorem dX9_remember_103 : decode cX9_remember 103 = .ok (.iadd, 1) := dAt (x := (103, .iadd, 1)) DX9_remember_1 0 rfl
theorem dX9_remember_104 : decode cX9_remember 104 = .ok (.putfield 31, 3) := dAt (x := (104, .putfield 31, 3)) DX9_remember_1 1 rfl
theorem dX9_remember_107 : decode cX9_remember 107 = .ok (.return_, 1) := dAt (x := (107, .return_, 1)) DX9_remember_1 2 rfl
def lDX9_takeBack_0 : List (Nat × Instr × Nat) := [(0, .aload_n 0, 1), (1, .getfield 31, 3), (4, .ifCond .ne 5, 3), (7, .iconst (-1), 1), (8, .ireturn, 1), (9, .aload_n 0, 1), (10, .dup, 1), (11, .getfield 31, 3), (14, .iconst 1, 1), (15, .isub, 1), (16, .putfield 31, 3), (19, .aload_n 0, 1), (20, .getfield 27, 3), (23, .aload_n 0, 1), (24, .getfield 31, 3), (27, .iadd, 1), (28, .bipush 20, 2), (30, .invokestatic 34, 3), (33, .istore_n 2, 1), (34, .aload_n 1, 1), (35, .aload_n 0, 1), (36, .getfield 9, 3), (39, .iload_n 2, 1), (40, .iaload, 1), (41, .putfield 40, 3), (44, .aload_n 1, 1), (45, .aload_n 0, 1), (46, .getfield 15, 3), (49, .iload_n 2, 1), (50, .iaload, 1), (51, .putfield 45, 3), (54, .aload_n 1, 1), (55, .aload_n 0, 1), (56, .getfield 18, 3), (59, .iload_n 2, 1), (60, .iaload, 1), (61, .putfield 48, 3), (64, .aload_n 1, 1), (65, .aload_n 0, 1), (66, .getfield 21, 3), (69, .iload_n 2, 1), (70, .iaload, 1), (71, .aload_n 0, 1), (72, .getfield 24, 3), (75, .iload_n 2, 1), (76, .iaload, 1), (77, .invokevirtual 55, 3), (80, .aload_n 0, 1), (81, .getfield 31, 3), (84, .ireturn, 1)]
theorem DX9_takeBack_0 : dAll cX9_takeBack lDX9_takeBack_0 = true := by decide +kernel
theorem dX9_takeBack_0 : decode cX9_takeBack 0 = .ok (.aload_n 0, 1) := dAt (x := (0, .aload_n 0, 1)) DX9_takeBack_0 0 rfl
theorem dX9_takeBack_1 : decode cX9_takeBack 1 = .ok (.getfield 31, 3) := dAt (x := (1, .getfield 31, 3)) DX9_takeBack_0 1 rfl
theorem dX9_takeBack_4 : decode cX9_takeBack 4 = .ok (.ifCond .ne 5, 3) := dAt (x := (4, .ifCond .ne 5, 3)) DX9_takeBack_0 2 rfl
theorem dX9_takeBack_7 : decode cX9_takeBack 7 = .ok (.iconst (-1), 1) := dAt (x := (7, .iconst (-1), 1)) DX9_takeBack_0 3 rfl
theorem dX9_takeBack_8 : decode cX9_takeBack 8 = .ok (.ireturn, 1) := dAt (x := (8, .ireturn, 1)) DX9_takeBack_0 4 rfl
theorem dX9_takeBack_9 : decode cX9_takeBack 9 = .ok (.aload_n 0, 1) := dAt (x := (9, .aload_n 0, 1)) DX9_takeBack_0 5 rfl
theorem dX9_takeBack_10 : decode cX9_takeBack 10 = .ok (.dup, 1) := dAt (x := (10, .dup, 1)) DX9_takeBack_0 6 rfl
theorem dX9_takeBack_11 : decode cX9_takeBack 11 = .ok (.getfield 31, 3) := dAt (x := (11, .getfield 31, 3)) DX9_takeBack_0 7 rfl
theorem dX9_takeBack_14 : decode cX9_takeBack 14 = .ok (.iconst 1, 1) := dAt (x := (14, .iconst 1, 1)) DX9_takeBack_0 8 rfl
theorem dX9_takeBack_15 : decode cX9_takeBack 15 = .ok (.isub, 1) := dAt (x := (15, .isub, 1)) DX9_takeBack_0 9 rfl
theorem dX9_takeBack_16 : decode cX9_takeBack 16 = .ok (.putfield 31, 3) := dAt (x := (16, .putfield 31, 3)) DX9_takeBack_0 10 rfl
theorem dX9_takeBack_19 : decode cX9_takeBack 19 = .ok (.aload_n 0, 1) := dAt (x := (19, .aload_n 0, 1)) DX9_takeBack_0 11 rfl
theorem dX9_takeBack_20 : decode cX9_takeBack 20 = .ok (.getfield 27, 3) := dAt (x := (20, .getfield 27, 3)) DX9_takeBack_0 12 rfl
theorem dX9_takeBack_23 : decode cX9_takeBack 23 = .ok (.aload_n 0, 1) := dAt (x := (23, .aload_n 0, 1)) DX9_takeBack_0 13 rfl
theorem dX9_takeBack_24 : decode cX9_takeBack 24 = .ok (.getfield 31, 3) := dAt (x := (24, .getfield 31, 3)) DX9_takeBack_0 14 rfl
theorem dX9_takeBack_27 : decode cX9_takeBack 27 = .ok (.iadd, 1) := dAt (x := (27, .iadd, 1)) DX9_takeBack_0 15 rfl
theorem dX9_takeBack_28 : decode cX9_takeBack 28 = .ok (.bipush 20, 2) := dAt (x := (28, .bipush 20, 2)) DX9_takeBack_0 16 rfl
theorem dX9_takeBack_30 : decode cX9_takeBack 30 = .ok (.invokestatic 34, 3) := dAt (x := (30, .invokestatic 34, 3)) DX9_takeBack_0 17 rfl
theorem dX9_takeBack_33 : decode cX9_takeBack 33 = .ok (.istore_n 2, 1) := dAt (x := (33, .istore_n 2, 1)) DX9_takeBack_0 18 rfl
theorem dX9_takeBack_34 : decode cX9_takeBack 34 = .ok (.aload_n 1, 1) := dAt (x := (34, .aload_n 1, 1)) DX9_takeBack_0 19 rfl
theorem dX9_takeBack_35 : decode cX9_takeBack 35 = .ok (.aload_n 0, 1) := dAt (x := (35, .aload_n 0, 1)) DX9_takeBack_0 20 rfl
theorem dX9_takeBack_36 : decode cX9_takeBack 36 = .ok (.getfield 9, 3) := dAt (x := (36, .getfield 9, 3)) DX9_takeBack_0 21 rfl
theorem dX9_takeBack_39 : decode cX9_takeBack 39 = .ok (.iload_n 2, 1) := dAt (x := (39, .iload_n 2, 1)) DX9_takeBack_0 22 rfl
theorem dX9_takeBack_40 : decode cX9_takeBack 40 = .ok (.iaload, 1) := dAt (x := (40, .iaload, 1)) DX9_takeBack_0 23 rfl
theorem dX9_takeBack_41 : decode cX9_takeBack 41 = .ok (.putfield 40, 3) := dAt (x := (41, .putfield 40, 3)) DX9_takeBack_0 24 rfl
theorem dX9_takeBack_44 : decode cX9_takeBack 44 = .ok (.aload_n 1, 1) := dAt (x := (44, .aload_n 1, 1)) DX9_takeBack_0 25 rfl
theorem dX9_takeBack_45 : decode cX9_takeBack 45 = .ok (.aload_n 0, 1) := dAt (x := (45, .aload_n 0, 1)) DX9_takeBack_0 26 rfl
theorem dX9_takeBack_46 : decode cX9_takeBack 46 = .ok (.getfield 15, 3) := dAt (x := (46, .getfield 15, 3)) DX9_takeBack_0 27 rfl
theorem dX9_takeBack_49 : decode cX9_takeBack 49 = .ok (.iload_n 2, 1) := dAt (x := (49, .iload_n 2, 1)) DX9_takeBack_0 28 rfl
theorem dX9_takeBack_50 : decode cX9_takeBack 50 = .ok (.iaload, 1) := dAt (x := (50, .iaload, 1)) DX9_takeBack_0 29 rfl
theorem dX9_takeBack_51 : decode cX9_takeBack 51 = .ok (.putfield 45, 3) := dAt (x := (51, .putfield 45, 3)) DX9_takeBack_0 30 rfl
theorem dX9_takeBack_54 : decode cX9_takeBack 54 = .ok (.aload_n 1, 1) := dAt (x := (54, .aload_n 1, 1)) DX9_takeBack_0 31 rfl
theorem dX9_takeBack_55 : decode cX9_takeBack 55 = .ok (.aload_n 0, 1) := dAt (x := (55, .aload_n 0, 1)) DX9_takeBack_0 32 rfl
theorem dX9_takeBack_56 : decode cX9_takeBack 56 = .ok (.getfield 18, 3) := dAt (x := (56, .getfield 18, 3)) DX9_takeBack_0 33 rfl
theorem dX9_takeBack_59 : decode cX9_takeBack 59 = .ok (.iload_n 2, 1) := dAt (x := (59, .iload_n 2, 1)) DX9_takeBack_0 34 rfl
theorem dX9_takeBack_60 : decode cX9_takeBack 60 = .ok (.iaload, 1) := dAt (x := (60, .iaload, 1)) DX9_takeBack_0 35 rfl
theorem dX9_takeBack_61 : decode cX9_takeBack 61 = .ok (.putfield 48, 3) := dAt (x := (61, .putfield 48, 3)) DX9_takeBack_0 36 rfl
theorem dX9_takeBack_64 : decode cX9_takeBack 64 = .ok (.aload_n 1, 1) := dAt (x := (64, .aload_n 1, 1)) DX9_takeBack_0 37 rfl
theorem dX9_takeBack_65 : decode cX9_takeBack 65 = .ok (.aload_n 0, 1) := dAt (x := (65, .aload_n 0, 1)) DX9_takeBack_0 38 rfl
theorem dX9_takeBack_66 : decode cX9_takeBack 66 = .ok (.getfield 21, 3) := dAt (x := (66, .getfield 21, 3)) DX9_takeBack_0 39 rfl
theorem dX9_takeBack_69 : decode cX9_takeBack 69 = .ok (.iload_n 2, 1) := dAt (x := (69, .iload_n 2, 1)) DX9_takeBack_0 40 rfl
theorem dX9_takeBack_70 : decode cX9_takeBack 70 = .ok (.iaload, 1) := dAt (x := (70, .iaload, 1)) DX9_takeBack_0 41 rfl
theorem dX9_takeBack_71 : decode cX9_takeBack 71 = .ok (.aload_n 0, 1) := dAt (x := (71, .aload_n 0, 1)) DX9_takeBack_0 42 rfl
theorem dX9_takeBack_72 : decode cX9_takeBack 72 = .ok (.getfield 24, 3) := dAt (x := (72, .getfield 24, 3)) DX9_takeBack_0 43 rfl
theorem dX9_takeBack_75 : decode cX9_takeBack 75 = .ok (.iload_n 2, 1) := dAt (x := (75, .iload_n 2, 1)) DX9_takeBack_0 44 rfl
theorem dX9_takeBack_76 : decode cX9_takeBack 76 = .ok (.iaload, 1) := dAt (x := (76, .iaload, 1)) DX9_takeBack_0 45 rfl
theorem dX9_takeBack_77 : decode cX9_takeBack 77 = .ok (.invokevirtual 55, 3) := dAt (x := (77, .invokevirtual 55, 3)) DX9_takeBack_0 46 rfl
theorem dX9_takeBack_80 : decode cX9_takeBack 80 = .ok (.aload_n 0, 1) := dAt (x := (80, .aload_n 0, 1)) DX9_takeBack_0 47 rfl
theorem dX9_takeBack_81 : decode cX9_takeBack 81 = .ok (.getfield 31, 3) := dAt (x := (81, .getfield 31, 3)) DX9_takeBack_0 48 rfl
theorem dX9_takeBack_84 : decode cX9_takeBack 84 = .ok (.ireturn, 1) := dAt (x := (84, .ireturn, 1)) DX9_takeBack_0 49 rfl
def lDX10_init_0 : List (Nat × Instr × Nat) := [(0, .aload_n 0, 1), (1, .invokespecial 3, 3), (4, .aload_n 0, 1), (5, .new 9, 3), (8, .dup, 1), (9, .invokespecial 11, 3), (12, .putfield 12, 3), (15, .aload_n 0, 1), (16, .new 18, 3), (19, .dup, 1), (20, .invokespecial 20, 3), (23, .putfield 21, 3), (26, .aload_n 0, 1), (27, .new 25, 3), (30, .dup, 1), (31, .invokespecial 27, 3), (34, .putfield 28, 3), (37, .aload_n 0, 1), (38, .new 25, 3), (41, .dup, 1), (42, .invokespecial 27, 3), (45, .putfield 32, 3), (48, .aload_n 0, 1), (49, .new 25, 3), (52, .dup, 1), (53, .invokespecial 27, 3), (56, .putfield 35, 3), (59, .aload_n 0, 1), (60, .new 38, 3), (63, .dup, 1), (64, .invokespecial 40, 3), (67, .putfield 41, 3), (70, .aload_n 0, 1), (71, .new 45, 3), (74, .dup, 1), (75, .invokespecial 47, 3), (78, .putfield 48, 3), (81, .aload_n 0, 1), (82, .new 52, 3), (85, .dup, 1), (86, .invokespecial 54, 3), (89, .putfield 55, 3), (92, .aload_n 0, 1), (93, .new 59, 3), (96, .dup, 1), (97, .invokespecial 61, 3), (100, .putfield 62, 3), (103, .return_, 1)]
theorem DX10_init_0 : dAll cX10_init lDX10_init_0 = true := by decide +kernel
theorem dX10_init_0 : decode cX10_init 0 = .ok (.aload_n 0, 1) := dAt (x := (0, .aload_n 0, 1)) DX10_init_0 0 rfl
theorem dX10_init_1 : decode cX10_init 1 = .ok (.invokespecial 3, 3) := dAt (x := (1, .invokespecial 3, 3)) DX10_init_0 1 rfl
theorem dX10_init_4 : decode cX10_init 4 = .ok (.aload_n 0, 1) := dAt (x := (4, .aload_n 0, 1)) DX10_init_0 2 rfl
theorem dX10_init_5 : decode cX10_init 5 = .ok (.new 9, 3) := dAt (x := (5, .new 9, 3)) DX10_init_0 3 rfl
theorem dX10_init_8 : decode cX10_init 8 = .ok (.dup, 1) := dAt (x := (8, .dup, 1)) DX10_init_0 4 rfl
theorem dX10_init_9 : decode cX10_init 9 = .ok (.invokespecial 11, 3) := dAt (x := (9, .invokespecial 11, 3)) DX10_init_0 5 rfl
theorem dX10_init_12 : decode cX10_init 12 = .ok (.putfield 12, 3) := dAt (x := (12, .putfield 12, 3)) DX10_init_0 6 rfl
theorem dX10_init_15 : decode cX10_init 15 = .ok (.aload_n 0, 1) := dAt (x := (15, .aload_n 0, 1)) DX10_init_0 7 rfl
theorem dX10_init_16 : decode cX10_init 16 = .ok (.new 18, 3) := dAt (x := (16, .new 18, 3)) DX10_init_0 8 rfl
theorem dX10_init_19 : decode cX10_init 19 = .ok (.dup, 1) := dAt (x := (19, .dup, 1)) DX10_init_0 9 rfl
theorem dX10_init_20 : decode cX10_init 20 = .ok (.invokespecial 20, 3) := dAt (x := (20, .invokespecial 20, 3)) DX10_init_0 10 rfl
theorem dX10_init_23 : decode cX10_init 23 = .ok (.putfield 21, 3) := dAt (x := (23, .putfield 21, 3)) DX10_init_0 11 rfl
theorem dX10_init_26 : decode cX10_init 26 = .ok (.aload_n 0, 1) := dAt (x := (26, .aload_n 0, 1)) DX10_init_0 12 rfl
theorem dX10_init_27 : decode cX10_init 27 = .ok (.new 25, 3) := dAt (x := (27, .new 25, 3)) DX10_init_0 13 rfl
theorem dX10_init_30 : decode cX10_init 30 = .ok (.dup, 1) := dAt (x := (30, .dup, 1)) DX10_init_0 14 rfl
theorem dX10_init_31 : decode cX10_init 31 = .ok (.invokespecial 27, 3) := dAt (x := (31, .invokespecial 27, 3)) DX10_init_0 15 rfl
theorem dX10_init_34 : decode cX10_init 34 = .ok (.putfield 28, 3) := dAt (x := (34, .putfield 28, 3)) DX10_init_0 16 rfl
theorem dX10_init_37 : decode cX10_init 37 = .ok (.aload_n 0, 1) := dAt (x := (37, .aload_n 0, 1)) DX10_init_0 17 rfl
theorem dX10_init_38 : decode cX10_init 38 = .ok (.new 25, 3) := dAt (x := (38, .new 25, 3)) DX10_init_0 18 rfl
theorem dX10_init_41 : decode cX10_init 41 = .ok (.dup, 1) := dAt (x := (41, .dup, 1)) DX10_init_0 19 rfl
theorem dX10_init_42 : decode cX10_init 42 = .ok (.invokespecial 27, 3) := dAt (x := (42, .invokespecial 27, 3)) DX10_init_0 20 rfl
theorem dX10_init_45 : decode cX10_init 45 = .ok (.putfield 32, 3) := dAt (x := (45, .putfield 32, 3)) DX10_init_0 21 rfl
theorem dX10_init_48 : decode cX10_init 48 = .ok (.aload_n 0, 1) := dAt (x := (48, .aload_n 0, 1)) DX10_init_0 22 rfl
theorem dX10_init_49 : decode cX10_init 49 = .ok (.new 25, 3) := dAt (x := (49, .new 25, 3)) DX10_init_0 23 rfl
theorem dX10_init_52 : decode cX10_init 52 = .ok (.dup, 1) := dAt (x := (52, .dup, 1)) DX10_init_0 24 rfl
theorem dX10_init_53 : decode cX10_init 53 = .ok (.invokespecial 27, 3) := dAt (x := (53, .invokespecial 27, 3)) DX10_init_0 25 rfl
theorem dX10_init_56 : decode cX10_init 56 = .ok (.putfield 35, 3) := dAt (x := (56, .putfield 35, 3)) DX10_init_0 26 rfl
theorem dX10_init_59 : decode cX10_init 59 = .ok (.aload_n 0, 1) := dAt (x := (59, .aload_n 0, 1)) DX10_init_0 27 rfl
theorem dX10_init_60 : decode cX10_init 60 = .ok (.new 38, 3) := dAt (x := (60, .new 38, 3)) DX10_init_0 28 rfl
theorem dX10_init_63 : decode cX10_init 63 = .ok (.dup, 1) := dAt (x := (63, .dup, 1)) DX10_init_0 29 rfl
theorem dX10_init_64 : decode cX10_init 64 = .ok (.invokespecial 40, 3) := dAt (x := (64, .invokespecial 40, 3)) DX10_init_0 30 rfl
theorem dX10_init_67 : decode cX10_init 67 = .ok (.putfield 41, 3) := dAt (x := (67, .putfield 41, 3)) DX10_init_0 31 rfl
theorem dX10_init_70 : decode cX10_init 70 = .ok (.aload_n 0, 1) := dAt (x := (70, .aload_n 0, 1)) DX10_init_0 32 rfl
theorem dX10_init_71 : decode cX10_init 71 = .ok (.new 45, 3) := dAt (x := (71, .new 45, 3)) DX10_init_0 33 rfl
theorem dX10_init_74 : decode cX10_init 74 = .ok (.dup, 1) := dAt (x := (74, .dup, 1)) DX10_init_0 34 rfl
theorem dX10_init_75 : decode cX10_init 75 = .ok (.invokespecial 47, 3) := dAt (x := (75, .invokespecial 47, 3)) DX10_init_0 35 rfl
theorem dX10_init_78 : decode cX10_init 78 = .ok (.putfield 48, 3) := dAt (x := (78, .putfield 48, 3)) DX10_init_0 36 rfl
theorem dX10_init_81 : decode cX10_init 81 = .ok (.aload_n 0, 1) := dAt (x := (81, .aload_n 0, 1)) DX10_init_0 37 rfl
theorem dX10_init_82 : decode cX10_init 82 = .ok (.new 52, 3) := dAt (x := (82, .new 52, 3)) DX10_init_0 38 rfl
theorem dX10_init_85 : decode cX10_init 85 = .ok (.dup, 1) := dAt (x := (85, .dup, 1)) DX10_init_0 39 rfl
theorem dX10_init_86 : decode cX10_init 86 = .ok (.invokespecial 54, 3) := dAt (x := (86, .invokespecial 54, 3)) DX10_init_0 40 rfl
theorem dX10_init_89 : decode cX10_init 89 = .ok (.putfield 55, 3) := dAt (x := (89, .putfield 55, 3)) DX10_init_0 41 rfl
theorem dX10_init_92 : decode cX10_init 92 = .ok (.aload_n 0, 1) := dAt (x := (92, .aload_n 0, 1)) DX10_init_0 42 rfl
theorem dX10_init_93 : decode cX10_init 93 = .ok (.new 59, 3) := dAt (x := (93, .new 59, 3)) DX10_init_0 43 rfl
theorem dX10_init_96 : decode cX10_init 96 = .ok (.dup, 1) := dAt (x := (96, .dup, 1)) DX10_init_0 44 rfl
theorem dX10_init_97 : decode cX10_init 97 = .ok (.invokespecial 61, 3) := dAt (x := (97, .invokespecial 61, 3)) DX10_init_0 45 rfl
theorem dX10_init_100 : decode cX10_init 100 = .ok (.putfield 62, 3) := dAt (x := (100, .putfield 62, 3)) DX10_init_0 46 rfl
theorem dX10_init_103 : decode cX10_init 103 = .ok (.return_, 1) := dAt (x := (103, .return_, 1)) DX10_init_0 47 rfl
def lDX10_feed_0 : List (Nat × Instr × Nat) := [(0, .aload_n 0, 1), (1, .getfield 12, 3), (4, .getfield 66, 3), (7, .astore 6, 2), (9, .aload 6, 2), (11, .getfield 70, 3), (14, .bipush 20, 2), (16, .iadd, 1), (17, .sipush 700, 3), (20, .if_icmp .le 5, 3), (23, .iconst (-1), 1), (24, .ireturn, 1), (25, .aload 6, 2), (27, .iload_n 1, 1), (28, .invokevirtual 76, 3), (31, .aload 6, 2), (33, .iload_n 2, 1), (34, .invokevirtual 76, 3), (37, .aload 6, 2), (39, .iload_n 3, 1), (40, .invokevirtual 76, 3), (43, .aload 6, 2), (45, .iload 4, 2), (47, .invokevirtual 76, 3), (50, .aload 6, 2), (52, .iload 5, 2), (54, .invokevirtual 76, 3), (57, .aload 6, 2), (59, .getfield 70, 3), (62, .ireturn, 1)]
theorem DX10_feed_0 : dAll cX10_feed lDX10_feed_0 = true := by decide +kernel
theorem dX10_feed_0 : decode cX10_feed 0 = .ok (.aload_n 0, 1) := dAt (x := (0, .aload_n 0, 1)) DX10_feed_0 0 rfl
theorem dX10_feed_1 : decode cX10_feed 1 = .ok (.getfield 12, 3) := dAt (x := (1, .getfield 12, 3)) DX10_feed_0 1 rfl
theorem dX10_feed_4 : decode cX10_feed 4 = .ok (.getfield 66, 3) := dAt (x := (4, .getfield 66, 3)) DX10_feed_0 2 rfl
theorem dX10_feed_7 : decode cX10_feed 7 = .ok (.astore 6, 2) := dAt (x := (7, .astore 6, 2)) DX10_feed_0 3 rfl
theorem dX10_feed_9 : decode cX10_feed 9 = .ok (.aload 6, 2) := dAt (x := (9, .aload 6, 2)) DX10_feed_0 4 rfl
theorem dX10_feed_11 : decode cX10_feed 11 = .ok (.getfield 70, 3) := dAt (x := (11, .getfield 70, 3)) DX10_feed_0 5 rfl
theorem dX10_feed_14 : decode cX10_feed 14 = .ok (.bipush 20, 2) := dAt (x := (14, .bipush 20, 2)) DX10_feed_0 6 rfl
theorem dX10_feed_16 : decode cX10_feed 16 = .ok (.iadd, 1) := dAt (x := (16, .iadd, 1)) DX10_feed_0 7 rfl
theorem dX10_feed_17 : decode cX10_feed 17 = .ok (.sipush 700, 3) := dAt (x := (17, .sipush 700, 3)) DX10_feed_0 8 rfl
theorem dX10_feed_20 : decode cX10_feed 20 = .ok (.if_icmp .le 5, 3) := dAt (x := (20, .if_icmp .le 5, 3)) DX10_feed_0 9 rfl
theorem dX10_feed_23 : decode cX10_feed 23 = .ok (.iconst (-1), 1) := dAt (x := (23, .iconst (-1), 1)) DX10_feed_0 10 rfl
theorem dX10_feed_24 : decode cX10_feed 24 = .ok (.ireturn, 1) := dAt (x := (24, .ireturn, 1)) DX10_feed_0 11 rfl
theorem dX10_feed_25 : decode cX10_feed 25 = .ok (.aload 6, 2) := dAt (x := (25, .aload 6, 2)) DX10_feed_0 12 rfl
theorem dX10_feed_27 : decode cX10_feed 27 = .ok (.iload_n 1, 1) := dAt (x := (27, .iload_n 1, 1)) DX10_feed_0 13 rfl
theorem dX10_feed_28 : decode cX10_feed 28 = .ok (.invokevirtual 76, 3) := dAt (x := (28, .invokevirtual 76, 3)) DX10_feed_0 14 rfl
theorem dX10_feed_31 : decode cX10_feed 31 = .ok (.aload 6, 2) := dAt (x := (31, .aload 6, 2)) DX10_feed_0 15 rfl
theorem dX10_feed_33 : decode cX10_feed 33 = .ok (.iload_n 2, 1) := dAt (x := (33, .iload_n 2, 1)) DX10_feed_0 16 rfl
theorem dX10_feed_34 : decode cX10_feed 34 = .ok (.invokevirtual 76, 3) := dAt (x := (34, .invokevirtual 76, 3)) DX10_feed_0 17 rfl
theorem dX10_feed_37 : decode cX10_feed 37 = .ok (.aload 6, 2) := dAt (x := (37, .aload 6, 2)) DX10_feed_0 18 rfl
theorem dX10_feed_39 : decode cX10_feed 39 = .ok (.iload_n 3, 1) := dAt (x := (39, .iload_n 3, 1)) DX10_feed_0 19 rfl
theorem dX10_feed_40 : decode cX10_feed 40 = .ok (.invokevirtual 76, 3) := dAt (x := (40, .invokevirtual 76, 3)) DX10_feed_0 20 rfl
theorem dX10_feed_43 : decode cX10_feed 43 = .ok (.aload 6, 2) := dAt (x := (43, .aload 6, 2)) DX10_feed_0 21 rfl
theorem dX10_feed_45 : decode cX10_feed 45 = .ok (.iload 4, 2) := dAt (x := (45, .iload 4, 2)) DX10_feed_0 22 rfl
theorem dX10_feed_47 : decode cX10_feed 47 = .ok (.invokevirtual 76, 3) := dAt (x := (47, .invokevirtual 76, 3)) DX10_feed_0 23 rfl
theorem dX10_feed_50 : decode cX10_feed 50 = .ok (.aload 6, 2) := dAt (x := (50, .aload 6, 2)) DX10_feed_0 24 rfl
theorem dX10_feed_52 : decode cX10_feed 52 = .ok (.iload 5, 2) := dAt (x := (52, .iload 5, 2)) DX10_feed_0 25 rfl
theorem dX10_feed_54 : decode cX10_feed 54 = .ok (.invokevirtual 76, 3) := dAt (x := (54, .invokevirtual 76, 3)) DX10_feed_0 26 rfl
theorem dX10_feed_57 : decode cX10_feed 57 = .ok (.aload 6, 2) := dAt (x := (57, .aload 6, 2)) DX10_feed_0 27 rfl
theorem dX10_feed_59 : decode cX10_feed 59 = .ok (.getfield 70, 3) := dAt (x := (59, .getfield 70, 3)) DX10_feed_0 28 rfl
theorem dX10_feed_62 : decode cX10_feed 62 = .ok (.ireturn, 1) := dAt (x := (62, .ireturn, 1)) DX10_feed_0 29 rfl
def lDX10_text_0 : List (Nat × Instr × Nat) := [(0, .iload_n 1, 1), (1, .ifCond .lt 17, 3), (4, .iload_n 1, 1), (5, .aload_n 0, 1), (6, .getfield 12, 3), (9, .getfield 66, 3), (12, .getfield 70, 3), (15, .if_icmp .le 6, 3), (18, .bipush (-2), 2), (20, .ireturn, 1), (21, .aload_n 0, 1), (22, .getfield 12, 3), (25, .iload_n 1, 1), (26, .invokevirtual 80, 3), (29, .istore_n 2, 1), (30, .aload_n 0, 1), (31, .getfield 12, 3), (34, .getfield 66, 3), (37, .iconst 0, 1), (38, .putfield 70, 3), (41, .iload_n 2, 1), (42, .ifCond .ne 5, 3), (45, .iconst (-1), 1), (46, .ireturn, 1), (47, .aload_n 0, 1), (48, .getfield 21, 3), (51, .astore_n 3, 1), (52, .aload_n 0, 1), (53, .aload_n 0, 1), (54, .getfield 12, 3), (57, .getfield 84, 3), (60, .putfield 21, 3), (63, .aload_n 0, 1), (64, .getfield 12, 3), (67, .aload_n 3, 1), (68, .putfield 84, 3), (71, .aload_n 0, 1), (72, .getfield 28, 3), (75, .aload_n 0, 1), (76, .getfield 21, 3), (79, .invokevirtual 85, 3), (82, .aload_n 0, 1), (83, .getfield 62, 3), (86, .invokevirtual 89, 3), (89, .aload_n 0, 1), (90, .getfield 48, 3), (93, .invokevirtual 92, 3), (96, .aload_n 0, 1), (97, .iconst 0, 1), (98, .putfield 93, 3), (101, .aload_n 0, 1), (102, .getfield 21, 3), (105, .getfield 97, 3), (108, .ireturn, 1)]
theorem DX10_text_0 : dAll cX10_text lDX10_text_0 = true := by decide +kernel
theorem dX10_text_0 : decode cX10_text 0 = .ok (.iload_n 1, 1) := dAt (x := (0, .iload_n 1, 1)) DX10_text_0 0 rfl
theorem dX10_text_1 : decode cX10_text 1 = .ok (.ifCond .lt 17, 3) := dAt (x := (1, .ifCond .lt 17, 3)) DX10_text_0 1 rfl
theorem dX10_text_4 : decode cX10_text 4 = .ok (.iload_n 1, 1) := dAt (x := (4, .iload_n 1, 1)) DX10_text_0 2 rfl
theorem dX10_text_5 : decode cX10_text 5 = .ok (.aload_n 0, 1) := dAt (x := (5, .aload_n 0, 1)) DX10_text_0 3 rfl
theorem dX10_text_6 : decode cX10_text 6 = .ok (.getfield 12, 3) := dAt (x := (6, .getfield 12, 3)) DX10_text_0 4 rfl
theorem dX10_text_9 : decode cX10_text 9 = .ok (.getfield 66, 3) := dAt (x := (9, .getfield 66, 3)) DX10_text_0 5 rfl
theorem dX10_text_12 : decode cX10_text 12 = .ok (.getfield 70, 3) := dAt (x := (12, .getfield 70, 3)) DX10_text_0 6 rfl
theorem dX10_text_15 : decode cX10_text 15 = .ok (.if_icmp .le 6, 3) := dAt (x := (15, .if_icmp .le 6, 3)) DX10_text_0 7 rfl
theorem dX10_text_18 : decode cX10_text 18 = .ok (.bipush (-2), 2) := dAt (x := (18, .bipush (-2), 2)) DX10_text_0 8 rfl
theorem dX10_text_20 : decode cX10_text 20 = .ok (.ireturn, 1) := dAt (x := (20, .ireturn, 1)) DX10_text_0 9 rfl
theorem dX10_text_21 : decode cX10_text 21 = .ok (.aload_n 0, 1) := dAt (x := (21, .aload_n 0, 1)) DX10_text_0 10 rfl
theorem dX10_text_22 : decode cX10_text 22 = .ok (.getfield 12, 3) := dAt (x := (22, .getfield 12, 3)) DX10_text_0 11 rfl
theorem dX10_text_25 : decode cX10_text 25 = .ok (.iload_n 1, 1) := dAt (x := (25, .iload_n 1, 1)) DX10_text_0 12 rfl
theorem dX10_text_26 : decode cX10_text 26 = .ok (.invokevirtual 80, 3) := dAt (x := (26, .invokevirtual 80, 3)) DX10_text_0 13 rfl
theorem dX10_text_29 : decode cX10_text 29 = .ok (.istore_n 2, 1) := dAt (x := (29, .istore_n 2, 1)) DX10_text_0 14 rfl
theorem dX10_text_30 : decode cX10_text 30 = .ok (.aload_n 0, 1) := dAt (x := (30, .aload_n 0, 1)) DX10_text_0 15 rfl
theorem dX10_text_31 : decode cX10_text 31 = .ok (.getfield 12, 3) := dAt (x := (31, .getfield 12, 3)) DX10_text_0 16 rfl
theorem dX10_text_34 : decode cX10_text 34 = .ok (.getfield 66, 3) := dAt (x := (34, .getfield 66, 3)) DX10_text_0 17 rfl
theorem dX10_text_37 : decode cX10_text 37 = .ok (.iconst 0, 1) := dAt (x := (37, .iconst 0, 1)) DX10_text_0 18 rfl
theorem dX10_text_38 : decode cX10_text 38 = .ok (.putfield 70, 3) := dAt (x := (38, .putfield 70, 3)) DX10_text_0 19 rfl
theorem dX10_text_41 : decode cX10_text 41 = .ok (.iload_n 2, 1) := dAt (x := (41, .iload_n 2, 1)) DX10_text_0 20 rfl
theorem dX10_text_42 : decode cX10_text 42 = .ok (.ifCond .ne 5, 3) := dAt (x := (42, .ifCond .ne 5, 3)) DX10_text_0 21 rfl
theorem dX10_text_45 : decode cX10_text 45 = .ok (.iconst (-1), 1) := dAt (x := (45, .iconst (-1), 1)) DX10_text_0 22 rfl
theorem dX10_text_46 : decode cX10_text 46 = .ok (.ireturn, 1) := dAt (x := (46, .ireturn, 1)) DX10_text_0 23 rfl
theorem dX10_text_47 : decode cX10_text 47 = .ok (.aload_n 0, 1) := dAt (x := (47, .aload_n 0, 1)) DX10_text_0 24 rfl
theorem dX10_text_48 : decode cX10_text 48 = .ok (.getfield 21, 3) := dAt (x := (48, .getfield 21, 3)) DX10_text_0 25 rfl
theorem dX10_text_51 : decode cX10_text 51 = .ok (.astore_n 3, 1) := dAt (x := (51, .astore_n 3, 1)) DX10_text_0 26 rfl
theorem dX10_text_52 : decode cX10_text 52 = .ok (.aload_n 0, 1) := dAt (x := (52, .aload_n 0, 1)) DX10_text_0 27 rfl
theorem dX10_text_53 : decode cX10_text 53 = .ok (.aload_n 0, 1) := dAt (x := (53, .aload_n 0, 1)) DX10_text_0 28 rfl
theorem dX10_text_54 : decode cX10_text 54 = .ok (.getfield 12, 3) := dAt (x := (54, .getfield 12, 3)) DX10_text_0 29 rfl
theorem dX10_text_57 : decode cX10_text 57 = .ok (.getfield 84, 3) := dAt (x := (57, .getfield 84, 3)) DX10_text_0 30 rfl
theorem dX10_text_60 : decode cX10_text 60 = .ok (.putfield 21, 3) := dAt (x := (60, .putfield 21, 3)) DX10_text_0 31 rfl
theorem dX10_text_63 : decode cX10_text 63 = .ok (.aload_n 0, 1) := dAt (x := (63, .aload_n 0, 1)) DX10_text_0 32 rfl
theorem dX10_text_64 : decode cX10_text 64 = .ok (.getfield 12, 3) := dAt (x := (64, .getfield 12, 3)) DX10_text_0 33 rfl
theorem dX10_text_67 : decode cX10_text 67 = .ok (.aload_n 3, 1) := dAt (x := (67, .aload_n 3, 1)) DX10_text_0 34 rfl
theorem dX10_text_68 : decode cX10_text 68 = .ok (.putfield 84, 3) := dAt (x := (68, .putfield 84, 3)) DX10_text_0 35 rfl
theorem dX10_text_71 : decode cX10_text 71 = .ok (.aload_n 0, 1) := dAt (x := (71, .aload_n 0, 1)) DX10_text_0 36 rfl
theorem dX10_text_72 : decode cX10_text 72 = .ok (.getfield 28, 3) := dAt (x := (72, .getfield 28, 3)) DX10_text_0 37 rfl
theorem dX10_text_75 : decode cX10_text 75 = .ok (.aload_n 0, 1) := dAt (x := (75, .aload_n 0, 1)) DX10_text_0 38 rfl
theorem dX10_text_76 : decode cX10_text 76 = .ok (.getfield 21, 3) := dAt (x := (76, .getfield 21, 3)) DX10_text_0 39 rfl
theorem dX10_text_79 : decode cX10_text 79 = .ok (.invokevirtual 85, 3) := dAt (x := (79, .invokevirtual 85, 3)) DX10_text_0 40 rfl
theorem dX10_text_82 : decode cX10_text 82 = .ok (.aload_n 0, 1) := dAt (x := (82, .aload_n 0, 1)) DX10_text_0 41 rfl
theorem dX10_text_83 : decode cX10_text 83 = .ok (.getfield 62, 3) := dAt (x := (83, .getfield 62, 3)) DX10_text_0 42 rfl
theorem dX10_text_86 : decode cX10_text 86 = .ok (.invokevirtual 89, 3) := dAt (x := (86, .invokevirtual 89, 3)) DX10_text_0 43 rfl
theorem dX10_text_89 : decode cX10_text 89 = .ok (.aload_n 0, 1) := dAt (x := (89, .aload_n 0, 1)) DX10_text_0 44 rfl
theorem dX10_text_90 : decode cX10_text 90 = .ok (.getfield 48, 3) := dAt (x := (90, .getfield 48, 3)) DX10_text_0 45 rfl
theorem dX10_text_93 : decode cX10_text 93 = .ok (.invokevirtual 92, 3) := dAt (x := (93, .invokevirtual 92, 3)) DX10_text_0 46 rfl
theorem dX10_text_96 : decode cX10_text 96 = .ok (.aload_n 0, 1) := dAt (x := (96, .aload_n 0, 1)) DX10_text_0 47 rfl
theorem dX10_text_97 : decode cX10_text 97 = .ok (.iconst 0, 1) := dAt (x := (97, .iconst 0, 1)) DX10_text_0 48 rfl
theorem dX10_text_98 : decode cX10_text 98 = .ok (.putfield 93, 3) := dAt (x := (98, .putfield 93, 3)) DX10_text_0 49 rfl
theorem dX10_text_101 : decode cX10_text 101 = .ok (.aload_n 0, 1) := dAt (x := (101, .aload_n 0, 1)) DX10_text_0 50 rfl
theorem dX10_text_102 : decode cX10_text 102 = .ok (.getfield 21, 3) := dAt (x := (102, .getfield 21, 3)) DX10_text_0 51 rfl
theorem dX10_text_105 : decode cX10_text 105 = .ok (.getfield 97, 3) := dAt (x := (105, .getfield 97, 3)) DX10_text_0 52 rfl
theorem dX10_text_108 : decode cX10_text 108 = .ok (.ireturn, 1) := dAt (x := (108, .ireturn, 1)) DX10_text_0 53 rfl
def lDX10_fault_0 : List (Nat × Instr × Nat) := [(0, .iload_n 1, 1), (1, .ifCond .ne 11, 3), (4, .aload_n 0, 1), (5, .getfield 12, 3), (8, .getfield 100, 3), (11, .ireturn, 1), (12, .iload_n 1, 1), (13, .iconst 1, 1), (14, .if_icmp .ne 13, 3), (17, .aload_n 0, 1), (18, .getfield 12, 3), (21, .getfield 103, 3), (24, .goto 4, 3), (27, .iconst (-1), 1), (28, .ireturn, 1)]
theorem DX10_fault_0 : dAll cX10_fault lDX10_fault_0 = true := by decide +kernel
theorem dX10_fault_0 : decode cX10_fault 0 = .ok (.iload_n 1, 1) := dAt (x := (0, .iload_n 1, 1)) DX10_fault_0 0 rfl
theorem dX10_fault_1 : decode cX10_fault 1 = .ok (.ifCond .ne 11, 3) := dAt (x := (1, .ifCond .ne 11, 3)) DX10_fault_0 1 rfl
theorem dX10_fault_4 : decode cX10_fault 4 = .ok (.aload_n 0, 1) := dAt (x := (4, .aload_n 0, 1)) DX10_fault_0 2 rfl
theorem dX10_fault_5 : decode cX10_fault 5 = .ok (.getfield 12, 3) := dAt (x := (5, .getfield 12, 3)) DX10_fault_0 3 rfl
theorem dX10_fault_8 : decode cX10_fault 8 = .ok (.getfield 100, 3) := dAt (x := (8, .getfield 100, 3)) DX10_fault_0 4 rfl
theorem dX10_fault_11 : decode cX10_fault 11 = .ok (.ireturn, 1) := dAt (x := (11, .ireturn, 1)) DX10_fault_0 5 rfl
theorem dX10_fault_12 : decode cX10_fault 12 = .ok (.iload_n 1, 1) := dAt (x := (12, .iload_n 1, 1)) DX10_fault_0 6 rfl
theorem dX10_fault_13 : decode cX10_fault 13 = .ok (.iconst 1, 1) := dAt (x := (13, .iconst 1, 1)) DX10_fault_0 7 rfl
theorem dX10_fault_14 : decode cX10_fault 14 = .ok (.if_icmp .ne 13, 3) := dAt (x := (14, .if_icmp .ne 13, 3)) DX10_fault_0 8 rfl
theorem dX10_fault_17 : decode cX10_fault 17 = .ok (.aload_n 0, 1) := dAt (x := (17, .aload_n 0, 1)) DX10_fault_0 9 rfl
theorem dX10_fault_18 : decode cX10_fault 18 = .ok (.getfield 12, 3) := dAt (x := (18, .getfield 12, 3)) DX10_fault_0 10 rfl
theorem dX10_fault_21 : decode cX10_fault 21 = .ok (.getfield 103, 3) := dAt (x := (21, .getfield 103, 3)) DX10_fault_0 11 rfl
theorem dX10_fault_24 : decode cX10_fault 24 = .ok (.goto 4, 3) := dAt (x := (24, .goto 4, 3)) DX10_fault_0 12 rfl
theorem dX10_fault_27 : decode cX10_fault 27 = .ok (.iconst (-1), 1) := dAt (x := (27, .iconst (-1), 1)) DX10_fault_0 13 rfl
theorem dX10_fault_28 : decode cX10_fault 28 = .ok (.ireturn, 1) := dAt (x := (28, .ireturn, 1)) DX10_fault_0 14 rfl
def lDX10_named_0 : List (Nat × Instr × Nat) := [(0, .aload_n 0, 1), (1, .getfield 21, 3), (4, .iload_n 1, 1), (5, .invokevirtual 106, 3), (8, .ireturn, 1)]
theorem DX10_named_0 : dAll cX10_named lDX10_named_0 = true := by decide +kernel
theorem dX10_named_0 : decode cX10_named 0 = .ok (.aload_n 0, 1) := dAt (x := (0, .aload_n 0, 1)) DX10_named_0 0 rfl
theorem dX10_named_1 : decode cX10_named 1 = .ok (.getfield 21, 3) := dAt (x := (1, .getfield 21, 3)) DX10_named_0 1 rfl
theorem dX10_named_4 : decode cX10_named 4 = .ok (.iload_n 1, 1) := dAt (x := (4, .iload_n 1, 1)) DX10_named_0 2 rfl
theorem dX10_named_5 : decode cX10_named 5 = .ok (.invokevirtual 106, 3) := dAt (x := (5, .invokevirtual 106, 3)) DX10_named_0 3 rfl
theorem dX10_named_8 : decode cX10_named 8 = .ok (.ireturn, 1) := dAt (x := (8, .ireturn, 1)) DX10_named_0 4 rfl
def lDX10_latch_0 : List (Nat × Instr × Nat) := [(0, .aload_n 0, 1), (1, .getfield 21, 3), (4, .iload_n 1, 1), (5, .invokevirtual 110, 3), (8, .ifCond .ne 13, 3), (11, .new 113, 3), (14, .dup, 1), (15, .ldc 115, 2), (17, .invokespecial 117, 3), (20, .athrow, 1), (21, .iload_n 2, 1), (22, .tableswitch 89 0 3 #[30, 42, 54, 80], 30), (52, .aload_n 0, 1), (53, .getfield 28, 3), (56, .getfield 120, 3), (59, .iload_n 1, 1), (60, .ishr, 1), (61, .iconst 1, 1), (62, .iand, 1), (63, .ireturn, 1), (64, .aload_n 0, 1), (65, .getfield 28, 3), (68, .getfield 123, 3), (71, .iload_n 1, 1), (72, .ishr, 1), (73, .iconst 1, 1), (74, .iand, 1), (75, .ireturn, 1), (76, .aload_n 0, 1), (77, .getfield 21, 3), (80, .aload_n 0, 1), (81, .getfield 28, 3), (84, .getfield 120, 3), (87, .aload_n 0, 1), (88, .getfield 28, 3), (91, .getfield 123, 3), (94, .invokevirtual 126, 3), (97, .iload_n 1, 1), (98, .ishr, 1), (99, .iconst 1, 1), (100, .iand, 1), (101, .ireturn, 1), (102, .aload_n 0, 1), (103, .getfield 28, 3), (106, .iload_n 1, 1), (107, .invokevirtual 130, 3), (110, .ireturn, 1), (111, .new 133, 3), (114, .dup, 1), (115, .ldc 135, 2), (117, .invokespecial 137, 3), (120, .athrow, 1)]
theorem DX10_latch_0 : dAll cX10_latch lDX10_latch_0 = true := by decide +kernel
theorem dX10_latch_0 : decode cX10_latch 0 = .ok (.aload_n 0, 1) := dAt (x := (0, .aload_n 0, 1)) DX10_latch_0 0 rfl
theorem dX10_latch_1 : decode cX10_latch 1 = .ok (.getfield 21, 3) := dAt (x := (1, .getfield 21, 3)) DX10_latch_0 1 rfl
theorem dX10_latch_4 : decode cX10_latch 4 = .ok (.iload_n 1, 1) := dAt (x := (4, .iload_n 1, 1)) DX10_latch_0 2 rfl
theorem dX10_latch_5 : decode cX10_latch 5 = .ok (.invokevirtual 110, 3) := dAt (x := (5, .invokevirtual 110, 3)) DX10_latch_0 3 rfl
theorem dX10_latch_8 : decode cX10_latch 8 = .ok (.ifCond .ne 13, 3) := dAt (x := (8, .ifCond .ne 13, 3)) DX10_latch_0 4 rfl
theorem dX10_latch_11 : decode cX10_latch 11 = .ok (.new 113, 3) := dAt (x := (11, .new 113, 3)) DX10_latch_0 5 rfl
theorem dX10_latch_14 : decode cX10_latch 14 = .ok (.dup, 1) := dAt (x := (14, .dup, 1)) DX10_latch_0 6 rfl
theorem dX10_latch_15 : decode cX10_latch 15 = .ok (.ldc 115, 2) := dAt (x := (15, .ldc 115, 2)) DX10_latch_0 7 rfl
theorem dX10_latch_17 : decode cX10_latch 17 = .ok (.invokespecial 117, 3) := dAt (x := (17, .invokespecial 117, 3)) DX10_latch_0 8 rfl
theorem dX10_latch_20 : decode cX10_latch 20 = .ok (.athrow, 1) := dAt (x := (20, .athrow, 1)) DX10_latch_0 9 rfl
theorem dX10_latch_21 : decode cX10_latch 21 = .ok (.iload_n 2, 1) := dAt (x := (21, .iload_n 2, 1)) DX10_latch_0 10 rfl
theorem dX10_latch_22 : decode cX10_latch 22 = .ok (.tableswitch 89 0 3 #[30, 42, 54, 80], 30) := dAt (x := (22, .tableswitch 89 0 3 #[30, 42, 54, 80], 30)) DX10_latch_0 11 rfl
theorem dX10_latch_52 : decode cX10_latch 52 = .ok (.aload_n 0, 1) := dAt (x := (52, .aload_n 0, 1)) DX10_latch_0 12 rfl
theorem dX10_latch_53 : decode cX10_latch 53 = .ok (.getfield 28, 3) := dAt (x := (53, .getfield 28, 3)) DX10_latch_0 13 rfl
theorem dX10_latch_56 : decode cX10_latch 56 = .ok (.getfield 120, 3) := dAt (x := (56, .getfield 120, 3)) DX10_latch_0 14 rfl
theorem dX10_latch_59 : decode cX10_latch 59 = .ok (.iload_n 1, 1) := dAt (x := (59, .iload_n 1, 1)) DX10_latch_0 15 rfl
theorem dX10_latch_60 : decode cX10_latch 60 = .ok (.ishr, 1) := dAt (x := (60, .ishr, 1)) DX10_latch_0 16 rfl
theorem dX10_latch_61 : decode cX10_latch 61 = .ok (.iconst 1, 1) := dAt (x := (61, .iconst 1, 1)) DX10_latch_0 17 rfl
theorem dX10_latch_62 : decode cX10_latch 62 = .ok (.iand, 1) := dAt (x := (62, .iand, 1)) DX10_latch_0 18 rfl
theorem dX10_latch_63 : decode cX10_latch 63 = .ok (.ireturn, 1) := dAt (x := (63, .ireturn, 1)) DX10_latch_0 19 rfl
theorem dX10_latch_64 : decode cX10_latch 64 = .ok (.aload_n 0, 1) := dAt (x := (64, .aload_n 0, 1)) DX10_latch_0 20 rfl
theorem dX10_latch_65 : decode cX10_latch 65 = .ok (.getfield 28, 3) := dAt (x := (65, .getfield 28, 3)) DX10_latch_0 21 rfl
theorem dX10_latch_68 : decode cX10_latch 68 = .ok (.getfield 123, 3) := dAt (x := (68, .getfield 123, 3)) DX10_latch_0 22 rfl
theorem dX10_latch_71 : decode cX10_latch 71 = .ok (.iload_n 1, 1) := dAt (x := (71, .iload_n 1, 1)) DX10_latch_0 23 rfl
theorem dX10_latch_72 : decode cX10_latch 72 = .ok (.ishr, 1) := dAt (x := (72, .ishr, 1)) DX10_latch_0 24 rfl
theorem dX10_latch_73 : decode cX10_latch 73 = .ok (.iconst 1, 1) := dAt (x := (73, .iconst 1, 1)) DX10_latch_0 25 rfl
theorem dX10_latch_74 : decode cX10_latch 74 = .ok (.iand, 1) := dAt (x := (74, .iand, 1)) DX10_latch_0 26 rfl
theorem dX10_latch_75 : decode cX10_latch 75 = .ok (.ireturn, 1) := dAt (x := (75, .ireturn, 1)) DX10_latch_0 27 rfl
theorem dX10_latch_76 : decode cX10_latch 76 = .ok (.aload_n 0, 1) := dAt (x := (76, .aload_n 0, 1)) DX10_latch_0 28 rfl
theorem dX10_latch_77 : decode cX10_latch 77 = .ok (.getfield 21, 3) := dAt (x := (77, .getfield 21, 3)) DX10_latch_0 29 rfl
theorem dX10_latch_80 : decode cX10_latch 80 = .ok (.aload_n 0, 1) := dAt (x := (80, .aload_n 0, 1)) DX10_latch_0 30 rfl
theorem dX10_latch_81 : decode cX10_latch 81 = .ok (.getfield 28, 3) := dAt (x := (81, .getfield 28, 3)) DX10_latch_0 31 rfl
theorem dX10_latch_84 : decode cX10_latch 84 = .ok (.getfield 120, 3) := dAt (x := (84, .getfield 120, 3)) DX10_latch_0 32 rfl
theorem dX10_latch_87 : decode cX10_latch 87 = .ok (.aload_n 0, 1) := dAt (x := (87, .aload_n 0, 1)) DX10_latch_0 33 rfl
theorem dX10_latch_88 : decode cX10_latch 88 = .ok (.getfield 28, 3) := dAt (x := (88, .getfield 28, 3)) DX10_latch_0 34 rfl
theorem dX10_latch_91 : decode cX10_latch 91 = .ok (.getfield 123, 3) := dAt (x := (91, .getfield 123, 3)) DX10_latch_0 35 rfl
theorem dX10_latch_94 : decode cX10_latch 94 = .ok (.invokevirtual 126, 3) := dAt (x := (94, .invokevirtual 126, 3)) DX10_latch_0 36 rfl
theorem dX10_latch_97 : decode cX10_latch 97 = .ok (.iload_n 1, 1) := dAt (x := (97, .iload_n 1, 1)) DX10_latch_0 37 rfl
theorem dX10_latch_98 : decode cX10_latch 98 = .ok (.ishr, 1) := dAt (x := (98, .ishr, 1)) DX10_latch_0 38 rfl
theorem dX10_latch_99 : decode cX10_latch 99 = .ok (.iconst 1, 1) := dAt (x := (99, .iconst 1, 1)) DX10_latch_0 39 rfl
theorem dX10_latch_100 : decode cX10_latch 100 = .ok (.iand, 1) := dAt (x := (100, .iand, 1)) DX10_latch_0 40 rfl
theorem dX10_latch_101 : decode cX10_latch 101 = .ok (.ireturn, 1) := dAt (x := (101, .ireturn, 1)) DX10_latch_0 41 rfl
theorem dX10_latch_102 : decode cX10_latch 102 = .ok (.aload_n 0, 1) := dAt (x := (102, .aload_n 0, 1)) DX10_latch_0 42 rfl
theorem dX10_latch_103 : decode cX10_latch 103 = .ok (.getfield 28, 3) := dAt (x := (103, .getfield 28, 3)) DX10_latch_0 43 rfl
theorem dX10_latch_106 : decode cX10_latch 106 = .ok (.iload_n 1, 1) := dAt (x := (106, .iload_n 1, 1)) DX10_latch_0 44 rfl
theorem dX10_latch_107 : decode cX10_latch 107 = .ok (.invokevirtual 130, 3) := dAt (x := (107, .invokevirtual 130, 3)) DX10_latch_0 45 rfl
theorem dX10_latch_110 : decode cX10_latch 110 = .ok (.ireturn, 1) := dAt (x := (110, .ireturn, 1)) DX10_latch_0 46 rfl
theorem dX10_latch_111 : decode cX10_latch 111 = .ok (.new 133, 3) := dAt (x := (111, .new 133, 3)) DX10_latch_0 47 rfl
theorem dX10_latch_114 : decode cX10_latch 114 = .ok (.dup, 1) := dAt (x := (114, .dup, 1)) DX10_latch_0 48 rfl
theorem dX10_latch_115 : decode cX10_latch 115 = .ok (.ldc 135, 2) := dAt (x := (115, .ldc 135, 2)) DX10_latch_0 49 rfl
theorem dX10_latch_117 : decode cX10_latch 117 = .ok (.invokespecial 137, 3) := dAt (x := (117, .invokespecial 137, 3)) DX10_latch_0 50 rfl
theorem dX10_latch_120 : decode cX10_latch 120 = .ok (.athrow, 1) := dAt (x := (120, .athrow, 1)) DX10_latch_0 51 rfl
def lDX10_row_0 : List (Nat × Instr × Nat) := [(0, .iload_n 1, 1), (1, .tableswitch 65 0 2 #[27, 35, 43], 27), (28, .aload_n 0, 1), (29, .getfield 28, 3), (32, .getfield 120, 3), (35, .ireturn, 1), (36, .aload_n 0, 1), (37, .getfield 28, 3), (40, .getfield 123, 3), (43, .ireturn, 1), (44, .aload_n 0, 1), (45, .getfield 21, 3), (48, .aload_n 0, 1), (49, .getfield 28, 3), (52, .getfield 120, 3), (55, .aload_n 0, 1), (56, .getfield 28, 3), (59, .getfield 123, 3), (62, .invokevirtual 126, 3), (65, .ireturn, 1), (66, .iconst (-1), 1), (67, .ireturn, 1)]
theorem DX10_row_0 : dAll cX10_row lDX10_row_0 = true := by decide +kernel
theorem dX10_row_0 : decode cX10_row 0 = .ok (.iload_n 1, 1) := dAt (x := (0, .iload_n 1, 1)) DX10_row_0 0 rfl
theorem dX10_row_1 : decode cX10_row 1 = .ok (.tableswitch 65 0 2 #[27, 35, 43], 27) := dAt (x := (1, .tableswitch 65 0 2 #[27, 35, 43], 27)) DX10_row_0 1 rfl
theorem dX10_row_28 : decode cX10_row 28 = .ok (.aload_n 0, 1) := dAt (x := (28, .aload_n 0, 1)) DX10_row_0 2 rfl
theorem dX10_row_29 : decode cX10_row 29 = .ok (.getfield 28, 3) := dAt (x := (29, .getfield 28, 3)) DX10_row_0 3 rfl
theorem dX10_row_32 : decode cX10_row 32 = .ok (.getfield 120, 3) := dAt (x := (32, .getfield 120, 3)) DX10_row_0 4 rfl
theorem dX10_row_35 : decode cX10_row 35 = .ok (.ireturn, 1) := dAt (x := (35, .ireturn, 1)) DX10_row_0 5 rfl
theorem dX10_row_36 : decode cX10_row 36 = .ok (.aload_n 0, 1) := dAt (x := (36, .aload_n 0, 1)) DX10_row_0 6 rfl
theorem dX10_row_37 : decode cX10_row 37 = .ok (.getfield 28, 3) := dAt (x := (37, .getfield 28, 3)) DX10_row_0 7 rfl
theorem dX10_row_40 : decode cX10_row 40 = .ok (.getfield 123, 3) := dAt (x := (40, .getfield 123, 3)) DX10_row_0 8 rfl
theorem dX10_row_43 : decode cX10_row 43 = .ok (.ireturn, 1) := dAt (x := (43, .ireturn, 1)) DX10_row_0 9 rfl
theorem dX10_row_44 : decode cX10_row 44 = .ok (.aload_n 0, 1) := dAt (x := (44, .aload_n 0, 1)) DX10_row_0 10 rfl
theorem dX10_row_45 : decode cX10_row 45 = .ok (.getfield 21, 3) := dAt (x := (45, .getfield 21, 3)) DX10_row_0 11 rfl
theorem dX10_row_48 : decode cX10_row 48 = .ok (.aload_n 0, 1) := dAt (x := (48, .aload_n 0, 1)) DX10_row_0 12 rfl
theorem dX10_row_49 : decode cX10_row 49 = .ok (.getfield 28, 3) := dAt (x := (49, .getfield 28, 3)) DX10_row_0 13 rfl
theorem dX10_row_52 : decode cX10_row 52 = .ok (.getfield 120, 3) := dAt (x := (52, .getfield 120, 3)) DX10_row_0 14 rfl
theorem dX10_row_55 : decode cX10_row 55 = .ok (.aload_n 0, 1) := dAt (x := (55, .aload_n 0, 1)) DX10_row_0 15 rfl
theorem dX10_row_56 : decode cX10_row 56 = .ok (.getfield 28, 3) := dAt (x := (56, .getfield 28, 3)) DX10_row_0 16 rfl
theorem dX10_row_59 : decode cX10_row 59 = .ok (.getfield 123, 3) := dAt (x := (59, .getfield 123, 3)) DX10_row_0 17 rfl
theorem dX10_row_62 : decode cX10_row 62 = .ok (.invokevirtual 126, 3) := dAt (x := (62, .invokevirtual 126, 3)) DX10_row_0 18 rfl
theorem dX10_row_65 : decode cX10_row 65 = .ok (.ireturn, 1) := dAt (x := (65, .ireturn, 1)) DX10_row_0 19 rfl
theorem dX10_row_66 : decode cX10_row 66 = .ok (.iconst (-1), 1) := dAt (x := (66, .iconst (-1), 1)) DX10_row_0 20 rfl
theorem dX10_row_67 : decode cX10_row 67 = .ok (.ireturn, 1) := dAt (x := (67, .ireturn, 1)) DX10_row_0 21 rfl
def lDX10_could_0 : List (Nat × Instr × Nat) := [(0, .aload_n 0, 1), (1, .getfield 21, 3), (4, .iload_n 1, 1), (5, .invokevirtual 138, 3), (8, .ifCond .eq 14, 3), (11, .aload_n 0, 1), (12, .getfield 21, 3), (15, .iload_n 2, 1), (16, .invokevirtual 110, 3), (19, .ifCond .ne 5, 3), (22, .iconst (-1), 1), (23, .ireturn, 1), (24, .aload_n 0, 1), (25, .getfield 21, 3), (28, .iload_n 1, 1), (29, .iconst 0, 1), (30, .invokevirtual 126, 3), (33, .iload_n 2, 1), (34, .ishr, 1), (35, .iconst 1, 1), (36, .iand, 1), (37, .ireturn, 1)]
theorem DX10_could_0 : dAll cX10_could lDX10_could_0 = true := by decide +kernel
theorem dX10_could_0 : decode cX10_could 0 = .ok (.aload_n 0, 1) := dAt (x := (0, .aload_n 0, 1)) DX10_could_0 0 rfl
theorem dX10_could_1 : decode cX10_could 1 = .ok (.getfield 21, 3) := dAt (x := (1, .getfield 21, 3)) DX10_could_0 1 rfl
theorem dX10_could_4 : decode cX10_could 4 = .ok (.iload_n 1, 1) := dAt (x := (4, .iload_n 1, 1)) DX10_could_0 2 rfl
theorem dX10_could_5 : decode cX10_could 5 = .ok (.invokevirtual 138, 3) := dAt (x := (5, .invokevirtual 138, 3)) DX10_could_0 3 rfl
theorem dX10_could_8 : decode cX10_could 8 = .ok (.ifCond .eq 14, 3) := dAt (x := (8, .ifCond .eq 14, 3)) DX10_could_0 4 rfl
theorem dX10_could_11 : decode cX10_could 11 = .ok (.aload_n 0, 1) := dAt (x := (11, .aload_n 0, 1)) DX10_could_0 5 rfl
theorem dX10_could_12 : decode cX10_could 12 = .ok (.getfield 21, 3) := dAt (x := (12, .getfield 21, 3)) DX10_could_0 6 rfl
theorem dX10_could_15 : decode cX10_could 15 = .ok (.iload_n 2, 1) := dAt (x := (15, .iload_n 2, 1)) DX10_could_0 7 rfl
theorem dX10_could_16 : decode cX10_could 16 = .ok (.invokevirtual 110, 3) := dAt (x := (16, .invokevirtual 110, 3)) DX10_could_0 8 rfl
theorem dX10_could_19 : decode cX10_could 19 = .ok (.ifCond .ne 5, 3) := dAt (x := (19, .ifCond .ne 5, 3)) DX10_could_0 9 rfl
theorem dX10_could_22 : decode cX10_could 22 = .ok (.iconst (-1), 1) := dAt (x := (22, .iconst (-1), 1)) DX10_could_0 10 rfl
theorem dX10_could_23 : decode cX10_could 23 = .ok (.ireturn, 1) := dAt (x := (23, .ireturn, 1)) DX10_could_0 11 rfl
theorem dX10_could_24 : decode cX10_could 24 = .ok (.aload_n 0, 1) := dAt (x := (24, .aload_n 0, 1)) DX10_could_0 12 rfl
theorem dX10_could_25 : decode cX10_could 25 = .ok (.getfield 21, 3) := dAt (x := (25, .getfield 21, 3)) DX10_could_0 13 rfl
theorem dX10_could_28 : decode cX10_could 28 = .ok (.iload_n 1, 1) := dAt (x := (28, .iload_n 1, 1)) DX10_could_0 14 rfl
theorem dX10_could_29 : decode cX10_could 29 = .ok (.iconst 0, 1) := dAt (x := (29, .iconst 0, 1)) DX10_could_0 15 rfl
theorem dX10_could_30 : decode cX10_could 30 = .ok (.invokevirtual 126, 3) := dAt (x := (30, .invokevirtual 126, 3)) DX10_could_0 16 rfl
theorem dX10_could_33 : decode cX10_could 33 = .ok (.iload_n 2, 1) := dAt (x := (33, .iload_n 2, 1)) DX10_could_0 17 rfl
theorem dX10_could_34 : decode cX10_could 34 = .ok (.ishr, 1) := dAt (x := (34, .ishr, 1)) DX10_could_0 18 rfl
theorem dX10_could_35 : decode cX10_could 35 = .ok (.iconst 1, 1) := dAt (x := (35, .iconst 1, 1)) DX10_could_0 19 rfl
theorem dX10_could_36 : decode cX10_could 36 = .ok (.iand, 1) := dAt (x := (36, .iand, 1)) DX10_could_0 20 rfl
theorem dX10_could_37 : decode cX10_could 37 = .ok (.ireturn, 1) := dAt (x := (37, .ireturn, 1)) DX10_could_0 21 rfl
def lDX10_law_0 : List (Nat × Instr × Nat) := [(0, .iload_n 1, 1), (1, .ifCond .lt 19, 3), (4, .iload_n 1, 1), (5, .iconst 3, 1), (6, .if_icmp .ge 14, 3), (9, .aload_n 0, 1), (10, .getfield 21, 3), (13, .iload_n 2, 1), (14, .invokevirtual 110, 3), (17, .ifCond .ne 7, 3), (20, .ldc2_w 141, 3), (23, .lreturn, 1), (24, .aload_n 0, 1), (25, .getfield 41, 3), (28, .aload_n 0, 1), (29, .getfield 21, 3), (32, .aload_n 0, 1), (33, .getfield 28, 3), (36, .iload_n 1, 1), (37, .iload_n 2, 1), (38, .invokevirtual 143, 3), (41, .lreturn, 1)]
theorem DX10_law_0 : dAll cX10_law lDX10_law_0 = true := by decide +kernel
theorem dX10_law_0 : decode cX10_law 0 = .ok (.iload_n 1, 1) := dAt (x := (0, .iload_n 1, 1)) DX10_law_0 0 rfl
theorem dX10_law_1 : decode cX10_law 1 = .ok (.ifCond .lt 19, 3) := dAt (x := (1, .ifCond .lt 19, 3)) DX10_law_0 1 rfl
theorem dX10_law_4 : decode cX10_law 4 = .ok (.iload_n 1, 1) := dAt (x := (4, .iload_n 1, 1)) DX10_law_0 2 rfl
theorem dX10_law_5 : decode cX10_law 5 = .ok (.iconst 3, 1) := dAt (x := (5, .iconst 3, 1)) DX10_law_0 3 rfl
theorem dX10_law_6 : decode cX10_law 6 = .ok (.if_icmp .ge 14, 3) := dAt (x := (6, .if_icmp .ge 14, 3)) DX10_law_0 4 rfl
theorem dX10_law_9 : decode cX10_law 9 = .ok (.aload_n 0, 1) := dAt (x := (9, .aload_n 0, 1)) DX10_law_0 5 rfl
theorem dX10_law_10 : decode cX10_law 10 = .ok (.getfield 21, 3) := dAt (x := (10, .getfield 21, 3)) DX10_law_0 6 rfl
theorem dX10_law_13 : decode cX10_law 13 = .ok (.iload_n 2, 1) := dAt (x := (13, .iload_n 2, 1)) DX10_law_0 7 rfl
theorem dX10_law_14 : decode cX10_law 14 = .ok (.invokevirtual 110, 3) := dAt (x := (14, .invokevirtual 110, 3)) DX10_law_0 8 rfl
theorem dX10_law_17 : decode cX10_law 17 = .ok (.ifCond .ne 7, 3) := dAt (x := (17, .ifCond .ne 7, 3)) DX10_law_0 9 rfl
theorem dX10_law_20 : decode cX10_law 20 = .ok (.ldc2_w 141, 3) := dAt (x := (20, .ldc2_w 141, 3)) DX10_law_0 10 rfl
theorem dX10_law_23 : decode cX10_law 23 = .ok (.lreturn, 1) := dAt (x := (23, .lreturn, 1)) DX10_law_0 11 rfl
theorem dX10_law_24 : decode cX10_law 24 = .ok (.aload_n 0, 1) := dAt (x := (24, .aload_n 0, 1)) DX10_law_0 12 rfl
theorem dX10_law_25 : decode cX10_law 25 = .ok (.getfield 41, 3) := dAt (x := (25, .getfield 41, 3)) DX10_law_0 13 rfl
theorem dX10_law_28 : decode cX10_law 28 = .ok (.aload_n 0, 1) := dAt (x := (28, .aload_n 0, 1)) DX10_law_0 14 rfl
theorem dX10_law_29 : decode cX10_law 29 = .ok (.getfield 21, 3) := dAt (x := (29, .getfield 21, 3)) DX10_law_0 15 rfl
theorem dX10_law_32 : decode cX10_law 32 = .ok (.aload_n 0, 1) := dAt (x := (32, .aload_n 0, 1)) DX10_law_0 16 rfl
theorem dX10_law_33 : decode cX10_law 33 = .ok (.getfield 28, 3) := dAt (x := (33, .getfield 28, 3)) DX10_law_0 17 rfl
theorem dX10_law_36 : decode cX10_law 36 = .ok (.iload_n 1, 1) := dAt (x := (36, .iload_n 1, 1)) DX10_law_0 18 rfl
theorem dX10_law_37 : decode cX10_law 37 = .ok (.iload_n 2, 1) := dAt (x := (37, .iload_n 2, 1)) DX10_law_0 19 rfl
theorem dX10_law_38 : decode cX10_law 38 = .ok (.invokevirtual 143, 3) := dAt (x := (38, .invokevirtual 143, 3)) DX10_law_0 20 rfl
theorem dX10_law_41 : decode cX10_law 41 = .ok (.lreturn, 1) := dAt (x := (41, .lreturn, 1)) DX10_law_0 21 rfl
def lDX10_push_0 : List (Nat × Instr × Nat) := [(0, .aload_n 0, 1), (1, .getfield 21, 3), (4, .iload_n 1, 1), (5, .invokevirtual 110, 3), (8, .ifCond .ne 5, 3), (11, .iconst (-1), 1), (12, .ireturn, 1), (13, .aload_n 0, 1), (14, .getfield 21, 3), (17, .aload_n 0, 1), (18, .getfield 28, 3), (21, .getfield 120, 3), (24, .aload_n 0, 1), (25, .getfield 28, 3), (28, .getfield 123, 3), (31, .invokevirtual 126, 3), (34, .iload_n 1, 1), (35, .ishr, 1), (36, .iconst 1, 1), (37, .iand, 1), (38, .ifCond .ne 6, 3), (41, .bipush (-2), 2), (43, .ireturn, 1), (44, .aload_n 0, 1), (45, .getfield 48, 3), (48, .aload_n 0, 1), (49, .getfield 28, 3), (52, .iload_n 1, 1), (53, .invokevirtual 147, 3), (56, .aload_n 0, 1), (57, .getfield 41, 3), (60, .invokevirtual 151, 3), (63, .aload_n 0, 1), (64, .getfield 41, 3), (67, .aload_n 0, 1), (68, .getfield 21, 3), (71, .aload_n 0, 1), (72, .getfield 28, 3), (75, .iload_n 1, 1), (76, .invokevirtual 154, 3), (79, .pop, 1), (80, .aload_n 0, 1), (81, .getfield 28, 3), (84, .getfield 120, 3), (87, .invokestatic 158, 3), (90, .ireturn, 1)]
theorem DX10_push_0 : dAll cX10_push lDX10_push_0 = true := by decide +kernel
theorem dX10_push_0 : decode cX10_push 0 = .ok (.aload_n 0, 1) := dAt (x := (0, .aload_n 0, 1)) DX10_push_0 0 rfl
theorem dX10_push_1 : decode cX10_push 1 = .ok (.getfield 21, 3) := dAt (x := (1, .getfield 21, 3)) DX10_push_0 1 rfl
theorem dX10_push_4 : decode cX10_push 4 = .ok (.iload_n 1, 1) := dAt (x := (4, .iload_n 1, 1)) DX10_push_0 2 rfl
theorem dX10_push_5 : decode cX10_push 5 = .ok (.invokevirtual 110, 3) := dAt (x := (5, .invokevirtual 110, 3)) DX10_push_0 3 rfl
theorem dX10_push_8 : decode cX10_push 8 = .ok (.ifCond .ne 5, 3) := dAt (x := (8, .ifCond .ne 5, 3)) DX10_push_0 4 rfl
theorem dX10_push_11 : decode cX10_push 11 = .ok (.iconst (-1), 1) := dAt (x := (11, .iconst (-1), 1)) DX10_push_0 5 rfl
theorem dX10_push_12 : decode cX10_push 12 = .ok (.ireturn, 1) := dAt (x := (12, .ireturn, 1)) DX10_push_0 6 rfl
theorem dX10_push_13 : decode cX10_push 13 = .ok (.aload_n 0, 1) := dAt (x := (13, .aload_n 0, 1)) DX10_push_0 7 rfl
theorem dX10_push_14 : decode cX10_push 14 = .ok (.getfield 21, 3) := dAt (x := (14, .getfield 21, 3)) DX10_push_0 8 rfl
theorem dX10_push_17 : decode cX10_push 17 = .ok (.aload_n 0, 1) := dAt (x := (17, .aload_n 0, 1)) DX10_push_0 9 rfl
theorem dX10_push_18 : decode cX10_push 18 = .ok (.getfield 28, 3) := dAt (x := (18, .getfield 28, 3)) DX10_push_0 10 rfl
theorem dX10_push_21 : decode cX10_push 21 = .ok (.getfield 120, 3) := dAt (x := (21, .getfield 120, 3)) DX10_push_0 11 rfl
theorem dX10_push_24 : decode cX10_push 24 = .ok (.aload_n 0, 1) := dAt (x := (24, .aload_n 0, 1)) DX10_push_0 12 rfl
theorem dX10_push_25 : decode cX10_push 25 = .ok (.getfield 28, 3) := dAt (x := (25, .getfield 28, 3)) DX10_push_0 13 rfl
theorem dX10_push_28 : decode cX10_push 28 = .ok (.getfield 123, 3) := dAt (x := (28, .getfield 123, 3)) DX10_push_0 14 rfl
theorem dX10_push_31 : decode cX10_push 31 = .ok (.invokevirtual 126, 3) := dAt (x := (31, .invokevirtual 126, 3)) DX10_push_0 15 rfl
theorem dX10_push_34 : decode cX10_push 34 = .ok (.iload_n 1, 1) := dAt (x := (34, .iload_n 1, 1)) DX10_push_0 16 rfl
theorem dX10_push_35 : decode cX10_push 35 = .ok (.ishr, 1) := dAt (x := (35, .ishr, 1)) DX10_push_0 17 rfl
theorem dX10_push_36 : decode cX10_push 36 = .ok (.iconst 1, 1) := dAt (x := (36, .iconst 1, 1)) DX10_push_0 18 rfl
theorem dX10_push_37 : decode cX10_push 37 = .ok (.iand, 1) := dAt (x := (37, .iand, 1)) DX10_push_0 19 rfl
theorem dX10_push_38 : decode cX10_push 38 = .ok (.ifCond .ne 6, 3) := dAt (x := (38, .ifCond .ne 6, 3)) DX10_push_0 20 rfl
theorem dX10_push_41 : decode cX10_push 41 = .ok (.bipush (-2), 2) := dAt (x := (41, .bipush (-2), 2)) DX10_push_0 21 rfl
theorem dX10_push_43 : decode cX10_push 43 = .ok (.ireturn, 1) := dAt (x := (43, .ireturn, 1)) DX10_push_0 22 rfl
theorem dX10_push_44 : decode cX10_push 44 = .ok (.aload_n 0, 1) := dAt (x := (44, .aload_n 0, 1)) DX10_push_0 23 rfl
theorem dX10_push_45 : decode cX10_push 45 = .ok (.getfield 48, 3) := dAt (x := (45, .getfield 48, 3)) DX10_push_0 24 rfl
theorem dX10_push_48 : decode cX10_push 48 = .ok (.aload_n 0, 1) := dAt (x := (48, .aload_n 0, 1)) DX10_push_0 25 rfl
theorem dX10_push_49 : decode cX10_push 49 = .ok (.getfield 28, 3) := dAt (x := (49, .getfield 28, 3)) DX10_push_0 26 rfl
theorem dX10_push_52 : decode cX10_push 52 = .ok (.iload_n 1, 1) := dAt (x := (52, .iload_n 1, 1)) DX10_push_0 27 rfl
theorem dX10_push_53 : decode cX10_push 53 = .ok (.invokevirtual 147, 3) := dAt (x := (53, .invokevirtual 147, 3)) DX10_push_0 28 rfl
theorem dX10_push_56 : decode cX10_push 56 = .ok (.aload_n 0, 1) := dAt (x := (56, .aload_n 0, 1)) DX10_push_0 29 rfl
theorem dX10_push_57 : decode cX10_push 57 = .ok (.getfield 41, 3) := dAt (x := (57, .getfield 41, 3)) DX10_push_0 30 rfl
theorem dX10_push_60 : decode cX10_push 60 = .ok (.invokevirtual 151, 3) := dAt (x := (60, .invokevirtual 151, 3)) DX10_push_0 31 rfl
theorem dX10_push_63 : decode cX10_push 63 = .ok (.aload_n 0, 1) := dAt (x := (63, .aload_n 0, 1)) DX10_push_0 32 rfl
theorem dX10_push_64 : decode cX10_push 64 = .ok (.getfield 41, 3) := dAt (x := (64, .getfield 41, 3)) DX10_push_0 33 rfl
theorem dX10_push_67 : decode cX10_push 67 = .ok (.aload_n 0, 1) := dAt (x := (67, .aload_n 0, 1)) DX10_push_0 34 rfl
theorem dX10_push_68 : decode cX10_push 68 = .ok (.getfield 21, 3) := dAt (x := (68, .getfield 21, 3)) DX10_push_0 35 rfl
theorem dX10_push_71 : decode cX10_push 71 = .ok (.aload_n 0, 1) := dAt (x := (71, .aload_n 0, 1)) DX10_push_0 36 rfl
theorem dX10_push_72 : decode cX10_push 72 = .ok (.getfield 28, 3) := dAt (x := (72, .getfield 28, 3)) DX10_push_0 37 rfl
theorem dX10_push_75 : decode cX10_push 75 = .ok (.iload_n 1, 1) := dAt (x := (75, .iload_n 1, 1)) DX10_push_0 38 rfl
theorem dX10_push_76 : decode cX10_push 76 = .ok (.invokevirtual 154, 3) := dAt (x := (76, .invokevirtual 154, 3)) DX10_push_0 39 rfl
theorem dX10_push_79 : decode cX10_push 79 = .ok (.pop, 1) := dAt (x := (79, .pop, 1)) DX10_push_0 40 rfl
theorem dX10_push_80 : decode cX10_push 80 = .ok (.aload_n 0, 1) := dAt (x := (80, .aload_n 0, 1)) DX10_push_0 41 rfl
theorem dX10_push_81 : decode cX10_push 81 = .ok (.getfield 28, 3) := dAt (x := (81, .getfield 28, 3)) DX10_push_0 42 rfl
theorem dX10_push_84 : decode cX10_push 84 = .ok (.getfield 120, 3) := dAt (x := (84, .getfield 120, 3)) DX10_push_0 43 rfl
theorem dX10_push_87 : decode cX10_push 87 = .ok (.invokestatic 158, 3) := dAt (x := (87, .invokestatic 158, 3)) DX10_push_0 44 rfl
theorem dX10_push_90 : decode cX10_push 90 = .ok (.ireturn, 1) := dAt (x := (90, .ireturn, 1)) DX10_push_0 45 rfl
def lDX10_force_0 : List (Nat × Instr × Nat) := [(0, .aload_n 0, 1), (1, .getfield 21, 3), (4, .iload_n 1, 1), (5, .invokevirtual 110, 3), (8, .ifCond .ne 5, 3), (11, .iconst (-1), 1), (12, .ireturn, 1), (13, .aload_n 0, 1), (14, .getfield 48, 3), (17, .aload_n 0, 1), (18, .getfield 28, 3), (21, .iload_n 1, 1), (22, .invokevirtual 147, 3), (25, .aload_n 0, 1), (26, .getfield 28, 3), (29, .dup, 1), (30, .getfield 120, 3), (33, .iconst 1, 1), (34, .iload_n 1, 1), (35, .ishl, 1), (36, .ixor, 1), (37, .putfield 120, 3), (40, .aload_n 0, 1), (41, .getfield 28, 3), (44, .getfield 120, 3), (47, .iload_n 1, 1), (48, .ishr, 1), (49, .iconst 1, 1), (50, .iand, 1), (51, .ireturn, 1)]
theorem DX10_force_0 : dAll cX10_force lDX10_force_0 = true := by decide +kernel
theorem dX10_force_0 : decode cX10_force 0 = .ok (.aload_n 0, 1) := dAt (x := (0, .aload_n 0, 1)) DX10_force_0 0 rfl
theorem dX10_force_1 : decode cX10_force 1 = .ok (.getfield 21, 3) := dAt (x := (1, .getfield 21, 3)) DX10_force_0 1 rfl
theorem dX10_force_4 : decode cX10_force 4 = .ok (.iload_n 1, 1) := dAt (x := (4, .iload_n 1, 1)) DX10_force_0 2 rfl
theorem dX10_force_5 : decode cX10_force 5 = .ok (.invokevirtual 110, 3) := dAt (x := (5, .invokevirtual 110, 3)) DX10_force_0 3 rfl
theorem dX10_force_8 : decode cX10_force 8 = .ok (.ifCond .ne 5, 3) := dAt (x := (8, .ifCond .ne 5, 3)) DX10_force_0 4 rfl
theorem dX10_force_11 : decode cX10_force 11 = .ok (.iconst (-1), 1) := dAt (x := (11, .iconst (-1), 1)) DX10_force_0 5 rfl
theorem dX10_force_12 : decode cX10_force 12 = .ok (.ireturn, 1) := dAt (x := (12, .ireturn, 1)) DX10_force_0 6 rfl
theorem dX10_force_13 : decode cX10_force 13 = .ok (.aload_n 0, 1) := dAt (x := (13, .aload_n 0, 1)) DX10_force_0 7 rfl
theorem dX10_force_14 : decode cX10_force 14 = .ok (.getfield 48, 3) := dAt (x := (14, .getfield 48, 3)) DX10_force_0 8 rfl
theorem dX10_force_17 : decode cX10_force 17 = .ok (.aload_n 0, 1) := dAt (x := (17, .aload_n 0, 1)) DX10_force_0 9 rfl
theorem dX10_force_18 : decode cX10_force 18 = .ok (.getfield 28, 3) := dAt (x := (18, .getfield 28, 3)) DX10_force_0 10 rfl
theorem dX10_force_21 : decode cX10_force 21 = .ok (.iload_n 1, 1) := dAt (x := (21, .iload_n 1, 1)) DX10_force_0 11 rfl
theorem dX10_force_22 : decode cX10_force 22 = .ok (.invokevirtual 147, 3) := dAt (x := (22, .invokevirtual 147, 3)) DX10_force_0 12 rfl
theorem dX10_force_25 : decode cX10_force 25 = .ok (.aload_n 0, 1) := dAt (x := (25, .aload_n 0, 1)) DX10_force_0 13 rfl
theorem dX10_force_26 : decode cX10_force 26 = .ok (.getfield 28, 3) := dAt (x := (26, .getfield 28, 3)) DX10_force_0 14 rfl
theorem dX10_force_29 : decode cX10_force 29 = .ok (.dup, 1) := dAt (x := (29, .dup, 1)) DX10_force_0 15 rfl
theorem dX10_force_30 : decode cX10_force 30 = .ok (.getfield 120, 3) := dAt (x := (30, .getfield 120, 3)) DX10_force_0 16 rfl
theorem dX10_force_33 : decode cX10_force 33 = .ok (.iconst 1, 1) := dAt (x := (33, .iconst 1, 1)) DX10_force_0 17 rfl
theorem dX10_force_34 : decode cX10_force 34 = .ok (.iload_n 1, 1) := dAt (x := (34, .iload_n 1, 1)) DX10_force_0 18 rfl
theorem dX10_force_35 : decode cX10_force 35 = .ok (.ishl, 1) := dAt (x := (35, .ishl, 1)) DX10_force_0 19 rfl
theorem dX10_force_36 : decode cX10_force 36 = .ok (.ixor, 1) := dAt (x := (36, .ixor, 1)) DX10_force_0 20 rfl
theorem dX10_force_37 : decode cX10_force 37 = .ok (.putfield 120, 3) := dAt (x := (37, .putfield 120, 3)) DX10_force_0 21 rfl
theorem dX10_force_40 : decode cX10_force 40 = .ok (.aload_n 0, 1) := dAt (x := (40, .aload_n 0, 1)) DX10_force_0 22 rfl
theorem dX10_force_41 : decode cX10_force 41 = .ok (.getfield 28, 3) := dAt (x := (41, .getfield 28, 3)) DX10_force_0 23 rfl
theorem dX10_force_44 : decode cX10_force 44 = .ok (.getfield 120, 3) := dAt (x := (44, .getfield 120, 3)) DX10_force_0 24 rfl
theorem dX10_force_47 : decode cX10_force 47 = .ok (.iload_n 1, 1) := dAt (x := (47, .iload_n 1, 1)) DX10_force_0 25 rfl
theorem dX10_force_48 : decode cX10_force 48 = .ok (.ishr, 1) := dAt (x := (48, .ishr, 1)) DX10_force_0 26 rfl
theorem dX10_force_49 : decode cX10_force 49 = .ok (.iconst 1, 1) := dAt (x := (49, .iconst 1, 1)) DX10_force_0 27 rfl
theorem dX10_force_50 : decode cX10_force 50 = .ok (.iand, 1) := dAt (x := (50, .iand, 1)) DX10_force_0 28 rfl
theorem dX10_force_51 : decode cX10_force 51 = .ok (.ireturn, 1) := dAt (x := (51, .ireturn, 1)) DX10_force_0 29 rfl
def lDX10_seal_0 : List (Nat × Instr × Nat) := [(0, .aload_n 0, 1), (1, .getfield 21, 3), (4, .iload_n 1, 1), (5, .invokevirtual 110, 3), (8, .ifCond .ne 5, 3), (11, .iconst (-1), 1), (12, .ireturn, 1), (13, .aload_n 0, 1), (14, .getfield 48, 3), (17, .aload_n 0, 1), (18, .getfield 28, 3), (21, .iload_n 1, 1), (22, .invokevirtual 147, 3), (25, .aload_n 0, 1), (26, .getfield 28, 3), (29, .dup, 1), (30, .getfield 123, 3), (33, .iconst 1, 1), (34, .iload_n 1, 1), (35, .ishl, 1), (36, .ixor, 1), (37, .putfield 123, 3), (40, .aload_n 0, 1), (41, .getfield 28, 3), (44, .getfield 123, 3), (47, .iload_n 1, 1), (48, .ishr, 1), (49, .iconst 1, 1), (50, .iand, 1), (51, .ireturn, 1)]
theorem DX10_seal_0 : dAll cX10_seal lDX10_seal_0 = true := by decide +kernel
theorem dX10_seal_0 : decode cX10_seal 0 = .ok (.aload_n 0, 1) := dAt (x := (0, .aload_n 0, 1)) DX10_seal_0 0 rfl
theorem dX10_seal_1 : decode cX10_seal 1 = .ok (.getfield 21, 3) := dAt (x := (1, .getfield 21, 3)) DX10_seal_0 1 rfl
theorem dX10_seal_4 : decode cX10_seal 4 = .ok (.iload_n 1, 1) := dAt (x := (4, .iload_n 1, 1)) DX10_seal_0 2 rfl
theorem dX10_seal_5 : decode cX10_seal 5 = .ok (.invokevirtual 110, 3) := dAt (x := (5, .invokevirtual 110, 3)) DX10_seal_0 3 rfl
theorem dX10_seal_8 : decode cX10_seal 8 = .ok (.ifCond .ne 5, 3) := dAt (x := (8, .ifCond .ne 5, 3)) DX10_seal_0 4 rfl
theorem dX10_seal_11 : decode cX10_seal 11 = .ok (.iconst (-1), 1) := dAt (x := (11, .iconst (-1), 1)) DX10_seal_0 5 rfl
theorem dX10_seal_12 : decode cX10_seal 12 = .ok (.ireturn, 1) := dAt (x := (12, .ireturn, 1)) DX10_seal_0 6 rfl
theorem dX10_seal_13 : decode cX10_seal 13 = .ok (.aload_n 0, 1) := dAt (x := (13, .aload_n 0, 1)) DX10_seal_0 7 rfl
theorem dX10_seal_14 : decode cX10_seal 14 = .ok (.getfield 48, 3) := dAt (x := (14, .getfield 48, 3)) DX10_seal_0 8 rfl
theorem dX10_seal_17 : decode cX10_seal 17 = .ok (.aload_n 0, 1) := dAt (x := (17, .aload_n 0, 1)) DX10_seal_0 9 rfl
theorem dX10_seal_18 : decode cX10_seal 18 = .ok (.getfield 28, 3) := dAt (x := (18, .getfield 28, 3)) DX10_seal_0 10 rfl
theorem dX10_seal_21 : decode cX10_seal 21 = .ok (.iload_n 1, 1) := dAt (x := (21, .iload_n 1, 1)) DX10_seal_0 11 rfl
theorem dX10_seal_22 : decode cX10_seal 22 = .ok (.invokevirtual 147, 3) := dAt (x := (22, .invokevirtual 147, 3)) DX10_seal_0 12 rfl
theorem dX10_seal_25 : decode cX10_seal 25 = .ok (.aload_n 0, 1) := dAt (x := (25, .aload_n 0, 1)) DX10_seal_0 13 rfl
theorem dX10_seal_26 : decode cX10_seal 26 = .ok (.getfield 28, 3) := dAt (x := (26, .getfield 28, 3)) DX10_seal_0 14 rfl
theorem dX10_seal_29 : decode cX10_seal 29 = .ok (.dup, 1) := dAt (x := (29, .dup, 1)) DX10_seal_0 15 rfl
theorem dX10_seal_30 : decode cX10_seal 30 = .ok (.getfield 123, 3) := dAt (x := (30, .getfield 123, 3)) DX10_seal_0 16 rfl
theorem dX10_seal_33 : decode cX10_seal 33 = .ok (.iconst 1, 1) := dAt (x := (33, .iconst 1, 1)) DX10_seal_0 17 rfl
theorem dX10_seal_34 : decode cX10_seal 34 = .ok (.iload_n 1, 1) := dAt (x := (34, .iload_n 1, 1)) DX10_seal_0 18 rfl
theorem dX10_seal_35 : decode cX10_seal 35 = .ok (.ishl, 1) := dAt (x := (35, .ishl, 1)) DX10_seal_0 19 rfl
theorem dX10_seal_36 : decode cX10_seal 36 = .ok (.ixor, 1) := dAt (x := (36, .ixor, 1)) DX10_seal_0 20 rfl
theorem dX10_seal_37 : decode cX10_seal 37 = .ok (.putfield 123, 3) := dAt (x := (37, .putfield 123, 3)) DX10_seal_0 21 rfl
theorem dX10_seal_40 : decode cX10_seal 40 = .ok (.aload_n 0, 1) := dAt (x := (40, .aload_n 0, 1)) DX10_seal_0 22 rfl
theorem dX10_seal_41 : decode cX10_seal 41 = .ok (.getfield 28, 3) := dAt (x := (41, .getfield 28, 3)) DX10_seal_0 23 rfl
theorem dX10_seal_44 : decode cX10_seal 44 = .ok (.getfield 123, 3) := dAt (x := (44, .getfield 123, 3)) DX10_seal_0 24 rfl
theorem dX10_seal_47 : decode cX10_seal 47 = .ok (.iload_n 1, 1) := dAt (x := (47, .iload_n 1, 1)) DX10_seal_0 25 rfl
theorem dX10_seal_48 : decode cX10_seal 48 = .ok (.ishr, 1) := dAt (x := (48, .ishr, 1)) DX10_seal_0 26 rfl
theorem dX10_seal_49 : decode cX10_seal 49 = .ok (.iconst 1, 1) := dAt (x := (49, .iconst 1, 1)) DX10_seal_0 27 rfl
theorem dX10_seal_50 : decode cX10_seal 50 = .ok (.iand, 1) := dAt (x := (50, .iand, 1)) DX10_seal_0 28 rfl
theorem dX10_seal_51 : decode cX10_seal 51 = .ok (.ireturn, 1) := dAt (x := (51, .ireturn, 1)) DX10_seal_0 29 rfl
def lDX10_go_0 : List (Nat × Instr × Nat) := [(0, .iload_n 1, 1), (1, .ifCond .lt 25, 3), (4, .iload_n 1, 1), (5, .sipush 200, 3), (8, .if_icmp .gt 18, 3), (11, .aload_n 0, 1), (12, .getfield 28, 3), (15, .getfield 163, 3), (18, .iload_n 1, 1), (19, .iadd, 1), (20, .sipush 9000, 3), (23, .if_icmp .le 5, 3), (26, .iconst (-1), 1), (27, .ireturn, 1), (28, .iload_n 1, 1), (29, .ifCond .le 10, 3), (32, .aload_n 0, 1), (33, .getfield 48, 3), (36, .invokevirtual 92, 3), (39, .aload_n 0, 1), (40, .getfield 41, 3), (43, .invokevirtual 166, 3), (46, .aload_n 0, 1), (47, .getfield 41, 3), (50, .aload_n 0, 1), (51, .getfield 21, 3), (54, .aload_n 0, 1), (55, .getfield 28, 3), (58, .iload_n 1, 1), (59, .invokevirtual 169, 3), (62, .aload_n 0, 1), (63, .getfield 28, 3), (66, .getfield 163, 3), (69, .ireturn, 1)]
theorem DX10_go_0 : dAll cX10_go lDX10_go_0 = true := by decide +kernel
theorem dX10_go_0 : decode cX10_go 0 = .ok (.iload_n 1, 1) := dAt (x := (0, .iload_n 1, 1)) DX10_go_0 0 rfl
theorem dX10_go_1 : decode cX10_go 1 = .ok (.ifCond .lt 25, 3) := dAt (x := (1, .ifCond .lt 25, 3)) DX10_go_0 1 rfl
theorem dX10_go_4 : decode cX10_go 4 = .ok (.iload_n 1, 1) := dAt (x := (4, .iload_n 1, 1)) DX10_go_0 2 rfl
theorem dX10_go_5 : decode cX10_go 5 = .ok (.sipush 200, 3) := dAt (x := (5, .sipush 200, 3)) DX10_go_0 3 rfl
theorem dX10_go_8 : decode cX10_go 8 = .ok (.if_icmp .gt 18, 3) := dAt (x := (8, .if_icmp .gt 18, 3)) DX10_go_0 4 rfl
theorem dX10_go_11 : decode cX10_go 11 = .ok (.aload_n 0, 1) := dAt (x := (11, .aload_n 0, 1)) DX10_go_0 5 rfl
theorem dX10_go_12 : decode cX10_go 12 = .ok (.getfield 28, 3) := dAt (x := (12, .getfield 28, 3)) DX10_go_0 6 rfl
theorem dX10_go_15 : decode cX10_go 15 = .ok (.getfield 163, 3) := dAt (x := (15, .getfield 163, 3)) DX10_go_0 7 rfl
theorem dX10_go_18 : decode cX10_go 18 = .ok (.iload_n 1, 1) := dAt (x := (18, .iload_n 1, 1)) DX10_go_0 8 rfl
theorem dX10_go_19 : decode cX10_go 19 = .ok (.iadd, 1) := dAt (x := (19, .iadd, 1)) DX10_go_0 9 rfl
theorem dX10_go_20 : decode cX10_go 20 = .ok (.sipush 9000, 3) := dAt (x := (20, .sipush 9000, 3)) DX10_go_0 10 rfl
theorem dX10_go_23 : decode cX10_go 23 = .ok (.if_icmp .le 5, 3) := dAt (x := (23, .if_icmp .le 5, 3)) DX10_go_0 11 rfl
theorem dX10_go_26 : decode cX10_go 26 = .ok (.iconst (-1), 1) := dAt (x := (26, .iconst (-1), 1)) DX10_go_0 12 rfl
theorem dX10_go_27 : decode cX10_go 27 = .ok (.ireturn, 1) := dAt (x := (27, .ireturn, 1)) DX10_go_0 13 rfl
theorem dX10_go_28 : decode cX10_go 28 = .ok (.iload_n 1, 1) := dAt (x := (28, .iload_n 1, 1)) DX10_go_0 14 rfl
theorem dX10_go_29 : decode cX10_go 29 = .ok (.ifCond .le 10, 3) := dAt (x := (29, .ifCond .le 10, 3)) DX10_go_0 15 rfl
theorem dX10_go_32 : decode cX10_go 32 = .ok (.aload_n 0, 1) := dAt (x := (32, .aload_n 0, 1)) DX10_go_0 16 rfl
theorem dX10_go_33 : decode cX10_go 33 = .ok (.getfield 48, 3) := dAt (x := (33, .getfield 48, 3)) DX10_go_0 17 rfl
theorem dX10_go_36 : decode cX10_go 36 = .ok (.invokevirtual 92, 3) := dAt (x := (36, .invokevirtual 92, 3)) DX10_go_0 18 rfl
theorem dX10_go_39 : decode cX10_go 39 = .ok (.aload_n 0, 1) := dAt (x := (39, .aload_n 0, 1)) DX10_go_0 19 rfl
theorem dX10_go_40 : decode cX10_go 40 = .ok (.getfield 41, 3) := dAt (x := (40, .getfield 41, 3)) DX10_go_0 20 rfl
theorem dX10_go_43 : decode cX10_go 43 = .ok (.invokevirtual 166, 3) := dAt (x := (43, .invokevirtual 166, 3)) DX10_go_0 21 rfl
theorem dX10_go_46 : decode cX10_go 46 = .ok (.aload_n 0, 1) := dAt (x := (46, .aload_n 0, 1)) DX10_go_0 22 rfl
theorem dX10_go_47 : decode cX10_go 47 = .ok (.getfield 41, 3) := dAt (x := (47, .getfield 41, 3)) DX10_go_0 23 rfl
theorem dX10_go_50 : decode cX10_go 50 = .ok (.aload_n 0, 1) := dAt (x := (50, .aload_n 0, 1)) DX10_go_0 24 rfl
theorem dX10_go_51 : decode cX10_go 51 = .ok (.getfield 21, 3) := dAt (x := (51, .getfield 21, 3)) DX10_go_0 25 rfl
theorem dX10_go_54 : decode cX10_go 54 = .ok (.aload_n 0, 1) := dAt (x := (54, .aload_n 0, 1)) DX10_go_0 26 rfl
theorem dX10_go_55 : decode cX10_go 55 = .ok (.getfield 28, 3) := dAt (x := (55, .getfield 28, 3)) DX10_go_0 27 rfl
theorem dX10_go_58 : decode cX10_go 58 = .ok (.iload_n 1, 1) := dAt (x := (58, .iload_n 1, 1)) DX10_go_0 28 rfl
theorem dX10_go_59 : decode cX10_go 59 = .ok (.invokevirtual 169, 3) := dAt (x := (59, .invokevirtual 169, 3)) DX10_go_0 29 rfl
theorem dX10_go_62 : decode cX10_go 62 = .ok (.aload_n 0, 1) := dAt (x := (62, .aload_n 0, 1)) DX10_go_0 30 rfl
theorem dX10_go_63 : decode cX10_go 63 = .ok (.getfield 28, 3) := dAt (x := (63, .getfield 28, 3)) DX10_go_0 31 rfl
theorem dX10_go_66 : decode cX10_go 66 = .ok (.getfield 163, 3) := dAt (x := (66, .getfield 163, 3)) DX10_go_0 32 rfl
theorem dX10_go_69 : decode cX10_go 69 = .ok (.ireturn, 1) := dAt (x := (69, .ireturn, 1)) DX10_go_0 33 rfl
def lDX10_ahead_0 : List (Nat × Instr × Nat) := [(0, .iload_n 1, 1), (1, .ifCond .lt 10, 3), (4, .iload_n 1, 1), (5, .sipush 200, 3), (8, .if_icmp .le 5, 3), (11, .iconst (-1), 1), (12, .ireturn, 1), (13, .aload_n 0, 1), (14, .getfield 32, 3), (17, .aload_n 0, 1), (18, .getfield 28, 3), (21, .invokevirtual 173, 3), (24, .aload_n 0, 1), (25, .getfield 41, 3), (28, .invokevirtual 151, 3), (31, .aload_n 0, 1), (32, .getfield 41, 3), (35, .aload_n 0, 1), (36, .getfield 21, 3), (39, .aload_n 0, 1), (40, .getfield 32, 3), (43, .iload_n 1, 1), (44, .invokevirtual 169, 3), (47, .iload_n 2, 1), (48, .tableswitch 98 0 4 #[36, 47, 63, 79, 90], 36), (84, .aload_n 0, 1), (85, .getfield 32, 3), (88, .getfield 120, 3), (91, .invokestatic 158, 3), (94, .ireturn, 1), (95, .aload_n 0, 1), (96, .getfield 32, 3), (99, .getfield 177, 3), (102, .aload_n 0, 1), (103, .getfield 28, 3), (106, .getfield 177, 3), (109, .isub, 1), (110, .ireturn, 1), (111, .aload_n 0, 1), (112, .getfield 32, 3), (115, .getfield 180, 3), (118, .aload_n 0, 1), (119, .getfield 28, 3), (122, .getfield 180, 3), (125, .isub, 1), (126, .ireturn, 1), (127, .aload_n 0, 1), (128, .getfield 32, 3), (131, .getfield 123, 3), (134, .invokestatic 158, 3), (137, .ireturn, 1), (138, .aload_n 0, 1), (139, .getfield 32, 3), (142, .getfield 120, 3), (145, .ireturn, 1), (146, .iconst (-1), 1), (147, .ireturn, 1)]
theorem DX10_ahead_0 : dAll cX10_ahead lDX10_ahead_0 = true := by decide +kernel
theorem dX10_ahead_0 : decode cX10_ahead 0 = .ok (.iload_n 1, 1) := dAt (x := (0, .iload_n 1, 1)) DX10_ahead_0 0 rfl
theorem dX10_ahead_1 : decode cX10_ahead 1 = .ok (.ifCond .lt 10, 3) := dAt (x := (1, .ifCond .lt 10, 3)) DX10_ahead_0 1 rfl
theorem dX10_ahead_4 : decode cX10_ahead 4 = .ok (.iload_n 1, 1) := dAt (x := (4, .iload_n 1, 1)) DX10_ahead_0 2 rfl
theorem dX10_ahead_5 : decode cX10_ahead 5 = .ok (.sipush 200, 3) := dAt (x := (5, .sipush 200, 3)) DX10_ahead_0 3 rfl
theorem dX10_ahead_8 : decode cX10_ahead 8 = .ok (.if_icmp .le 5, 3) := dAt (x := (8, .if_icmp .le 5, 3)) DX10_ahead_0 4 rfl
theorem dX10_ahead_11 : decode cX10_ahead 11 = .ok (.iconst (-1), 1) := dAt (x := (11, .iconst (-1), 1)) DX10_ahead_0 5 rfl
theorem dX10_ahead_12 : decode cX10_ahead 12 = .ok (.ireturn, 1) := dAt (x := (12, .ireturn, 1)) DX10_ahead_0 6 rfl
theorem dX10_ahead_13 : decode cX10_ahead 13 = .ok (.aload_n 0, 1) := dAt (x := (13, .aload_n 0, 1)) DX10_ahead_0 7 rfl
theorem dX10_ahead_14 : decode cX10_ahead 14 = .ok (.getfield 32, 3) := dAt (x := (14, .getfield 32, 3)) DX10_ahead_0 8 rfl
theorem dX10_ahead_17 : decode cX10_ahead 17 = .ok (.aload_n 0, 1) := dAt (x := (17, .aload_n 0, 1)) DX10_ahead_0 9 rfl
theorem dX10_ahead_18 : decode cX10_ahead 18 = .ok (.getfield 28, 3) := dAt (x := (18, .getfield 28, 3)) DX10_ahead_0 10 rfl
theorem dX10_ahead_21 : decode cX10_ahead 21 = .ok (.invokevirtual 173, 3) := dAt (x := (21, .invokevirtual 173, 3)) DX10_ahead_0 11 rfl
theorem dX10_ahead_24 : decode cX10_ahead 24 = .ok (.aload_n 0, 1) := dAt (x := (24, .aload_n 0, 1)) DX10_ahead_0 12 rfl
theorem dX10_ahead_25 : decode cX10_ahead 25 = .ok (.getfield 41, 3) := dAt (x := (25, .getfield 41, 3)) DX10_ahead_0 13 rfl
theorem dX10_ahead_28 : decode cX10_ahead 28 = .ok (.invokevirtual 151, 3) := dAt (x := (28, .invokevirtual 151, 3)) DX10_ahead_0 14 rfl
theorem dX10_ahead_31 : decode cX10_ahead 31 = .ok (.aload_n 0, 1) := dAt (x := (31, .aload_n 0, 1)) DX10_ahead_0 15 rfl
theorem dX10_ahead_32 : decode cX10_ahead 32 = .ok (.getfield 41, 3) := dAt (x := (32, .getfield 41, 3)) DX10_ahead_0 16 rfl
theorem dX10_ahead_35 : decode cX10_ahead 35 = .ok (.aload_n 0, 1) := dAt (x := (35, .aload_n 0, 1)) DX10_ahead_0 17 rfl
theorem dX10_ahead_36 : decode cX10_ahead 36 = .ok (.getfield 21, 3) := dAt (x := (36, .getfield 21, 3)) DX10_ahead_0 18 rfl
theorem dX10_ahead_39 : decode cX10_ahead 39 = .ok (.aload_n 0, 1) := dAt (x := (39, .aload_n 0, 1)) DX10_ahead_0 19 rfl
theorem dX10_ahead_40 : decode cX10_ahead 40 = .ok (.getfield 32, 3) := dAt (x := (40, .getfield 32, 3)) DX10_ahead_0 20 rfl
theorem dX10_ahead_43 : decode cX10_ahead 43 = .ok (.iload_n 1, 1) := dAt (x := (43, .iload_n 1, 1)) DX10_ahead_0 21 rfl
theorem dX10_ahead_44 : decode cX10_ahead 44 = .ok (.invokevirtual 169, 3) := dAt (x := (44, .invokevirtual 169, 3)) DX10_ahead_0 22 rfl
theorem dX10_ahead_47 : decode cX10_ahead 47 = .ok (.iload_n 2, 1) := dAt (x := (47, .iload_n 2, 1)) DX10_ahead_0 23 rfl
theorem dX10_ahead_48 : decode cX10_ahead 48 = .ok (.tableswitch 98 0 4 #[36, 47, 63, 79, 90], 36) := dAt (x := (48, .tableswitch 98 0 4 #[36, 47, 63, 79, 90], 36)) DX10_ahead_0 24 rfl
theorem dX10_ahead_84 : decode cX10_ahead 84 = .ok (.aload_n 0, 1) := dAt (x := (84, .aload_n 0, 1)) DX10_ahead_0 25 rfl
theorem dX10_ahead_85 : decode cX10_ahead 85 = .ok (.getfield 32, 3) := dAt (x := (85, .getfield 32, 3)) DX10_ahead_0 26 rfl
theorem dX10_ahead_88 : decode cX10_ahead 88 = .ok (.getfield 120, 3) := dAt (x := (88, .getfield 120, 3)) DX10_ahead_0 27 rfl
theorem dX10_ahead_91 : decode cX10_ahead 91 = .ok (.invokestatic 158, 3) := dAt (x := (91, .invokestatic 158, 3)) DX10_ahead_0 28 rfl
theorem dX10_ahead_94 : decode cX10_ahead 94 = .ok (.ireturn, 1) := dAt (x := (94, .ireturn, 1)) DX10_ahead_0 29 rfl
theorem dX10_ahead_95 : decode cX10_ahead 95 = .ok (.aload_n 0, 1) := dAt (x := (95, .aload_n 0, 1)) DX10_ahead_0 30 rfl
theorem dX10_ahead_96 : decode cX10_ahead 96 = .ok (.getfield 32, 3) := dAt (x := (96, .getfield 32, 3)) DX10_ahead_0 31 rfl
theorem dX10_ahead_99 : decode cX10_ahead 99 = .ok (.getfield 177, 3) := dAt (x := (99, .getfield 177, 3)) DX10_ahead_0 32 rfl
theorem dX10_ahead_102 : decode cX10_ahead 102 = .ok (.aload_n 0, 1) := dAt (x := (102, .aload_n 0, 1)) DX10_ahead_0 33 rfl
theorem dX10_ahead_103 : decode cX10_ahead 103 = .ok (.getfield 28, 3) := dAt (x := (103, .getfield 28, 3)) DX10_ahead_0 34 rfl
theorem dX10_ahead_106 : decode cX10_ahead 106 = .ok (.getfield 177, 3) := dAt (x := (106, .getfield 177, 3)) DX10_ahead_0 35 rfl
theorem dX10_ahead_109 : decode cX10_ahead 109 = .ok (.isub, 1) := dAt (x := (109, .isub, 1)) DX10_ahead_0 36 rfl
theorem dX10_ahead_110 : decode cX10_ahead 110 = .ok (.ireturn, 1) := dAt (x := (110, .ireturn, 1)) DX10_ahead_0 37 rfl
theorem dX10_ahead_111 : decode cX10_ahead 111 = .ok (.aload_n 0, 1) := dAt (x := (111, .aload_n 0, 1)) DX10_ahead_0 38 rfl
theorem dX10_ahead_112 : decode cX10_ahead 112 = .ok (.getfield 32, 3) := dAt (x := (112, .getfield 32, 3)) DX10_ahead_0 39 rfl
theorem dX10_ahead_115 : decode cX10_ahead 115 = .ok (.getfield 180, 3) := dAt (x := (115, .getfield 180, 3)) DX10_ahead_0 40 rfl
theorem dX10_ahead_118 : decode cX10_ahead 118 = .ok (.aload_n 0, 1) := dAt (x := (118, .aload_n 0, 1)) DX10_ahead_0 41 rfl
theorem dX10_ahead_119 : decode cX10_ahead 119 = .ok (.getfield 28, 3) := dAt (x := (119, .getfield 28, 3)) DX10_ahead_0 42 rfl
theorem dX10_ahead_122 : decode cX10_ahead 122 = .ok (.getfield 180, 3) := dAt (x := (122, .getfield 180, 3)) DX10_ahead_0 43 rfl
theorem dX10_ahead_125 : decode cX10_ahead 125 = .ok (.isub, 1) := dAt (x := (125, .isub, 1)) DX10_ahead_0 44 rfl
theorem dX10_ahead_126 : decode cX10_ahead 126 = .ok (.ireturn, 1) := dAt (x := (126, .ireturn, 1)) DX10_ahead_0 45 rfl
theorem dX10_ahead_127 : decode cX10_ahead 127 = .ok (.aload_n 0, 1) := dAt (x := (127, .aload_n 0, 1)) DX10_ahead_0 46 rfl
theorem dX10_ahead_128 : decode cX10_ahead 128 = .ok (.getfield 32, 3) := dAt (x := (128, .getfield 32, 3)) DX10_ahead_0 47 rfl
theorem dX10_ahead_131 : decode cX10_ahead 131 = .ok (.getfield 123, 3) := dAt (x := (131, .getfield 123, 3)) DX10_ahead_0 48 rfl
theorem dX10_ahead_134 : decode cX10_ahead 134 = .ok (.invokestatic 158, 3) := dAt (x := (134, .invokestatic 158, 3)) DX10_ahead_0 49 rfl
theorem dX10_ahead_137 : decode cX10_ahead 137 = .ok (.ireturn, 1) := dAt (x := (137, .ireturn, 1)) DX10_ahead_0 50 rfl
theorem dX10_ahead_138 : decode cX10_ahead 138 = .ok (.aload_n 0, 1) := dAt (x := (138, .aload_n 0, 1)) DX10_ahead_0 51 rfl
theorem dX10_ahead_139 : decode cX10_ahead 139 = .ok (.getfield 32, 3) := dAt (x := (139, .getfield 32, 3)) DX10_ahead_0 52 rfl
theorem dX10_ahead_142 : decode cX10_ahead 142 = .ok (.getfield 120, 3) := dAt (x := (142, .getfield 120, 3)) DX10_ahead_0 53 rfl
theorem dX10_ahead_145 : decode cX10_ahead 145 = .ok (.ireturn, 1) := dAt (x := (145, .ireturn, 1)) DX10_ahead_0 54 rfl
theorem dX10_ahead_146 : decode cX10_ahead 146 = .ok (.iconst (-1), 1) := dAt (x := (146, .iconst (-1), 1)) DX10_ahead_0 55 rfl
theorem dX10_ahead_147 : decode cX10_ahead 147 = .ok (.ireturn, 1) := dAt (x := (147, .ireturn, 1)) DX10_ahead_0 56 rfl
def lDX10_when_0 : List (Nat × Instr × Nat) := [(0, .aload_n 0, 1), (1, .getfield 21, 3), (4, .iload_n 1, 1), (5, .invokevirtual 110, 3), (8, .ifCond .ne 5, 3), (11, .iconst (-1), 1), (12, .ireturn, 1), (13, .aload_n 0, 1), (14, .getfield 32, 3), (17, .aload_n 0, 1), (18, .getfield 28, 3), (21, .invokevirtual 173, 3), (24, .aload_n 0, 1), (25, .getfield 41, 3), (28, .invokevirtual 151, 3), (31, .iconst 1, 1), (32, .istore_n 2, 1), (33, .iload_n 2, 1), (34, .sipush 199, 3), (37, .if_icmp .gt 49, 3), (40, .aload_n 0, 1), (41, .getfield 41, 3), (44, .aload_n 0, 1), (45, .getfield 21, 3), (48, .aload_n 0, 1), (49, .getfield 32, 3), (52, .iconst 1, 1), (53, .invokevirtual 169, 3), (56, .aload_n 0, 1), (57, .getfield 32, 3), (60, .getfield 120, 3), (63, .aload_n 0, 1), (64, .getfield 28, 3), (67, .getfield 120, 3), (70, .ixor, 1), (71, .iload_n 1, 1), (72, .ishr, 1), (73, .iconst 1, 1), (74, .iand, 1), (75, .ifCond .eq 5, 3), (78, .iload_n 2, 1), (79, .ireturn, 1), (80, .iinc 2 1, 3), (83, .goto (-50), 3), (86, .bipush (-2), 2), (88, .ireturn, 1)]
theorem DX10_when_0 : dAll cX10_when lDX10_when_0 = true := by decide +kernel
theorem dX10_when_0 : decode cX10_when 0 = .ok (.aload_n 0, 1) := dAt (x := (0, .aload_n 0, 1)) DX10_when_0 0 rfl
theorem dX10_when_1 : decode cX10_when 1 = .ok (.getfield 21, 3) := dAt (x := (1, .getfield 21, 3)) DX10_when_0 1 rfl
theorem dX10_when_4 : decode cX10_when 4 = .ok (.iload_n 1, 1) := dAt (x := (4, .iload_n 1, 1)) DX10_when_0 2 rfl
theorem dX10_when_5 : decode cX10_when 5 = .ok (.invokevirtual 110, 3) := dAt (x := (5, .invokevirtual 110, 3)) DX10_when_0 3 rfl
theorem dX10_when_8 : decode cX10_when 8 = .ok (.ifCond .ne 5, 3) := dAt (x := (8, .ifCond .ne 5, 3)) DX10_when_0 4 rfl
theorem dX10_when_11 : decode cX10_when 11 = .ok (.iconst (-1), 1) := dAt (x := (11, .iconst (-1), 1)) DX10_when_0 5 rfl
theorem dX10_when_12 : decode cX10_when 12 = .ok (.ireturn, 1) := dAt (x := (12, .ireturn, 1)) DX10_when_0 6 rfl
theorem dX10_when_13 : decode cX10_when 13 = .ok (.aload_n 0, 1) := dAt (x := (13, .aload_n 0, 1)) DX10_when_0 7 rfl
theorem dX10_when_14 : decode cX10_when 14 = .ok (.getfield 32, 3) := dAt (x := (14, .getfield 32, 3)) DX10_when_0 8 rfl
theorem dX10_when_17 : decode cX10_when 17 = .ok (.aload_n 0, 1) := dAt (x := (17, .aload_n 0, 1)) DX10_when_0 9 rfl
theorem dX10_when_18 : decode cX10_when 18 = .ok (.getfield 28, 3) := dAt (x := (18, .getfield 28, 3)) DX10_when_0 10 rfl
theorem dX10_when_21 : decode cX10_when 21 = .ok (.invokevirtual 173, 3) := dAt (x := (21, .invokevirtual 173, 3)) DX10_when_0 11 rfl
theorem dX10_when_24 : decode cX10_when 24 = .ok (.aload_n 0, 1) := dAt (x := (24, .aload_n 0, 1)) DX10_when_0 12 rfl
theorem dX10_when_25 : decode cX10_when 25 = .ok (.getfield 41, 3) := dAt (x := (25, .getfield 41, 3)) DX10_when_0 13 rfl
theorem dX10_when_28 : decode cX10_when 28 = .ok (.invokevirtual 151, 3) := dAt (x := (28, .invokevirtual 151, 3)) DX10_when_0 14 rfl
theorem dX10_when_31 : decode cX10_when 31 = .ok (.iconst 1, 1) := dAt (x := (31, .iconst 1, 1)) DX10_when_0 15 rfl
theorem dX10_when_32 : decode cX10_when 32 = .ok (.istore_n 2, 1) := dAt (x := (32, .istore_n 2, 1)) DX10_when_0 16 rfl
theorem dX10_when_33 : decode cX10_when 33 = .ok (.iload_n 2, 1) := dAt (x := (33, .iload_n 2, 1)) DX10_when_0 17 rfl
theorem dX10_when_34 : decode cX10_when 34 = .ok (.sipush 199, 3) := dAt (x := (34, .sipush 199, 3)) DX10_when_0 18 rfl
theorem dX10_when_37 : decode cX10_when 37 = .ok (.if_icmp .gt 49, 3) := dAt (x := (37, .if_icmp .gt 49, 3)) DX10_when_0 19 rfl
theorem dX10_when_40 : decode cX10_when 40 = .ok (.aload_n 0, 1) := dAt (x := (40, .aload_n 0, 1)) DX10_when_0 20 rfl
theorem dX10_when_41 : decode cX10_when 41 = .ok (.getfield 41, 3) := dAt (x := (41, .getfield 41, 3)) DX10_when_0 21 rfl
theorem dX10_when_44 : decode cX10_when 44 = .ok (.aload_n 0, 1) := dAt (x := (44, .aload_n 0, 1)) DX10_when_0 22 rfl
theorem dX10_when_45 : decode cX10_when 45 = .ok (.getfield 21, 3) := dAt (x := (45, .getfield 21, 3)) DX10_when_0 23 rfl
theorem dX10_when_48 : decode cX10_when 48 = .ok (.aload_n 0, 1) := dAt (x := (48, .aload_n 0, 1)) DX10_when_0 24 rfl
theorem dX10_when_49 : decode cX10_when 49 = .ok (.getfield 32, 3) := dAt (x := (49, .getfield 32, 3)) DX10_when_0 25 rfl
theorem dX10_when_52 : decode cX10_when 52 = .ok (.iconst 1, 1) := dAt (x := (52, .iconst 1, 1)) DX10_when_0 26 rfl
theorem dX10_when_53 : decode cX10_when 53 = .ok (.invokevirtual 169, 3) := dAt (x := (53, .invokevirtual 169, 3)) DX10_when_0 27 rfl
theorem dX10_when_56 : decode cX10_when 56 = .ok (.aload_n 0, 1) := dAt (x := (56, .aload_n 0, 1)) DX10_when_0 28 rfl
theorem dX10_when_57 : decode cX10_when 57 = .ok (.getfield 32, 3) := dAt (x := (57, .getfield 32, 3)) DX10_when_0 29 rfl
theorem dX10_when_60 : decode cX10_when 60 = .ok (.getfield 120, 3) := dAt (x := (60, .getfield 120, 3)) DX10_when_0 30 rfl
theorem dX10_when_63 : decode cX10_when 63 = .ok (.aload_n 0, 1) := dAt (x := (63, .aload_n 0, 1)) DX10_when_0 31 rfl
theorem dX10_when_64 : decode cX10_when 64 = .ok (.getfield 28, 3) := dAt (x := (64, .getfield 28, 3)) DX10_when_0 32 rfl
theorem dX10_when_67 : decode cX10_when 67 = .ok (.getfield 120, 3) := dAt (x := (67, .getfield 120, 3)) DX10_when_0 33 rfl
theorem dX10_when_70 : decode cX10_when 70 = .ok (.ixor, 1) := dAt (x := (70, .ixor, 1)) DX10_when_0 34 rfl
theorem dX10_when_71 : decode cX10_when 71 = .ok (.iload_n 1, 1) := dAt (x := (71, .iload_n 1, 1)) DX10_when_0 35 rfl
theorem dX10_when_72 : decode cX10_when 72 = .ok (.ishr, 1) := dAt (x := (72, .ishr, 1)) DX10_when_0 36 rfl
theorem dX10_when_73 : decode cX10_when 73 = .ok (.iconst 1, 1) := dAt (x := (73, .iconst 1, 1)) DX10_when_0 37 rfl
theorem dX10_when_74 : decode cX10_when 74 = .ok (.iand, 1) := dAt (x := (74, .iand, 1)) DX10_when_0 38 rfl
theorem dX10_when_75 : decode cX10_when 75 = .ok (.ifCond .eq 5, 3) := dAt (x := (75, .ifCond .eq 5, 3)) DX10_when_0 39 rfl
theorem dX10_when_78 : decode cX10_when 78 = .ok (.iload_n 2, 1) := dAt (x := (78, .iload_n 2, 1)) DX10_when_0 40 rfl
theorem dX10_when_79 : decode cX10_when 79 = .ok (.ireturn, 1) := dAt (x := (79, .ireturn, 1)) DX10_when_0 41 rfl
theorem dX10_when_80 : decode cX10_when 80 = .ok (.iinc 2 1, 3) := dAt (x := (80, .iinc 2 1, 3)) DX10_when_0 42 rfl
theorem dX10_when_83 : decode cX10_when 83 = .ok (.goto (-50), 3) := dAt (x := (83, .goto (-50), 3)) DX10_when_0 43 rfl
theorem dX10_when_86 : decode cX10_when 86 = .ok (.bipush (-2), 2) := dAt (x := (86, .bipush (-2), 2)) DX10_when_0 44 rfl
theorem dX10_when_88 : decode cX10_when 88 = .ok (.ireturn, 1) := dAt (x := (88, .ireturn, 1)) DX10_when_0 45 rfl
def lDX10_fewest_0 : List (Nat × Instr × Nat) := [(0, .aload_n 0, 1), (1, .getfield 21, 3), (4, .iload_n 1, 1), (5, .invokevirtual 138, 3), (8, .ifCond .ne 5, 3), (11, .iconst (-1), 1), (12, .ireturn, 1), (13, .aload_n 0, 1), (14, .invokevirtual 183, 3), (17, .aload_n 0, 1), (18, .getfield 55, 3), (21, .iload_n 1, 1), (22, .invokevirtual 186, 3), (25, .istore_n 2, 1), (26, .iload_n 2, 1), (27, .iconst (-1), 1), (28, .if_icmp .ne 8, 3), (31, .bipush (-2), 2), (33, .goto 4, 3), (36, .iload_n 2, 1), (37, .ireturn, 1)]
theorem DX10_fewest_0 : dAll cX10_fewest lDX10_fewest_0 = true := by decide +kernel
theorem dX10_fewest_0 : decode cX10_fewest 0 = .ok (.aload_n 0, 1) := dAt (x := (0, .aload_n 0, 1)) DX10_fewest_0 0 rfl
theorem dX10_fewest_1 : decode cX10_fewest 1 = .ok (.getfield 21, 3) := dAt (x := (1, .getfield 21, 3)) DX10_fewest_0 1 rfl
theorem dX10_fewest_4 : decode cX10_fewest 4 = .ok (.iload_n 1, 1) := dAt (x := (4, .iload_n 1, 1)) DX10_fewest_0 2 rfl
theorem dX10_fewest_5 : decode cX10_fewest 5 = .ok (.invokevirtual 138, 3) := dAt (x := (5, .invokevirtual 138, 3)) DX10_fewest_0 3 rfl
theorem dX10_fewest_8 : decode cX10_fewest 8 = .ok (.ifCond .ne 5, 3) := dAt (x := (8, .ifCond .ne 5, 3)) DX10_fewest_0 4 rfl
theorem dX10_fewest_11 : decode cX10_fewest 11 = .ok (.iconst (-1), 1) := dAt (x := (11, .iconst (-1), 1)) DX10_fewest_0 5 rfl
theorem dX10_fewest_12 : decode cX10_fewest 12 = .ok (.ireturn, 1) := dAt (x := (12, .ireturn, 1)) DX10_fewest_0 6 rfl
theorem dX10_fewest_13 : decode cX10_fewest 13 = .ok (.aload_n 0, 1) := dAt (x := (13, .aload_n 0, 1)) DX10_fewest_0 7 rfl
theorem dX10_fewest_14 : decode cX10_fewest 14 = .ok (.invokevirtual 183, 3) := dAt (x := (14, .invokevirtual 183, 3)) DX10_fewest_0 8 rfl
theorem dX10_fewest_17 : decode cX10_fewest 17 = .ok (.aload_n 0, 1) := dAt (x := (17, .aload_n 0, 1)) DX10_fewest_0 9 rfl
theorem dX10_fewest_18 : decode cX10_fewest 18 = .ok (.getfield 55, 3) := dAt (x := (18, .getfield 55, 3)) DX10_fewest_0 10 rfl
theorem dX10_fewest_21 : decode cX10_fewest 21 = .ok (.iload_n 1, 1) := dAt (x := (21, .iload_n 1, 1)) DX10_fewest_0 11 rfl
theorem dX10_fewest_22 : decode cX10_fewest 22 = .ok (.invokevirtual 186, 3) := dAt (x := (22, .invokevirtual 186, 3)) DX10_fewest_0 12 rfl
theorem dX10_fewest_25 : decode cX10_fewest 25 = .ok (.istore_n 2, 1) := dAt (x := (25, .istore_n 2, 1)) DX10_fewest_0 13 rfl
theorem dX10_fewest_26 : decode cX10_fewest 26 = .ok (.iload_n 2, 1) := dAt (x := (26, .iload_n 2, 1)) DX10_fewest_0 14 rfl
theorem dX10_fewest_27 : decode cX10_fewest 27 = .ok (.iconst (-1), 1) := dAt (x := (27, .iconst (-1), 1)) DX10_fewest_0 15 rfl
theorem dX10_fewest_28 : decode cX10_fewest 28 = .ok (.if_icmp .ne 8, 3) := dAt (x := (28, .if_icmp .ne 8, 3)) DX10_fewest_0 16 rfl
theorem dX10_fewest_31 : decode cX10_fewest 31 = .ok (.bipush (-2), 2) := dAt (x := (31, .bipush (-2), 2)) DX10_fewest_0 17 rfl
theorem dX10_fewest_33 : decode cX10_fewest 33 = .ok (.goto 4, 3) := dAt (x := (33, .goto 4, 3)) DX10_fewest_0 18 rfl
theorem dX10_fewest_36 : decode cX10_fewest 36 = .ok (.iload_n 2, 1) := dAt (x := (36, .iload_n 2, 1)) DX10_fewest_0 19 rfl
theorem dX10_fewest_37 : decode cX10_fewest 37 = .ok (.ireturn, 1) := dAt (x := (37, .ireturn, 1)) DX10_fewest_0 20 rfl
def lDX10_first_0 : List (Nat × Instr × Nat) := [(0, .aload_n 0, 1), (1, .getfield 21, 3), (4, .iload_n 1, 1), (5, .invokevirtual 138, 3), (8, .ifCond .ne 5, 3), (11, .iconst (-1), 1), (12, .ireturn, 1), (13, .aload_n 0, 1), (14, .invokevirtual 183, 3), (17, .aload_n 0, 1), (18, .getfield 55, 3), (21, .iload_n 1, 1), (22, .invokevirtual 189, 3), (25, .ireturn, 1)]
theorem DX10_first_0 : dAll cX10_first lDX10_first_0 = true := by decide +kernel
theorem dX10_first_0 : decode cX10_first 0 = .ok (.aload_n 0, 1) := dAt (x := (0, .aload_n 0, 1)) DX10_first_0 0 rfl
theorem dX10_first_1 : decode cX10_first 1 = .ok (.getfield 21, 3) := dAt (x := (1, .getfield 21, 3)) DX10_first_0 1 rfl
theorem dX10_first_4 : decode cX10_first 4 = .ok (.iload_n 1, 1) := dAt (x := (4, .iload_n 1, 1)) DX10_first_0 2 rfl
theorem dX10_first_5 : decode cX10_first 5 = .ok (.invokevirtual 138, 3) := dAt (x := (5, .invokevirtual 138, 3)) DX10_first_0 3 rfl
theorem dX10_first_8 : decode cX10_first 8 = .ok (.ifCond .ne 5, 3) := dAt (x := (8, .ifCond .ne 5, 3)) DX10_first_0 4 rfl
theorem dX10_first_11 : decode cX10_first 11 = .ok (.iconst (-1), 1) := dAt (x := (11, .iconst (-1), 1)) DX10_first_0 5 rfl
theorem dX10_first_12 : decode cX10_first 12 = .ok (.ireturn, 1) := dAt (x := (12, .ireturn, 1)) DX10_first_0 6 rfl
theorem dX10_first_13 : decode cX10_first 13 = .ok (.aload_n 0, 1) := dAt (x := (13, .aload_n 0, 1)) DX10_first_0 7 rfl
theorem dX10_first_14 : decode cX10_first 14 = .ok (.invokevirtual 183, 3) := dAt (x := (14, .invokevirtual 183, 3)) DX10_first_0 8 rfl
theorem dX10_first_17 : decode cX10_first 17 = .ok (.aload_n 0, 1) := dAt (x := (17, .aload_n 0, 1)) DX10_first_0 9 rfl
theorem dX10_first_18 : decode cX10_first 18 = .ok (.getfield 55, 3) := dAt (x := (18, .getfield 55, 3)) DX10_first_0 10 rfl
theorem dX10_first_21 : decode cX10_first 21 = .ok (.iload_n 1, 1) := dAt (x := (21, .iload_n 1, 1)) DX10_first_0 11 rfl
theorem dX10_first_22 : decode cX10_first 22 = .ok (.invokevirtual 189, 3) := dAt (x := (22, .invokevirtual 189, 3)) DX10_first_0 12 rfl
theorem dX10_first_25 : decode cX10_first 25 = .ok (.ireturn, 1) := dAt (x := (25, .ireturn, 1)) DX10_first_0 13 rfl
def lDX10_ways_0 : List (Nat × Instr × Nat) := [(0, .aload_n 0, 1), (1, .getfield 21, 3), (4, .iload_n 1, 1), (5, .invokevirtual 138, 3), (8, .ifCond .ne 5, 3), (11, .iconst (-1), 1), (12, .ireturn, 1), (13, .aload_n 0, 1), (14, .invokevirtual 183, 3), (17, .aload_n 0, 1), (18, .getfield 55, 3), (21, .iload_n 1, 1), (22, .invokevirtual 192, 3), (25, .ireturn, 1)]
theorem DX10_ways_0 : dAll cX10_ways lDX10_ways_0 = true := by decide +kernel
theorem dX10_ways_0 : decode cX10_ways 0 = .ok (.aload_n 0, 1) := dAt (x := (0, .aload_n 0, 1)) DX10_ways_0 0 rfl
theorem dX10_ways_1 : decode cX10_ways 1 = .ok (.getfield 21, 3) := dAt (x := (1, .getfield 21, 3)) DX10_ways_0 1 rfl
theorem dX10_ways_4 : decode cX10_ways 4 = .ok (.iload_n 1, 1) := dAt (x := (4, .iload_n 1, 1)) DX10_ways_0 2 rfl
theorem dX10_ways_5 : decode cX10_ways 5 = .ok (.invokevirtual 138, 3) := dAt (x := (5, .invokevirtual 138, 3)) DX10_ways_0 3 rfl
theorem dX10_ways_8 : decode cX10_ways 8 = .ok (.ifCond .ne 5, 3) := dAt (x := (8, .ifCond .ne 5, 3)) DX10_ways_0 4 rfl
theorem dX10_ways_11 : decode cX10_ways 11 = .ok (.iconst (-1), 1) := dAt (x := (11, .iconst (-1), 1)) DX10_ways_0 5 rfl
theorem dX10_ways_12 : decode cX10_ways 12 = .ok (.ireturn, 1) := dAt (x := (12, .ireturn, 1)) DX10_ways_0 6 rfl
theorem dX10_ways_13 : decode cX10_ways 13 = .ok (.aload_n 0, 1) := dAt (x := (13, .aload_n 0, 1)) DX10_ways_0 7 rfl
theorem dX10_ways_14 : decode cX10_ways 14 = .ok (.invokevirtual 183, 3) := dAt (x := (14, .invokevirtual 183, 3)) DX10_ways_0 8 rfl
theorem dX10_ways_17 : decode cX10_ways 17 = .ok (.aload_n 0, 1) := dAt (x := (17, .aload_n 0, 1)) DX10_ways_0 9 rfl
theorem dX10_ways_18 : decode cX10_ways 18 = .ok (.getfield 55, 3) := dAt (x := (18, .getfield 55, 3)) DX10_ways_0 10 rfl
theorem dX10_ways_21 : decode cX10_ways 21 = .ok (.iload_n 1, 1) := dAt (x := (21, .iload_n 1, 1)) DX10_ways_0 11 rfl
theorem dX10_ways_22 : decode cX10_ways 22 = .ok (.invokevirtual 192, 3) := dAt (x := (22, .invokevirtual 192, 3)) DX10_ways_0 12 rfl
theorem dX10_ways_25 : decode cX10_ways 25 = .ok (.ireturn, 1) := dAt (x := (25, .ireturn, 1)) DX10_ways_0 13 rfl
def lDX10_reach_0 : List (Nat × Instr × Nat) := [(0, .aload_n 0, 1), (1, .invokevirtual 183, 3), (4, .aload_n 0, 1), (5, .getfield 55, 3), (8, .getfield 195, 3), (11, .ireturn, 1)]
theorem DX10_reach_0 : dAll cX10_reach lDX10_reach_0 = true := by decide +kernel
theorem dX10_reach_0 : decode cX10_reach 0 = .ok (.aload_n 0, 1) := dAt (x := (0, .aload_n 0, 1)) DX10_reach_0 0 rfl
theorem dX10_reach_1 : decode cX10_reach 1 = .ok (.invokevirtual 183, 3) := dAt (x := (1, .invokevirtual 183, 3)) DX10_reach_0 1 rfl
theorem dX10_reach_4 : decode cX10_reach 4 = .ok (.aload_n 0, 1) := dAt (x := (4, .aload_n 0, 1)) DX10_reach_0 2 rfl
theorem dX10_reach_5 : decode cX10_reach 5 = .ok (.getfield 55, 3) := dAt (x := (5, .getfield 55, 3)) DX10_reach_0 3 rfl
theorem dX10_reach_8 : decode cX10_reach 8 = .ok (.getfield 195, 3) := dAt (x := (8, .getfield 195, 3)) DX10_reach_0 4 rfl
theorem dX10_reach_11 : decode cX10_reach 11 = .ok (.ireturn, 1) := dAt (x := (11, .ireturn, 1)) DX10_reach_0 5 rfl
def lDX10_farthest_0 : List (Nat × Instr × Nat) := [(0, .iload_n 1, 1), (1, .ifCond .eq 10, 3), (4, .iload_n 1, 1), (5, .iconst 1, 1), (6, .if_icmp .eq 5, 3), (9, .iconst (-1), 1), (10, .ireturn, 1), (11, .aload_n 0, 1), (12, .invokevirtual 183, 3), (15, .aload_n 0, 1), (16, .getfield 55, 3), (19, .invokevirtual 198, 3), (22, .istore_n 2, 1), (23, .iload_n 1, 1), (24, .ifCond .ne 14, 3), (27, .aload_n 0, 1), (28, .getfield 55, 3), (31, .iload_n 2, 1), (32, .invokevirtual 186, 3), (35, .goto 4, 3), (38, .iload_n 2, 1), (39, .ireturn, 1)]
theorem DX10_farthest_0 : dAll cX10_farthest lDX10_farthest_0 = true := by decide +kernel
theorem dX10_farthest_0 : decode cX10_farthest 0 = .ok (.iload_n 1, 1) := dAt (x := (0, .iload_n 1, 1)) DX10_farthest_0 0 rfl
theorem dX10_farthest_1 : decode cX10_farthest 1 = .ok (.ifCond .eq 10, 3) := dAt (x := (1, .ifCond .eq 10, 3)) DX10_farthest_0 1 rfl
theorem dX10_farthest_4 : decode cX10_farthest 4 = .ok (.iload_n 1, 1) := dAt (x := (4, .iload_n 1, 1)) DX10_farthest_0 2 rfl
theorem dX10_farthest_5 : decode cX10_farthest 5 = .ok (.iconst 1, 1) := dAt (x := (5, .iconst 1, 1)) DX10_farthest_0 3 rfl
theorem dX10_farthest_6 : decode cX10_farthest 6 = .ok (.if_icmp .eq 5, 3) := dAt (x := (6, .if_icmp .eq 5, 3)) DX10_farthest_0 4 rfl
theorem dX10_farthest_9 : decode cX10_farthest 9 = .ok (.iconst (-1), 1) := dAt (x := (9, .iconst (-1), 1)) DX10_farthest_0 5 rfl
theorem dX10_farthest_10 : decode cX10_farthest 10 = .ok (.ireturn, 1) := dAt (x := (10, .ireturn, 1)) DX10_farthest_0 6 rfl
theorem dX10_farthest_11 : decode cX10_farthest 11 = .ok (.aload_n 0, 1) := dAt (x := (11, .aload_n 0, 1)) DX10_farthest_0 7 rfl
theorem dX10_farthest_12 : decode cX10_farthest 12 = .ok (.invokevirtual 183, 3) := dAt (x := (12, .invokevirtual 183, 3)) DX10_farthest_0 8 rfl
theorem dX10_farthest_15 : decode cX10_farthest 15 = .ok (.aload_n 0, 1) := dAt (x := (15, .aload_n 0, 1)) DX10_farthest_0 9 rfl
theorem dX10_farthest_16 : decode cX10_farthest 16 = .ok (.getfield 55, 3) := dAt (x := (16, .getfield 55, 3)) DX10_farthest_0 10 rfl
theorem dX10_farthest_19 : decode cX10_farthest 19 = .ok (.invokevirtual 198, 3) := dAt (x := (19, .invokevirtual 198, 3)) DX10_farthest_0 11 rfl
theorem dX10_farthest_22 : decode cX10_farthest 22 = .ok (.istore_n 2, 1) := dAt (x := (22, .istore_n 2, 1)) DX10_farthest_0 12 rfl
theorem dX10_farthest_23 : decode cX10_farthest 23 = .ok (.iload_n 1, 1) := dAt (x := (23, .iload_n 1, 1)) DX10_farthest_0 13 rfl
theorem dX10_farthest_24 : decode cX10_farthest 24 = .ok (.ifCond .ne 14, 3) := dAt (x := (24, .ifCond .ne 14, 3)) DX10_farthest_0 14 rfl
theorem dX10_farthest_27 : decode cX10_farthest 27 = .ok (.aload_n 0, 1) := dAt (x := (27, .aload_n 0, 1)) DX10_farthest_0 15 rfl
theorem dX10_farthest_28 : decode cX10_farthest 28 = .ok (.getfield 55, 3) := dAt (x := (28, .getfield 55, 3)) DX10_farthest_0 16 rfl
theorem dX10_farthest_31 : decode cX10_farthest 31 = .ok (.iload_n 2, 1) := dAt (x := (31, .iload_n 2, 1)) DX10_farthest_0 17 rfl
theorem dX10_farthest_32 : decode cX10_farthest 32 = .ok (.invokevirtual 186, 3) := dAt (x := (32, .invokevirtual 186, 3)) DX10_farthest_0 18 rfl
theorem dX10_farthest_35 : decode cX10_farthest 35 = .ok (.goto 4, 3) := dAt (x := (35, .goto 4, 3)) DX10_farthest_0 19 rfl
theorem dX10_farthest_38 : decode cX10_farthest 38 = .ok (.iload_n 2, 1) := dAt (x := (38, .iload_n 2, 1)) DX10_farthest_0 20 rfl
theorem dX10_farthest_39 : decode cX10_farthest 39 = .ok (.ireturn, 1) := dAt (x := (39, .ireturn, 1)) DX10_farthest_0 21 rfl
def lDX10_wide_0 : List (Nat × Instr × Nat) := [(0, .aload_n 0, 1), (1, .getfield 55, 3), (4, .aload_n 0, 1), (5, .getfield 21, 3), (8, .aload_n 0, 1), (9, .getfield 28, 3), (12, .getfield 123, 3), (15, .invokevirtual 202, 3), (18, .aload_n 0, 1), (19, .getfield 55, 3), (22, .aload_n 0, 1), (23, .getfield 28, 3), (26, .getfield 120, 3), (29, .invokevirtual 206, 3), (32, .ireturn, 1)]
theorem DX10_wide_0 : dAll cX10_wide lDX10_wide_0 = true := by decide +kernel
theorem dX10_wide_0 : decode cX10_wide 0 = .ok (.aload_n 0, 1) := dAt (x := (0, .aload_n 0, 1)) DX10_wide_0 0 rfl
theorem dX10_wide_1 : decode cX10_wide 1 = .ok (.getfield 55, 3) := dAt (x := (1, .getfield 55, 3)) DX10_wide_0 1 rfl
theorem dX10_wide_4 : decode cX10_wide 4 = .ok (.aload_n 0, 1) := dAt (x := (4, .aload_n 0, 1)) DX10_wide_0 2 rfl
theorem dX10_wide_5 : decode cX10_wide 5 = .ok (.getfield 21, 3) := dAt (x := (5, .getfield 21, 3)) DX10_wide_0 3 rfl
theorem dX10_wide_8 : decode cX10_wide 8 = .ok (.aload_n 0, 1) := dAt (x := (8, .aload_n 0, 1)) DX10_wide_0 4 rfl
theorem dX10_wide_9 : decode cX10_wide 9 = .ok (.getfield 28, 3) := dAt (x := (9, .getfield 28, 3)) DX10_wide_0 5 rfl
theorem dX10_wide_12 : decode cX10_wide 12 = .ok (.getfield 123, 3) := dAt (x := (12, .getfield 123, 3)) DX10_wide_0 6 rfl
theorem dX10_wide_15 : decode cX10_wide 15 = .ok (.invokevirtual 202, 3) := dAt (x := (15, .invokevirtual 202, 3)) DX10_wide_0 7 rfl
theorem dX10_wide_18 : decode cX10_wide 18 = .ok (.aload_n 0, 1) := dAt (x := (18, .aload_n 0, 1)) DX10_wide_0 8 rfl
theorem dX10_wide_19 : decode cX10_wide 19 = .ok (.getfield 55, 3) := dAt (x := (19, .getfield 55, 3)) DX10_wide_0 9 rfl
theorem dX10_wide_22 : decode cX10_wide 22 = .ok (.aload_n 0, 1) := dAt (x := (22, .aload_n 0, 1)) DX10_wide_0 10 rfl
theorem dX10_wide_23 : decode cX10_wide 23 = .ok (.getfield 28, 3) := dAt (x := (23, .getfield 28, 3)) DX10_wide_0 11 rfl
theorem dX10_wide_26 : decode cX10_wide 26 = .ok (.getfield 120, 3) := dAt (x := (26, .getfield 120, 3)) DX10_wide_0 12 rfl
theorem dX10_wide_29 : decode cX10_wide 29 = .ok (.invokevirtual 206, 3) := dAt (x := (29, .invokevirtual 206, 3)) DX10_wide_0 13 rfl
theorem dX10_wide_32 : decode cX10_wide 32 = .ok (.ireturn, 1) := dAt (x := (32, .ireturn, 1)) DX10_wide_0 14 rfl
def lDX10_parts_0 : List (Nat × Instr × Nat) := [(0, .aload_n 0, 1), (1, .getfield 55, 3), (4, .aload_n 0, 1), (5, .getfield 21, 3), (8, .aload_n 0, 1), (9, .getfield 28, 3), (12, .getfield 123, 3), (15, .invokevirtual 202, 3), (18, .aload_n 0, 1), (19, .getfield 55, 3), (22, .invokevirtual 209, 3), (25, .ireturn, 1)]
theorem DX10_parts_0 : dAll cX10_parts lDX10_parts_0 = true := by decide +kernel
theorem dX10_parts_0 : decode cX10_parts 0 = .ok (.aload_n 0, 1) := dAt (x := (0, .aload_n 0, 1)) DX10_parts_0 0 rfl
theorem dX10_parts_1 : decode cX10_parts 1 = .ok (.getfield 55, 3) := dAt (x := (1, .getfield 55, 3)) DX10_parts_0 1 rfl
theorem dX10_parts_4 : decode cX10_parts 4 = .ok (.aload_n 0, 1) := dAt (x := (4, .aload_n 0, 1)) DX10_parts_0 2 rfl
theorem dX10_parts_5 : decode cX10_parts 5 = .ok (.getfield 21, 3) := dAt (x := (5, .getfield 21, 3)) DX10_parts_0 3 rfl
theorem dX10_parts_8 : decode cX10_parts 8 = .ok (.aload_n 0, 1) := dAt (x := (8, .aload_n 0, 1)) DX10_parts_0 4 rfl
theorem dX10_parts_9 : decode cX10_parts 9 = .ok (.getfield 28, 3) := dAt (x := (9, .getfield 28, 3)) DX10_parts_0 5 rfl
theorem dX10_parts_12 : decode cX10_parts 12 = .ok (.getfield 123, 3) := dAt (x := (12, .getfield 123, 3)) DX10_parts_0 6 rfl
theorem dX10_parts_15 : decode cX10_parts 15 = .ok (.invokevirtual 202, 3) := dAt (x := (15, .invokevirtual 202, 3)) DX10_parts_0 7 rfl
theorem dX10_parts_18 : decode cX10_parts 18 = .ok (.aload_n 0, 1) := dAt (x := (18, .aload_n 0, 1)) DX10_parts_0 8 rfl
theorem dX10_parts_19 : decode cX10_parts 19 = .ok (.getfield 55, 3) := dAt (x := (19, .getfield 55, 3)) DX10_parts_0 9 rfl
theorem dX10_parts_22 : decode cX10_parts 22 = .ok (.invokevirtual 209, 3) := dAt (x := (22, .invokevirtual 209, 3)) DX10_parts_0 10 rfl
theorem dX10_parts_25 : decode cX10_parts 25 = .ok (.ireturn, 1) := dAt (x := (25, .ireturn, 1)) DX10_parts_0 11 rfl
def lDX10_past_0 : List (Nat × Instr × Nat) := [(0, .aload_n 0, 1), (1, .getfield 21, 3), (4, .iload_n 1, 1), (5, .invokevirtual 138, 3), (8, .ifCond .eq 18, 3), (11, .iload_n 2, 1), (12, .ifCond .lt 14, 3), (15, .iload_n 1, 1), (16, .aload_n 0, 1), (17, .getfield 28, 3), (20, .getfield 120, 3), (23, .if_icmp .ne 5, 3), (26, .iconst (-1), 1), (27, .ireturn, 1), (28, .aload_n 0, 1), (29, .getfield 55, 3), (32, .aload_n 0, 1), (33, .getfield 21, 3), (36, .aload_n 0, 1), (37, .getfield 28, 3), (40, .getfield 123, 3), (43, .invokevirtual 202, 3), (46, .aload_n 0, 1), (47, .getfield 55, 3), (50, .aload_n 0, 1), (51, .getfield 28, 3), (54, .getfield 120, 3), (57, .iload_n 1, 1), (58, .iload_n 2, 1), (59, .invokevirtual 212, 3), (62, .ireturn, 1)]
theorem DX10_past_0 : dAll cX10_past lDX10_past_0 = true := by decide +kernel
theorem dX10_past_0 : decode cX10_past 0 = .ok (.aload_n 0, 1) := dAt (x := (0, .aload_n 0, 1)) DX10_past_0 0 rfl
theorem dX10_past_1 : decode cX10_past 1 = .ok (.getfield 21, 3) := dAt (x := (1, .getfield 21, 3)) DX10_past_0 1 rfl
theorem dX10_past_4 : decode cX10_past 4 = .ok (.iload_n 1, 1) := dAt (x := (4, .iload_n 1, 1)) DX10_past_0 2 rfl
theorem dX10_past_5 : decode cX10_past 5 = .ok (.invokevirtual 138, 3) := dAt (x := (5, .invokevirtual 138, 3)) DX10_past_0 3 rfl
theorem dX10_past_8 : decode cX10_past 8 = .ok (.ifCond .eq 18, 3) := dAt (x := (8, .ifCond .eq 18, 3)) DX10_past_0 4 rfl
theorem dX10_past_11 : decode cX10_past 11 = .ok (.iload_n 2, 1) := dAt (x := (11, .iload_n 2, 1)) DX10_past_0 5 rfl
theorem dX10_past_12 : decode cX10_past 12 = .ok (.ifCond .lt 14, 3) := dAt (x := (12, .ifCond .lt 14, 3)) DX10_past_0 6 rfl
theorem dX10_past_15 : decode cX10_past 15 = .ok (.iload_n 1, 1) := dAt (x := (15, .iload_n 1, 1)) DX10_past_0 7 rfl
theorem dX10_past_16 : decode cX10_past 16 = .ok (.aload_n 0, 1) := dAt (x := (16, .aload_n 0, 1)) DX10_past_0 8 rfl
theorem dX10_past_17 : decode cX10_past 17 = .ok (.getfield 28, 3) := dAt (x := (17, .getfield 28, 3)) DX10_past_0 9 rfl
theorem dX10_past_20 : decode cX10_past 20 = .ok (.getfield 120, 3) := dAt (x := (20, .getfield 120, 3)) DX10_past_0 10 rfl
theorem dX10_past_23 : decode cX10_past 23 = .ok (.if_icmp .ne 5, 3) := dAt (x := (23, .if_icmp .ne 5, 3)) DX10_past_0 11 rfl
theorem dX10_past_26 : decode cX10_past 26 = .ok (.iconst (-1), 1) := dAt (x := (26, .iconst (-1), 1)) DX10_past_0 12 rfl
theorem dX10_past_27 : decode cX10_past 27 = .ok (.ireturn, 1) := dAt (x := (27, .ireturn, 1)) DX10_past_0 13 rfl
theorem dX10_past_28 : decode cX10_past 28 = .ok (.aload_n 0, 1) := dAt (x := (28, .aload_n 0, 1)) DX10_past_0 14 rfl
theorem dX10_past_29 : decode cX10_past 29 = .ok (.getfield 55, 3) := dAt (x := (29, .getfield 55, 3)) DX10_past_0 15 rfl
theorem dX10_past_32 : decode cX10_past 32 = .ok (.aload_n 0, 1) := dAt (x := (32, .aload_n 0, 1)) DX10_past_0 16 rfl
theorem dX10_past_33 : decode cX10_past 33 = .ok (.getfield 21, 3) := dAt (x := (33, .getfield 21, 3)) DX10_past_0 17 rfl
theorem dX10_past_36 : decode cX10_past 36 = .ok (.aload_n 0, 1) := dAt (x := (36, .aload_n 0, 1)) DX10_past_0 18 rfl
theorem dX10_past_37 : decode cX10_past 37 = .ok (.getfield 28, 3) := dAt (x := (37, .getfield 28, 3)) DX10_past_0 19 rfl
theorem dX10_past_40 : decode cX10_past 40 = .ok (.getfield 123, 3) := dAt (x := (40, .getfield 123, 3)) DX10_past_0 20 rfl
theorem dX10_past_43 : decode cX10_past 43 = .ok (.invokevirtual 202, 3) := dAt (x := (43, .invokevirtual 202, 3)) DX10_past_0 21 rfl
theorem dX10_past_46 : decode cX10_past 46 = .ok (.aload_n 0, 1) := dAt (x := (46, .aload_n 0, 1)) DX10_past_0 22 rfl
theorem dX10_past_47 : decode cX10_past 47 = .ok (.getfield 55, 3) := dAt (x := (47, .getfield 55, 3)) DX10_past_0 23 rfl
theorem dX10_past_50 : decode cX10_past 50 = .ok (.aload_n 0, 1) := dAt (x := (50, .aload_n 0, 1)) DX10_past_0 24 rfl
theorem dX10_past_51 : decode cX10_past 51 = .ok (.getfield 28, 3) := dAt (x := (51, .getfield 28, 3)) DX10_past_0 25 rfl
theorem dX10_past_54 : decode cX10_past 54 = .ok (.getfield 120, 3) := dAt (x := (54, .getfield 120, 3)) DX10_past_0 26 rfl
theorem dX10_past_57 : decode cX10_past 57 = .ok (.iload_n 1, 1) := dAt (x := (57, .iload_n 1, 1)) DX10_past_0 27 rfl
theorem dX10_past_58 : decode cX10_past 58 = .ok (.iload_n 2, 1) := dAt (x := (58, .iload_n 2, 1)) DX10_past_0 28 rfl
theorem dX10_past_59 : decode cX10_past 59 = .ok (.invokevirtual 212, 3) := dAt (x := (59, .invokevirtual 212, 3)) DX10_past_0 29 rfl
theorem dX10_past_62 : decode cX10_past 62 = .ok (.ireturn, 1) := dAt (x := (62, .ireturn, 1)) DX10_past_0 30 rfl
def lDX10_must_0 : List (Nat × Instr × Nat) := [(0, .aload_n 0, 1), (1, .getfield 21, 3), (4, .iload_n 1, 1), (5, .invokevirtual 138, 3), (8, .ifCond .ne 5, 3), (11, .iconst (-1), 1), (12, .ireturn, 1), (13, .aload_n 0, 1), (14, .getfield 55, 3), (17, .aload_n 0, 1), (18, .getfield 21, 3), (21, .aload_n 0, 1), (22, .getfield 28, 3), (25, .getfield 123, 3), (28, .invokevirtual 202, 3), (31, .aload_n 0, 1), (32, .getfield 55, 3), (35, .aload_n 0, 1), (36, .getfield 28, 3), (39, .getfield 120, 3), (42, .iload_n 1, 1), (43, .invokevirtual 216, 3), (46, .ireturn, 1)]
theorem DX10_must_0 : dAll cX10_must lDX10_must_0 = true := by decide +kernel
theorem dX10_must_0 : decode cX10_must 0 = .ok (.aload_n 0, 1) := dAt (x := (0, .aload_n 0, 1)) DX10_must_0 0 rfl
theorem dX10_must_1 : decode cX10_must 1 = .ok (.getfield 21, 3) := dAt (x := (1, .getfield 21, 3)) DX10_must_0 1 rfl
theorem dX10_must_4 : decode cX10_must 4 = .ok (.iload_n 1, 1) := dAt (x := (4, .iload_n 1, 1)) DX10_must_0 2 rfl
theorem dX10_must_5 : decode cX10_must 5 = .ok (.invokevirtual 138, 3) := dAt (x := (5, .invokevirtual 138, 3)) DX10_must_0 3 rfl
theorem dX10_must_8 : decode cX10_must 8 = .ok (.ifCond .ne 5, 3) := dAt (x := (8, .ifCond .ne 5, 3)) DX10_must_0 4 rfl
theorem dX10_must_11 : decode cX10_must 11 = .ok (.iconst (-1), 1) := dAt (x := (11, .iconst (-1), 1)) DX10_must_0 5 rfl
theorem dX10_must_12 : decode cX10_must 12 = .ok (.ireturn, 1) := dAt (x := (12, .ireturn, 1)) DX10_must_0 6 rfl
theorem dX10_must_13 : decode cX10_must 13 = .ok (.aload_n 0, 1) := dAt (x := (13, .aload_n 0, 1)) DX10_must_0 7 rfl
theorem dX10_must_14 : decode cX10_must 14 = .ok (.getfield 55, 3) := dAt (x := (14, .getfield 55, 3)) DX10_must_0 8 rfl
theorem dX10_must_17 : decode cX10_must 17 = .ok (.aload_n 0, 1) := dAt (x := (17, .aload_n 0, 1)) DX10_must_0 9 rfl
theorem dX10_must_18 : decode cX10_must 18 = .ok (.getfield 21, 3) := dAt (x := (18, .getfield 21, 3)) DX10_must_0 10 rfl
theorem dX10_must_21 : decode cX10_must 21 = .ok (.aload_n 0, 1) := dAt (x := (21, .aload_n 0, 1)) DX10_must_0 11 rfl
theorem dX10_must_22 : decode cX10_must 22 = .ok (.getfield 28, 3) := dAt (x := (22, .getfield 28, 3)) DX10_must_0 12 rfl
theorem dX10_must_25 : decode cX10_must 25 = .ok (.getfield 123, 3) := dAt (x := (25, .getfield 123, 3)) DX10_must_0 13 rfl
theorem dX10_must_28 : decode cX10_must 28 = .ok (.invokevirtual 202, 3) := dAt (x := (28, .invokevirtual 202, 3)) DX10_must_0 14 rfl
theorem dX10_must_31 : decode cX10_must 31 = .ok (.aload_n 0, 1) := dAt (x := (31, .aload_n 0, 1)) DX10_must_0 15 rfl
theorem dX10_must_32 : decode cX10_must 32 = .ok (.getfield 55, 3) := dAt (x := (32, .getfield 55, 3)) DX10_must_0 16 rfl
theorem dX10_must_35 : decode cX10_must 35 = .ok (.aload_n 0, 1) := dAt (x := (35, .aload_n 0, 1)) DX10_must_0 17 rfl
theorem dX10_must_36 : decode cX10_must 36 = .ok (.getfield 28, 3) := dAt (x := (36, .getfield 28, 3)) DX10_must_0 18 rfl
theorem dX10_must_39 : decode cX10_must 39 = .ok (.getfield 120, 3) := dAt (x := (39, .getfield 120, 3)) DX10_must_0 19 rfl
theorem dX10_must_42 : decode cX10_must 42 = .ok (.iload_n 1, 1) := dAt (x := (42, .iload_n 1, 1)) DX10_must_0 20 rfl
theorem dX10_must_43 : decode cX10_must 43 = .ok (.invokevirtual 216, 3) := dAt (x := (43, .invokevirtual 216, 3)) DX10_must_0 21 rfl
theorem dX10_must_46 : decode cX10_must 46 = .ok (.ireturn, 1) := dAt (x := (46, .ireturn, 1)) DX10_must_0 22 rfl
def lDX10_free_0 : List (Nat × Instr × Nat) := [(0, .aload_n 0, 1), (1, .getfield 21, 3), (4, .iload_n 1, 1), (5, .invokevirtual 110, 3), (8, .ifCond .ne 5, 3), (11, .iconst (-1), 1), (12, .ireturn, 1), (13, .aload_n 0, 1), (14, .invokevirtual 183, 3), (17, .aload_n 0, 1), (18, .getfield 55, 3), (21, .iload_n 1, 1), (22, .invokevirtual 219, 3), (25, .ireturn, 1)]
theorem DX10_free_0 : dAll cX10_free lDX10_free_0 = true := by decide +kernel
theorem dX10_free_0 : decode cX10_free 0 = .ok (.aload_n 0, 1) := dAt (x := (0, .aload_n 0, 1)) DX10_free_0 0 rfl
theorem dX10_free_1 : decode cX10_free 1 = .ok (.getfield 21, 3) := dAt (x := (1, .getfield 21, 3)) DX10_free_0 1 rfl
theorem dX10_free_4 : decode cX10_free 4 = .ok (.iload_n 1, 1) := dAt (x := (4, .iload_n 1, 1)) DX10_free_0 2 rfl
theorem dX10_free_5 : decode cX10_free 5 = .ok (.invokevirtual 110, 3) := dAt (x := (5, .invokevirtual 110, 3)) DX10_free_0 3 rfl
theorem dX10_free_8 : decode cX10_free 8 = .ok (.ifCond .ne 5, 3) := dAt (x := (8, .ifCond .ne 5, 3)) DX10_free_0 4 rfl
theorem dX10_free_11 : decode cX10_free 11 = .ok (.iconst (-1), 1) := dAt (x := (11, .iconst (-1), 1)) DX10_free_0 5 rfl
theorem dX10_free_12 : decode cX10_free 12 = .ok (.ireturn, 1) := dAt (x := (12, .ireturn, 1)) DX10_free_0 6 rfl
theorem dX10_free_13 : decode cX10_free 13 = .ok (.aload_n 0, 1) := dAt (x := (13, .aload_n 0, 1)) DX10_free_0 7 rfl
theorem dX10_free_14 : decode cX10_free 14 = .ok (.invokevirtual 183, 3) := dAt (x := (14, .invokevirtual 183, 3)) DX10_free_0 8 rfl
theorem dX10_free_17 : decode cX10_free 17 = .ok (.aload_n 0, 1) := dAt (x := (17, .aload_n 0, 1)) DX10_free_0 9 rfl
theorem dX10_free_18 : decode cX10_free 18 = .ok (.getfield 55, 3) := dAt (x := (18, .getfield 55, 3)) DX10_free_0 10 rfl
theorem dX10_free_21 : decode cX10_free 21 = .ok (.iload_n 1, 1) := dAt (x := (21, .iload_n 1, 1)) DX10_free_0 11 rfl
theorem dX10_free_22 : decode cX10_free 22 = .ok (.invokevirtual 219, 3) := dAt (x := (22, .invokevirtual 219, 3)) DX10_free_0 12 rfl
theorem dX10_free_25 : decode cX10_free 25 = .ok (.ireturn, 1) := dAt (x := (25, .ireturn, 1)) DX10_free_0 13 rfl
