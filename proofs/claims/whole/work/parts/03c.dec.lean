def lDX10_ease_0 : List (Nat × Instr × Nat) := [(0, .aload_n 0, 1), (1, .getfield 21, 3), (4, .iload_n 1, 1), (5, .invokevirtual 138, 3), (8, .ifCond .ne 5, 3), (11, .iconst (-1), 1), (12, .ireturn, 1), (13, .iload_n 1, 1), (14, .aload_n 0, 1), (15, .getfield 28, 3), (18, .getfield 120, 3), (21, .ixor, 1), (22, .aload_n 0, 1), (23, .getfield 28, 3), (26, .getfield 123, 3), (29, .iand, 1), (30, .ifCond .eq 6, 3), (33, .bipush (-2), 2), (35, .ireturn, 1), (36, .aload_n 0, 1), (37, .getfield 55, 3), (40, .aload_n 0, 1), (41, .getfield 21, 3), (44, .aload_n 0, 1), (45, .getfield 28, 3), (48, .getfield 123, 3), (51, .invokevirtual 202, 3), (54, .aload_n 0, 1), (55, .getfield 55, 3), (58, .aload_n 0, 1), (59, .getfield 28, 3), (62, .getfield 120, 3), (65, .iload_n 1, 1), (66, .aload_n 0, 1), (67, .getfield 28, 3), (70, .getfield 123, 3), (73, .aload_n 0, 1), (74, .getfield 21, 3), (77, .getfield 222, 3), (80, .invokevirtual 225, 3), (83, .ireturn, 1)]
theorem DX10_ease_0 : dAll cX10_ease lDX10_ease_0 = true := by decide +kernel
theorem dX10_ease_0 : decode cX10_ease 0 = .ok (.aload_n 0, 1) := dAt (x := (0, .aload_n 0, 1)) DX10_ease_0 0 rfl
theorem dX10_ease_1 : decode cX10_ease 1 = .ok (.getfield 21, 3) := dAt (x := (1, .getfield 21, 3)) DX10_ease_0 1 rfl
theorem dX10_ease_4 : decode cX10_ease 4 = .ok (.iload_n 1, 1) := dAt (x := (4, .iload_n 1, 1)) DX10_ease_0 2 rfl
theorem dX10_ease_5 : decode cX10_ease 5 = .ok (.invokevirtual 138, 3) := dAt (x := (5, .invokevirtual 138, 3)) DX10_ease_0 3 rfl
theorem dX10_ease_8 : decode cX10_ease 8 = .ok (.ifCond .ne 5, 3) := dAt (x := (8, .ifCond .ne 5, 3)) DX10_ease_0 4 rfl
theorem dX10_ease_11 : decode cX10_ease 11 = .ok (.iconst (-1), 1) := dAt (x := (11, .iconst (-1), 1)) DX10_ease_0 5 rfl
theorem dX10_ease_12 : decode cX10_ease 12 = .ok (.ireturn, 1) := dAt (x := (12, .ireturn, 1)) DX10_ease_0 6 rfl
theorem dX10_ease_13 : decode cX10_ease 13 = .ok (.iload_n 1, 1) := dAt (x := (13, .iload_n 1, 1)) DX10_ease_0 7 rfl
theorem dX10_ease_14 : decode cX10_ease 14 = .ok (.aload_n 0, 1) := dAt (x := (14, .aload_n 0, 1)) DX10_ease_0 8 rfl
theorem dX10_ease_15 : decode cX10_ease 15 = .ok (.getfield 28, 3) := dAt (x := (15, .getfield 28, 3)) DX10_ease_0 9 rfl
theorem dX10_ease_18 : decode cX10_ease 18 = .ok (.getfield 120, 3) := dAt (x := (18, .getfield 120, 3)) DX10_ease_0 10 rfl
theorem dX10_ease_21 : decode cX10_ease 21 = .ok (.ixor, 1) := dAt (x := (21, .ixor, 1)) DX10_ease_0 11 rfl
theorem dX10_ease_22 : decode cX10_ease 22 = .ok (.aload_n 0, 1) := dAt (x := (22, .aload_n 0, 1)) DX10_ease_0 12 rfl
theorem dX10_ease_23 : decode cX10_ease 23 = .ok (.getfield 28, 3) := dAt (x := (23, .getfield 28, 3)) DX10_ease_0 13 rfl
theorem dX10_ease_26 : decode cX10_ease 26 = .ok (.getfield 123, 3) := dAt (x := (26, .getfield 123, 3)) DX10_ease_0 14 rfl
theorem dX10_ease_29 : decode cX10_ease 29 = .ok (.iand, 1) := dAt (x := (29, .iand, 1)) DX10_ease_0 15 rfl
theorem dX10_ease_30 : decode cX10_ease 30 = .ok (.ifCond .eq 6, 3) := dAt (x := (30, .ifCond .eq 6, 3)) DX10_ease_0 16 rfl
theorem dX10_ease_33 : decode cX10_ease 33 = .ok (.bipush (-2), 2) := dAt (x := (33, .bipush (-2), 2)) DX10_ease_0 17 rfl
theorem dX10_ease_35 : decode cX10_ease 35 = .ok (.ireturn, 1) := dAt (x := (35, .ireturn, 1)) DX10_ease_0 18 rfl
theorem dX10_ease_36 : decode cX10_ease 36 = .ok (.aload_n 0, 1) := dAt (x := (36, .aload_n 0, 1)) DX10_ease_0 19 rfl
theorem dX10_ease_37 : decode cX10_ease 37 = .ok (.getfield 55, 3) := dAt (x := (37, .getfield 55, 3)) DX10_ease_0 20 rfl
theorem dX10_ease_40 : decode cX10_ease 40 = .ok (.aload_n 0, 1) := dAt (x := (40, .aload_n 0, 1)) DX10_ease_0 21 rfl
theorem dX10_ease_41 : decode cX10_ease 41 = .ok (.getfield 21, 3) := dAt (x := (41, .getfield 21, 3)) DX10_ease_0 22 rfl
theorem dX10_ease_44 : decode cX10_ease 44 = .ok (.aload_n 0, 1) := dAt (x := (44, .aload_n 0, 1)) DX10_ease_0 23 rfl
theorem dX10_ease_45 : decode cX10_ease 45 = .ok (.getfield 28, 3) := dAt (x := (45, .getfield 28, 3)) DX10_ease_0 24 rfl
theorem dX10_ease_48 : decode cX10_ease 48 = .ok (.getfield 123, 3) := dAt (x := (48, .getfield 123, 3)) DX10_ease_0 25 rfl
theorem dX10_ease_51 : decode cX10_ease 51 = .ok (.invokevirtual 202, 3) := dAt (x := (51, .invokevirtual 202, 3)) DX10_ease_0 26 rfl
theorem dX10_ease_54 : decode cX10_ease 54 = .ok (.aload_n 0, 1) := dAt (x := (54, .aload_n 0, 1)) DX10_ease_0 27 rfl
theorem dX10_ease_55 : decode cX10_ease 55 = .ok (.getfield 55, 3) := dAt (x := (55, .getfield 55, 3)) DX10_ease_0 28 rfl
theorem dX10_ease_58 : decode cX10_ease 58 = .ok (.aload_n 0, 1) := dAt (x := (58, .aload_n 0, 1)) DX10_ease_0 29 rfl
theorem dX10_ease_59 : decode cX10_ease 59 = .ok (.getfield 28, 3) := dAt (x := (59, .getfield 28, 3)) DX10_ease_0 30 rfl
theorem dX10_ease_62 : decode cX10_ease 62 = .ok (.getfield 120, 3) := dAt (x := (62, .getfield 120, 3)) DX10_ease_0 31 rfl
theorem dX10_ease_65 : decode cX10_ease 65 = .ok (.iload_n 1, 1) := dAt (x := (65, .iload_n 1, 1)) DX10_ease_0 32 rfl
theorem dX10_ease_66 : decode cX10_ease 66 = .ok (.aload_n 0, 1) := dAt (x := (66, .aload_n 0, 1)) DX10_ease_0 33 rfl
theorem dX10_ease_67 : decode cX10_ease 67 = .ok (.getfield 28, 3) := dAt (x := (67, .getfield 28, 3)) DX10_ease_0 34 rfl
theorem dX10_ease_70 : decode cX10_ease 70 = .ok (.getfield 123, 3) := dAt (x := (70, .getfield 123, 3)) DX10_ease_0 35 rfl
theorem dX10_ease_73 : decode cX10_ease 73 = .ok (.aload_n 0, 1) := dAt (x := (73, .aload_n 0, 1)) DX10_ease_0 36 rfl
theorem dX10_ease_74 : decode cX10_ease 74 = .ok (.getfield 21, 3) := dAt (x := (74, .getfield 21, 3)) DX10_ease_0 37 rfl
theorem dX10_ease_77 : decode cX10_ease 77 = .ok (.getfield 222, 3) := dAt (x := (77, .getfield 222, 3)) DX10_ease_0 38 rfl
theorem dX10_ease_80 : decode cX10_ease 80 = .ok (.invokevirtual 225, 3) := dAt (x := (80, .invokevirtual 225, 3)) DX10_ease_0 39 rfl
theorem dX10_ease_83 : decode cX10_ease 83 = .ok (.ireturn, 1) := dAt (x := (83, .ireturn, 1)) DX10_ease_0 40 rfl
def lDX10_game_0 : List (Nat × Instr × Nat) := [(0, .iload_n 1, 1), (1, .ifCond .eq 10, 3), (4, .iload_n 1, 1), (5, .iconst 1, 1), (6, .if_icmp .eq 5, 3), (9, .iconst (-1), 1), (10, .ireturn, 1), (11, .aload_n 0, 1), (12, .getfield 55, 3), (15, .aload_n 0, 1), (16, .getfield 21, 3), (19, .aload_n 0, 1), (20, .getfield 28, 3), (23, .getfield 123, 3), (26, .invokevirtual 202, 3), (29, .aload_n 0, 1), (30, .getfield 55, 3), (33, .aload_n 0, 1), (34, .getfield 28, 3), (37, .getfield 120, 3), (40, .invokevirtual 229, 3), (43, .istore_n 2, 1), (44, .iload_n 1, 1), (45, .iconst 1, 1), (46, .if_icmp .ne 5, 3), (49, .iload_n 2, 1), (50, .ireturn, 1), (51, .iload_n 2, 1), (52, .bipush (-2), 2), (54, .if_icmp .ne 7, 3), (57, .iconst 1, 1), (58, .goto 4, 3), (61, .iconst 0, 1), (62, .ireturn, 1)]
theorem DX10_game_0 : dAll cX10_game lDX10_game_0 = true := by decide +kernel
theorem dX10_game_0 : decode cX10_game 0 = .ok (.iload_n 1, 1) := dAt (x := (0, .iload_n 1, 1)) DX10_game_0 0 rfl
theorem dX10_game_1 : decode cX10_game 1 = .ok (.ifCond .eq 10, 3) := dAt (x := (1, .ifCond .eq 10, 3)) DX10_game_0 1 rfl
theorem dX10_game_4 : decode cX10_game 4 = .ok (.iload_n 1, 1) := dAt (x := (4, .iload_n 1, 1)) DX10_game_0 2 rfl
theorem dX10_game_5 : decode cX10_game 5 = .ok (.iconst 1, 1) := dAt (x := (5, .iconst 1, 1)) DX10_game_0 3 rfl
theorem dX10_game_6 : decode cX10_game 6 = .ok (.if_icmp .eq 5, 3) := dAt (x := (6, .if_icmp .eq 5, 3)) DX10_game_0 4 rfl
theorem dX10_game_9 : decode cX10_game 9 = .ok (.iconst (-1), 1) := dAt (x := (9, .iconst (-1), 1)) DX10_game_0 5 rfl
theorem dX10_game_10 : decode cX10_game 10 = .ok (.ireturn, 1) := dAt (x := (10, .ireturn, 1)) DX10_game_0 6 rfl
theorem dX10_game_11 : decode cX10_game 11 = .ok (.aload_n 0, 1) := dAt (x := (11, .aload_n 0, 1)) DX10_game_0 7 rfl
theorem dX10_game_12 : decode cX10_game 12 = .ok (.getfield 55, 3) := dAt (x := (12, .getfield 55, 3)) DX10_game_0 8 rfl
theorem dX10_game_15 : decode cX10_game 15 = .ok (.aload_n 0, 1) := dAt (x := (15, .aload_n 0, 1)) DX10_game_0 9 rfl
theorem dX10_game_16 : decode cX10_game 16 = .ok (.getfield 21, 3) := dAt (x := (16, .getfield 21, 3)) DX10_game_0 10 rfl
theorem dX10_game_19 : decode cX10_game 19 = .ok (.aload_n 0, 1) := dAt (x := (19, .aload_n 0, 1)) DX10_game_0 11 rfl
theorem dX10_game_20 : decode cX10_game 20 = .ok (.getfield 28, 3) := dAt (x := (20, .getfield 28, 3)) DX10_game_0 12 rfl
theorem dX10_game_23 : decode cX10_game 23 = .ok (.getfield 123, 3) := dAt (x := (23, .getfield 123, 3)) DX10_game_0 13 rfl
theorem dX10_game_26 : decode cX10_game 26 = .ok (.invokevirtual 202, 3) := dAt (x := (26, .invokevirtual 202, 3)) DX10_game_0 14 rfl
theorem dX10_game_29 : decode cX10_game 29 = .ok (.aload_n 0, 1) := dAt (x := (29, .aload_n 0, 1)) DX10_game_0 15 rfl
theorem dX10_game_30 : decode cX10_game 30 = .ok (.getfield 55, 3) := dAt (x := (30, .getfield 55, 3)) DX10_game_0 16 rfl
theorem dX10_game_33 : decode cX10_game 33 = .ok (.aload_n 0, 1) := dAt (x := (33, .aload_n 0, 1)) DX10_game_0 17 rfl
theorem dX10_game_34 : decode cX10_game 34 = .ok (.getfield 28, 3) := dAt (x := (34, .getfield 28, 3)) DX10_game_0 18 rfl
theorem dX10_game_37 : decode cX10_game 37 = .ok (.getfield 120, 3) := dAt (x := (37, .getfield 120, 3)) DX10_game_0 19 rfl
theorem dX10_game_40 : decode cX10_game 40 = .ok (.invokevirtual 229, 3) := dAt (x := (40, .invokevirtual 229, 3)) DX10_game_0 20 rfl
theorem dX10_game_43 : decode cX10_game 43 = .ok (.istore_n 2, 1) := dAt (x := (43, .istore_n 2, 1)) DX10_game_0 21 rfl
theorem dX10_game_44 : decode cX10_game 44 = .ok (.iload_n 1, 1) := dAt (x := (44, .iload_n 1, 1)) DX10_game_0 22 rfl
theorem dX10_game_45 : decode cX10_game 45 = .ok (.iconst 1, 1) := dAt (x := (45, .iconst 1, 1)) DX10_game_0 23 rfl
theorem dX10_game_46 : decode cX10_game 46 = .ok (.if_icmp .ne 5, 3) := dAt (x := (46, .if_icmp .ne 5, 3)) DX10_game_0 24 rfl
theorem dX10_game_49 : decode cX10_game 49 = .ok (.iload_n 2, 1) := dAt (x := (49, .iload_n 2, 1)) DX10_game_0 25 rfl
theorem dX10_game_50 : decode cX10_game 50 = .ok (.ireturn, 1) := dAt (x := (50, .ireturn, 1)) DX10_game_0 26 rfl
theorem dX10_game_51 : decode cX10_game 51 = .ok (.iload_n 2, 1) := dAt (x := (51, .iload_n 2, 1)) DX10_game_0 27 rfl
theorem dX10_game_52 : decode cX10_game 52 = .ok (.bipush (-2), 2) := dAt (x := (52, .bipush (-2), 2)) DX10_game_0 28 rfl
theorem dX10_game_54 : decode cX10_game 54 = .ok (.if_icmp .ne 7, 3) := dAt (x := (54, .if_icmp .ne 7, 3)) DX10_game_0 29 rfl
theorem dX10_game_57 : decode cX10_game 57 = .ok (.iconst 1, 1) := dAt (x := (57, .iconst 1, 1)) DX10_game_0 30 rfl
theorem dX10_game_58 : decode cX10_game 58 = .ok (.goto 4, 3) := dAt (x := (58, .goto 4, 3)) DX10_game_0 31 rfl
theorem dX10_game_61 : decode cX10_game 61 = .ok (.iconst 0, 1) := dAt (x := (61, .iconst 0, 1)) DX10_game_0 32 rfl
theorem dX10_game_62 : decode cX10_game 62 = .ok (.ireturn, 1) := dAt (x := (62, .ireturn, 1)) DX10_game_0 33 rfl
def lDX10_drunk_0 : List (Nat × Instr × Nat) := [(0, .aload_n 0, 1), (1, .getfield 21, 3), (4, .iload_n 1, 1), (5, .invokevirtual 138, 3), (8, .ifCond .eq 21, 3), (11, .iload_n 2, 1), (12, .ifCond .lt 17, 3), (15, .iload_n 2, 1), (16, .iconst 5, 1), (17, .if_icmp .gt 12, 3), (20, .iload_n 3, 1), (21, .ifCond .lt 8, 3), (24, .iload_n 3, 1), (25, .iconst 1, 1), (26, .if_icmp .le 7, 3), (29, .ldc2_w 232, 3), (32, .lreturn, 1), (33, .aload_n 0, 1), (34, .getfield 55, 3), (37, .aload_n 0, 1), (38, .getfield 21, 3), (41, .aload_n 0, 1), (42, .getfield 28, 3), (45, .getfield 123, 3), (48, .invokevirtual 202, 3), (51, .aload_n 0, 1), (52, .getfield 55, 3), (55, .aload_n 0, 1), (56, .getfield 28, 3), (59, .getfield 120, 3), (62, .iload_n 1, 1), (63, .iload_n 2, 1), (64, .invokevirtual 234, 3), (67, .lstore 4, 2), (69, .lload 4, 2), (71, .ldc2_w 238, 3), (74, .iload_n 2, 1), (75, .invokestatic 240, 3), (78, .iload_n 3, 1), (79, .invokestatic 244, 3), (82, .lreturn, 1)]
theorem DX10_drunk_0 : dAll cX10_drunk lDX10_drunk_0 = true := by decide +kernel
theorem dX10_drunk_0 : decode cX10_drunk 0 = .ok (.aload_n 0, 1) := dAt (x := (0, .aload_n 0, 1)) DX10_drunk_0 0 rfl
theorem dX10_drunk_1 : decode cX10_drunk 1 = .ok (.getfield 21, 3) := dAt (x := (1, .getfield 21, 3)) DX10_drunk_0 1 rfl
theorem dX10_drunk_4 : decode cX10_drunk 4 = .ok (.iload_n 1, 1) := dAt (x := (4, .iload_n 1, 1)) DX10_drunk_0 2 rfl
theorem dX10_drunk_5 : decode cX10_drunk 5 = .ok (.invokevirtual 138, 3) := dAt (x := (5, .invokevirtual 138, 3)) DX10_drunk_0 3 rfl
theorem dX10_drunk_8 : decode cX10_drunk 8 = .ok (.ifCond .eq 21, 3) := dAt (x := (8, .ifCond .eq 21, 3)) DX10_drunk_0 4 rfl
theorem dX10_drunk_11 : decode cX10_drunk 11 = .ok (.iload_n 2, 1) := dAt (x := (11, .iload_n 2, 1)) DX10_drunk_0 5 rfl
theorem dX10_drunk_12 : decode cX10_drunk 12 = .ok (.ifCond .lt 17, 3) := dAt (x := (12, .ifCond .lt 17, 3)) DX10_drunk_0 6 rfl
theorem dX10_drunk_15 : decode cX10_drunk 15 = .ok (.iload_n 2, 1) := dAt (x := (15, .iload_n 2, 1)) DX10_drunk_0 7 rfl
theorem dX10_drunk_16 : decode cX10_drunk 16 = .ok (.iconst 5, 1) := dAt (x := (16, .iconst 5, 1)) DX10_drunk_0 8 rfl
theorem dX10_drunk_17 : decode cX10_drunk 17 = .ok (.if_icmp .gt 12, 3) := dAt (x := (17, .if_icmp .gt 12, 3)) DX10_drunk_0 9 rfl
theorem dX10_drunk_20 : decode cX10_drunk 20 = .ok (.iload_n 3, 1) := dAt (x := (20, .iload_n 3, 1)) DX10_drunk_0 10 rfl
theorem dX10_drunk_21 : decode cX10_drunk 21 = .ok (.ifCond .lt 8, 3) := dAt (x := (21, .ifCond .lt 8, 3)) DX10_drunk_0 11 rfl
theorem dX10_drunk_24 : decode cX10_drunk 24 = .ok (.iload_n 3, 1) := dAt (x := (24, .iload_n 3, 1)) DX10_drunk_0 12 rfl
theorem dX10_drunk_25 : decode cX10_drunk 25 = .ok (.iconst 1, 1) := dAt (x := (25, .iconst 1, 1)) DX10_drunk_0 13 rfl
theorem dX10_drunk_26 : decode cX10_drunk 26 = .ok (.if_icmp .le 7, 3) := dAt (x := (26, .if_icmp .le 7, 3)) DX10_drunk_0 14 rfl
theorem dX10_drunk_29 : decode cX10_drunk 29 = .ok (.ldc2_w 232, 3) := dAt (x := (29, .ldc2_w 232, 3)) DX10_drunk_0 15 rfl
theorem dX10_drunk_32 : decode cX10_drunk 32 = .ok (.lreturn, 1) := dAt (x := (32, .lreturn, 1)) DX10_drunk_0 16 rfl
theorem dX10_drunk_33 : decode cX10_drunk 33 = .ok (.aload_n 0, 1) := dAt (x := (33, .aload_n 0, 1)) DX10_drunk_0 17 rfl
theorem dX10_drunk_34 : decode cX10_drunk 34 = .ok (.getfield 55, 3) := dAt (x := (34, .getfield 55, 3)) DX10_drunk_0 18 rfl
theorem dX10_drunk_37 : decode cX10_drunk 37 = .ok (.aload_n 0, 1) := dAt (x := (37, .aload_n 0, 1)) DX10_drunk_0 19 rfl
theorem dX10_drunk_38 : decode cX10_drunk 38 = .ok (.getfield 21, 3) := dAt (x := (38, .getfield 21, 3)) DX10_drunk_0 20 rfl
theorem dX10_drunk_41 : decode cX10_drunk 41 = .ok (.aload_n 0, 1) := dAt (x := (41, .aload_n 0, 1)) DX10_drunk_0 21 rfl
theorem dX10_drunk_42 : decode cX10_drunk 42 = .ok (.getfield 28, 3) := dAt (x := (42, .getfield 28, 3)) DX10_drunk_0 22 rfl
theorem dX10_drunk_45 : decode cX10_drunk 45 = .ok (.getfield 123, 3) := dAt (x := (45, .getfield 123, 3)) DX10_drunk_0 23 rfl
theorem dX10_drunk_48 : decode cX10_drunk 48 = .ok (.invokevirtual 202, 3) := dAt (x := (48, .invokevirtual 202, 3)) DX10_drunk_0 24 rfl
theorem dX10_drunk_51 : decode cX10_drunk 51 = .ok (.aload_n 0, 1) := dAt (x := (51, .aload_n 0, 1)) DX10_drunk_0 25 rfl
theorem dX10_drunk_52 : decode cX10_drunk 52 = .ok (.getfield 55, 3) := dAt (x := (52, .getfield 55, 3)) DX10_drunk_0 26 rfl
theorem dX10_drunk_55 : decode cX10_drunk 55 = .ok (.aload_n 0, 1) := dAt (x := (55, .aload_n 0, 1)) DX10_drunk_0 27 rfl
theorem dX10_drunk_56 : decode cX10_drunk 56 = .ok (.getfield 28, 3) := dAt (x := (56, .getfield 28, 3)) DX10_drunk_0 28 rfl
theorem dX10_drunk_59 : decode cX10_drunk 59 = .ok (.getfield 120, 3) := dAt (x := (59, .getfield 120, 3)) DX10_drunk_0 29 rfl
theorem dX10_drunk_62 : decode cX10_drunk 62 = .ok (.iload_n 1, 1) := dAt (x := (62, .iload_n 1, 1)) DX10_drunk_0 30 rfl
theorem dX10_drunk_63 : decode cX10_drunk 63 = .ok (.iload_n 2, 1) := dAt (x := (63, .iload_n 2, 1)) DX10_drunk_0 31 rfl
theorem dX10_drunk_64 : decode cX10_drunk 64 = .ok (.invokevirtual 234, 3) := dAt (x := (64, .invokevirtual 234, 3)) DX10_drunk_0 32 rfl
theorem dX10_drunk_67 : decode cX10_drunk 67 = .ok (.lstore 4, 2) := dAt (x := (67, .lstore 4, 2)) DX10_drunk_0 33 rfl
theorem dX10_drunk_69 : decode cX10_drunk 69 = .ok (.lload 4, 2) := dAt (x := (69, .lload 4, 2)) DX10_drunk_0 34 rfl
theorem dX10_drunk_71 : decode cX10_drunk 71 = .ok (.ldc2_w 238, 3) := dAt (x := (71, .ldc2_w 238, 3)) DX10_drunk_0 35 rfl
theorem dX10_drunk_74 : decode cX10_drunk 74 = .ok (.iload_n 2, 1) := dAt (x := (74, .iload_n 2, 1)) DX10_drunk_0 36 rfl
theorem dX10_drunk_75 : decode cX10_drunk 75 = .ok (.invokestatic 240, 3) := dAt (x := (75, .invokestatic 240, 3)) DX10_drunk_0 37 rfl
theorem dX10_drunk_78 : decode cX10_drunk 78 = .ok (.iload_n 3, 1) := dAt (x := (78, .iload_n 3, 1)) DX10_drunk_0 38 rfl
theorem dX10_drunk_79 : decode cX10_drunk 79 = .ok (.invokestatic 244, 3) := dAt (x := (79, .invokestatic 244, 3)) DX10_drunk_0 39 rfl
theorem dX10_drunk_82 : decode cX10_drunk 82 = .ok (.lreturn, 1) := dAt (x := (82, .lreturn, 1)) DX10_drunk_0 40 rfl
def lDX10_holds_0 : List (Nat × Instr × Nat) := [(0, .iload_n 1, 1), (1, .ifCond .lt 18, 3), (4, .iload_n 1, 1), (5, .bipush 6, 2), (7, .if_icmp .gt 12, 3), (10, .iload_n 2, 1), (11, .ifCond .lt 8, 3), (14, .iload_n 2, 1), (15, .iconst 1, 1), (16, .if_icmp .le 7, 3), (19, .ldc2_w 232, 3), (22, .lreturn, 1), (23, .bipush 100, 2), (25, .aload_n 0, 1), (26, .getfield 21, 3), (29, .getfield 248, 3), (32, .isub, 1), (33, .i2l, 1), (34, .iload_n 1, 1), (35, .invokestatic 240, 3), (38, .ldc2_w 251, 3), (41, .iload_n 1, 1), (42, .invokestatic 240, 3), (45, .iload_n 2, 1), (46, .invokestatic 244, 3), (49, .lreturn, 1)]
theorem DX10_holds_0 : dAll cX10_holds lDX10_holds_0 = true := by decide +kernel
theorem dX10_holds_0 : decode cX10_holds 0 = .ok (.iload_n 1, 1) := dAt (x := (0, .iload_n 1, 1)) DX10_holds_0 0 rfl
theorem dX10_holds_1 : decode cX10_holds 1 = .ok (.ifCond .lt 18, 3) := dAt (x := (1, .ifCond .lt 18, 3)) DX10_holds_0 1 rfl
theorem dX10_holds_4 : decode cX10_holds 4 = .ok (.iload_n 1, 1) := dAt (x := (4, .iload_n 1, 1)) DX10_holds_0 2 rfl
theorem dX10_holds_5 : decode cX10_holds 5 = .ok (.bipush 6, 2) := dAt (x := (5, .bipush 6, 2)) DX10_holds_0 3 rfl
theorem dX10_holds_7 : decode cX10_holds 7 = .ok (.if_icmp .gt 12, 3) := dAt (x := (7, .if_icmp .gt 12, 3)) DX10_holds_0 4 rfl
theorem dX10_holds_10 : decode cX10_holds 10 = .ok (.iload_n 2, 1) := dAt (x := (10, .iload_n 2, 1)) DX10_holds_0 5 rfl
theorem dX10_holds_11 : decode cX10_holds 11 = .ok (.ifCond .lt 8, 3) := dAt (x := (11, .ifCond .lt 8, 3)) DX10_holds_0 6 rfl
theorem dX10_holds_14 : decode cX10_holds 14 = .ok (.iload_n 2, 1) := dAt (x := (14, .iload_n 2, 1)) DX10_holds_0 7 rfl
theorem dX10_holds_15 : decode cX10_holds 15 = .ok (.iconst 1, 1) := dAt (x := (15, .iconst 1, 1)) DX10_holds_0 8 rfl
theorem dX10_holds_16 : decode cX10_holds 16 = .ok (.if_icmp .le 7, 3) := dAt (x := (16, .if_icmp .le 7, 3)) DX10_holds_0 9 rfl
theorem dX10_holds_19 : decode cX10_holds 19 = .ok (.ldc2_w 232, 3) := dAt (x := (19, .ldc2_w 232, 3)) DX10_holds_0 10 rfl
theorem dX10_holds_22 : decode cX10_holds 22 = .ok (.lreturn, 1) := dAt (x := (22, .lreturn, 1)) DX10_holds_0 11 rfl
theorem dX10_holds_23 : decode cX10_holds 23 = .ok (.bipush 100, 2) := dAt (x := (23, .bipush 100, 2)) DX10_holds_0 12 rfl
theorem dX10_holds_25 : decode cX10_holds 25 = .ok (.aload_n 0, 1) := dAt (x := (25, .aload_n 0, 1)) DX10_holds_0 13 rfl
theorem dX10_holds_26 : decode cX10_holds 26 = .ok (.getfield 21, 3) := dAt (x := (26, .getfield 21, 3)) DX10_holds_0 14 rfl
theorem dX10_holds_29 : decode cX10_holds 29 = .ok (.getfield 248, 3) := dAt (x := (29, .getfield 248, 3)) DX10_holds_0 15 rfl
theorem dX10_holds_32 : decode cX10_holds 32 = .ok (.isub, 1) := dAt (x := (32, .isub, 1)) DX10_holds_0 16 rfl
theorem dX10_holds_33 : decode cX10_holds 33 = .ok (.i2l, 1) := dAt (x := (33, .i2l, 1)) DX10_holds_0 17 rfl
theorem dX10_holds_34 : decode cX10_holds 34 = .ok (.iload_n 1, 1) := dAt (x := (34, .iload_n 1, 1)) DX10_holds_0 18 rfl
theorem dX10_holds_35 : decode cX10_holds 35 = .ok (.invokestatic 240, 3) := dAt (x := (35, .invokestatic 240, 3)) DX10_holds_0 19 rfl
theorem dX10_holds_38 : decode cX10_holds 38 = .ok (.ldc2_w 251, 3) := dAt (x := (38, .ldc2_w 251, 3)) DX10_holds_0 20 rfl
theorem dX10_holds_41 : decode cX10_holds 41 = .ok (.iload_n 1, 1) := dAt (x := (41, .iload_n 1, 1)) DX10_holds_0 21 rfl
theorem dX10_holds_42 : decode cX10_holds 42 = .ok (.invokestatic 240, 3) := dAt (x := (42, .invokestatic 240, 3)) DX10_holds_0 22 rfl
theorem dX10_holds_45 : decode cX10_holds 45 = .ok (.iload_n 2, 1) := dAt (x := (45, .iload_n 2, 1)) DX10_holds_0 23 rfl
theorem dX10_holds_46 : decode cX10_holds 46 = .ok (.invokestatic 244, 3) := dAt (x := (46, .invokestatic 244, 3)) DX10_holds_0 24 rfl
theorem dX10_holds_49 : decode cX10_holds 49 = .ok (.lreturn, 1) := dAt (x := (49, .lreturn, 1)) DX10_holds_0 25 rfl
def lDX10_note_0 : List (Nat × Instr × Nat) := [(0, .aload_n 0, 1), (1, .getfield 21, 3), (4, .iload_n 1, 1), (5, .invokevirtual 138, 3), (8, .ifCond .eq 14, 3), (11, .aload_n 0, 1), (12, .getfield 21, 3), (15, .iload_n 2, 1), (16, .invokevirtual 110, 3), (19, .ifCond .ne 5, 3), (22, .iconst (-1), 1), (23, .ireturn, 1), (24, .aload_n 0, 1), (25, .getfield 62, 3), (28, .iload_n 2, 1), (29, .iload_n 1, 1), (30, .iload_n 3, 1), (31, .invokevirtual 253, 3), (34, .ireturn, 1)]
theorem DX10_note_0 : dAll cX10_note lDX10_note_0 = true := by decide +kernel
theorem dX10_note_0 : decode cX10_note 0 = .ok (.aload_n 0, 1) := dAt (x := (0, .aload_n 0, 1)) DX10_note_0 0 rfl
theorem dX10_note_1 : decode cX10_note 1 = .ok (.getfield 21, 3) := dAt (x := (1, .getfield 21, 3)) DX10_note_0 1 rfl
theorem dX10_note_4 : decode cX10_note 4 = .ok (.iload_n 1, 1) := dAt (x := (4, .iload_n 1, 1)) DX10_note_0 2 rfl
theorem dX10_note_5 : decode cX10_note 5 = .ok (.invokevirtual 138, 3) := dAt (x := (5, .invokevirtual 138, 3)) DX10_note_0 3 rfl
theorem dX10_note_8 : decode cX10_note 8 = .ok (.ifCond .eq 14, 3) := dAt (x := (8, .ifCond .eq 14, 3)) DX10_note_0 4 rfl
theorem dX10_note_11 : decode cX10_note 11 = .ok (.aload_n 0, 1) := dAt (x := (11, .aload_n 0, 1)) DX10_note_0 5 rfl
theorem dX10_note_12 : decode cX10_note 12 = .ok (.getfield 21, 3) := dAt (x := (12, .getfield 21, 3)) DX10_note_0 6 rfl
theorem dX10_note_15 : decode cX10_note 15 = .ok (.iload_n 2, 1) := dAt (x := (15, .iload_n 2, 1)) DX10_note_0 7 rfl
theorem dX10_note_16 : decode cX10_note 16 = .ok (.invokevirtual 110, 3) := dAt (x := (16, .invokevirtual 110, 3)) DX10_note_0 8 rfl
theorem dX10_note_19 : decode cX10_note 19 = .ok (.ifCond .ne 5, 3) := dAt (x := (19, .ifCond .ne 5, 3)) DX10_note_0 9 rfl
theorem dX10_note_22 : decode cX10_note 22 = .ok (.iconst (-1), 1) := dAt (x := (22, .iconst (-1), 1)) DX10_note_0 10 rfl
theorem dX10_note_23 : decode cX10_note 23 = .ok (.ireturn, 1) := dAt (x := (23, .ireturn, 1)) DX10_note_0 11 rfl
theorem dX10_note_24 : decode cX10_note 24 = .ok (.aload_n 0, 1) := dAt (x := (24, .aload_n 0, 1)) DX10_note_0 12 rfl
theorem dX10_note_25 : decode cX10_note 25 = .ok (.getfield 62, 3) := dAt (x := (25, .getfield 62, 3)) DX10_note_0 13 rfl
theorem dX10_note_28 : decode cX10_note 28 = .ok (.iload_n 2, 1) := dAt (x := (28, .iload_n 2, 1)) DX10_note_0 14 rfl
theorem dX10_note_29 : decode cX10_note 29 = .ok (.iload_n 1, 1) := dAt (x := (29, .iload_n 1, 1)) DX10_note_0 15 rfl
theorem dX10_note_30 : decode cX10_note 30 = .ok (.iload_n 3, 1) := dAt (x := (30, .iload_n 3, 1)) DX10_note_0 16 rfl
theorem dX10_note_31 : decode cX10_note 31 = .ok (.invokevirtual 253, 3) := dAt (x := (31, .invokevirtual 253, 3)) DX10_note_0 17 rfl
theorem dX10_note_34 : decode cX10_note 34 = .ok (.ireturn, 1) := dAt (x := (34, .ireturn, 1)) DX10_note_0 18 rfl
def lDX10_strike_0 : List (Nat × Instr × Nat) := [(0, .iload_n 1, 1), (1, .ifCond .lt 14, 3), (4, .iload_n 1, 1), (5, .aload_n 0, 1), (6, .getfield 62, 3), (9, .getfield 256, 3), (12, .if_icmp .lt 5, 3), (15, .iconst (-1), 1), (16, .ireturn, 1), (17, .aload_n 0, 1), (18, .getfield 62, 3), (21, .iconst (-1), 1), (22, .iload_n 1, 1), (23, .iconst 0, 1), (24, .invokevirtual 253, 3), (27, .ireturn, 1)]
theorem DX10_strike_0 : dAll cX10_strike lDX10_strike_0 = true := by decide +kernel
theorem dX10_strike_0 : decode cX10_strike 0 = .ok (.iload_n 1, 1) := dAt (x := (0, .iload_n 1, 1)) DX10_strike_0 0 rfl
theorem dX10_strike_1 : decode cX10_strike 1 = .ok (.ifCond .lt 14, 3) := dAt (x := (1, .ifCond .lt 14, 3)) DX10_strike_0 1 rfl
theorem dX10_strike_4 : decode cX10_strike 4 = .ok (.iload_n 1, 1) := dAt (x := (4, .iload_n 1, 1)) DX10_strike_0 2 rfl
theorem dX10_strike_5 : decode cX10_strike 5 = .ok (.aload_n 0, 1) := dAt (x := (5, .aload_n 0, 1)) DX10_strike_0 3 rfl
theorem dX10_strike_6 : decode cX10_strike 6 = .ok (.getfield 62, 3) := dAt (x := (6, .getfield 62, 3)) DX10_strike_0 4 rfl
theorem dX10_strike_9 : decode cX10_strike 9 = .ok (.getfield 256, 3) := dAt (x := (9, .getfield 256, 3)) DX10_strike_0 5 rfl
theorem dX10_strike_12 : decode cX10_strike 12 = .ok (.if_icmp .lt 5, 3) := dAt (x := (12, .if_icmp .lt 5, 3)) DX10_strike_0 6 rfl
theorem dX10_strike_15 : decode cX10_strike 15 = .ok (.iconst (-1), 1) := dAt (x := (15, .iconst (-1), 1)) DX10_strike_0 7 rfl
theorem dX10_strike_16 : decode cX10_strike 16 = .ok (.ireturn, 1) := dAt (x := (16, .ireturn, 1)) DX10_strike_0 8 rfl
theorem dX10_strike_17 : decode cX10_strike 17 = .ok (.aload_n 0, 1) := dAt (x := (17, .aload_n 0, 1)) DX10_strike_0 9 rfl
theorem dX10_strike_18 : decode cX10_strike 18 = .ok (.getfield 62, 3) := dAt (x := (18, .getfield 62, 3)) DX10_strike_0 10 rfl
theorem dX10_strike_21 : decode cX10_strike 21 = .ok (.iconst (-1), 1) := dAt (x := (21, .iconst (-1), 1)) DX10_strike_0 11 rfl
theorem dX10_strike_22 : decode cX10_strike 22 = .ok (.iload_n 1, 1) := dAt (x := (22, .iload_n 1, 1)) DX10_strike_0 12 rfl
theorem dX10_strike_23 : decode cX10_strike 23 = .ok (.iconst 0, 1) := dAt (x := (23, .iconst 0, 1)) DX10_strike_0 13 rfl
theorem dX10_strike_24 : decode cX10_strike 24 = .ok (.invokevirtual 253, 3) := dAt (x := (24, .invokevirtual 253, 3)) DX10_strike_0 14 rfl
theorem dX10_strike_27 : decode cX10_strike 27 = .ok (.ireturn, 1) := dAt (x := (27, .ireturn, 1)) DX10_strike_0 15 rfl
def lDX10_known_0 : List (Nat × Instr × Nat) := [(0, .iload_n 1, 1), (1, .iconst (-1), 1), (2, .if_icmp .lt 14, 3), (5, .iload_n 1, 1), (6, .aload_n 0, 1), (7, .getfield 62, 3), (10, .getfield 256, 3), (13, .if_icmp .le 5, 3), (16, .iconst 0, 1), (17, .ireturn, 1), (18, .aload_n 0, 1), (19, .getfield 62, 3), (22, .iload_n 1, 1), (23, .putfield 257, 3), (26, .iconst 1, 1), (27, .ireturn, 1)]
theorem DX10_known_0 : dAll cX10_known lDX10_known_0 = true := by decide +kernel
theorem dX10_known_0 : decode cX10_known 0 = .ok (.iload_n 1, 1) := dAt (x := (0, .iload_n 1, 1)) DX10_known_0 0 rfl
theorem dX10_known_1 : decode cX10_known 1 = .ok (.iconst (-1), 1) := dAt (x := (1, .iconst (-1), 1)) DX10_known_0 1 rfl
theorem dX10_known_2 : decode cX10_known 2 = .ok (.if_icmp .lt 14, 3) := dAt (x := (2, .if_icmp .lt 14, 3)) DX10_known_0 2 rfl
theorem dX10_known_5 : decode cX10_known 5 = .ok (.iload_n 1, 1) := dAt (x := (5, .iload_n 1, 1)) DX10_known_0 3 rfl
theorem dX10_known_6 : decode cX10_known 6 = .ok (.aload_n 0, 1) := dAt (x := (6, .aload_n 0, 1)) DX10_known_0 4 rfl
theorem dX10_known_7 : decode cX10_known 7 = .ok (.getfield 62, 3) := dAt (x := (7, .getfield 62, 3)) DX10_known_0 5 rfl
theorem dX10_known_10 : decode cX10_known 10 = .ok (.getfield 256, 3) := dAt (x := (10, .getfield 256, 3)) DX10_known_0 6 rfl
theorem dX10_known_13 : decode cX10_known 13 = .ok (.if_icmp .le 5, 3) := dAt (x := (13, .if_icmp .le 5, 3)) DX10_known_0 7 rfl
theorem dX10_known_16 : decode cX10_known 16 = .ok (.iconst 0, 1) := dAt (x := (16, .iconst 0, 1)) DX10_known_0 8 rfl
theorem dX10_known_17 : decode cX10_known 17 = .ok (.ireturn, 1) := dAt (x := (17, .ireturn, 1)) DX10_known_0 9 rfl
theorem dX10_known_18 : decode cX10_known 18 = .ok (.aload_n 0, 1) := dAt (x := (18, .aload_n 0, 1)) DX10_known_0 10 rfl
theorem dX10_known_19 : decode cX10_known 19 = .ok (.getfield 62, 3) := dAt (x := (19, .getfield 62, 3)) DX10_known_0 11 rfl
theorem dX10_known_22 : decode cX10_known 22 = .ok (.iload_n 1, 1) := dAt (x := (22, .iload_n 1, 1)) DX10_known_0 12 rfl
theorem dX10_known_23 : decode cX10_known 23 = .ok (.putfield 257, 3) := dAt (x := (23, .putfield 257, 3)) DX10_known_0 13 rfl
theorem dX10_known_26 : decode cX10_known 26 = .ok (.iconst 1, 1) := dAt (x := (26, .iconst 1, 1)) DX10_known_0 14 rfl
theorem dX10_known_27 : decode cX10_known 27 = .ok (.ireturn, 1) := dAt (x := (27, .ireturn, 1)) DX10_known_0 15 rfl
def lDX10_fits_0 : List (Nat × Instr × Nat) := [(0, .aload_n 0, 1), (1, .getfield 21, 3), (4, .iload_n 1, 1), (5, .invokevirtual 110, 3), (8, .ifCond .eq 21, 3), (11, .aload_n 0, 1), (12, .getfield 62, 3), (15, .iload_n 1, 1), (16, .aload_n 0, 1), (17, .getfield 21, 3), (20, .getfield 260, 3), (23, .invokevirtual 263, 3), (26, .goto 4, 3), (29, .iconst (-1), 1), (30, .ireturn, 1)]
theorem DX10_fits_0 : dAll cX10_fits lDX10_fits_0 = true := by decide +kernel
theorem dX10_fits_0 : decode cX10_fits 0 = .ok (.aload_n 0, 1) := dAt (x := (0, .aload_n 0, 1)) DX10_fits_0 0 rfl
theorem dX10_fits_1 : decode cX10_fits 1 = .ok (.getfield 21, 3) := dAt (x := (1, .getfield 21, 3)) DX10_fits_0 1 rfl
theorem dX10_fits_4 : decode cX10_fits 4 = .ok (.iload_n 1, 1) := dAt (x := (4, .iload_n 1, 1)) DX10_fits_0 2 rfl
theorem dX10_fits_5 : decode cX10_fits 5 = .ok (.invokevirtual 110, 3) := dAt (x := (5, .invokevirtual 110, 3)) DX10_fits_0 3 rfl
theorem dX10_fits_8 : decode cX10_fits 8 = .ok (.ifCond .eq 21, 3) := dAt (x := (8, .ifCond .eq 21, 3)) DX10_fits_0 4 rfl
theorem dX10_fits_11 : decode cX10_fits 11 = .ok (.aload_n 0, 1) := dAt (x := (11, .aload_n 0, 1)) DX10_fits_0 5 rfl
theorem dX10_fits_12 : decode cX10_fits 12 = .ok (.getfield 62, 3) := dAt (x := (12, .getfield 62, 3)) DX10_fits_0 6 rfl
theorem dX10_fits_15 : decode cX10_fits 15 = .ok (.iload_n 1, 1) := dAt (x := (15, .iload_n 1, 1)) DX10_fits_0 7 rfl
theorem dX10_fits_16 : decode cX10_fits 16 = .ok (.aload_n 0, 1) := dAt (x := (16, .aload_n 0, 1)) DX10_fits_0 8 rfl
theorem dX10_fits_17 : decode cX10_fits 17 = .ok (.getfield 21, 3) := dAt (x := (17, .getfield 21, 3)) DX10_fits_0 9 rfl
theorem dX10_fits_20 : decode cX10_fits 20 = .ok (.getfield 260, 3) := dAt (x := (20, .getfield 260, 3)) DX10_fits_0 10 rfl
theorem dX10_fits_23 : decode cX10_fits 23 = .ok (.invokevirtual 263, 3) := dAt (x := (23, .invokevirtual 263, 3)) DX10_fits_0 11 rfl
theorem dX10_fits_26 : decode cX10_fits 26 = .ok (.goto 4, 3) := dAt (x := (26, .goto 4, 3)) DX10_fits_0 12 rfl
theorem dX10_fits_29 : decode cX10_fits 29 = .ok (.iconst (-1), 1) := dAt (x := (29, .iconst (-1), 1)) DX10_fits_0 13 rfl
theorem dX10_fits_30 : decode cX10_fits 30 = .ok (.ireturn, 1) := dAt (x := (30, .ireturn, 1)) DX10_fits_0 14 rfl
def lDX10_ask_0 : List (Nat × Instr × Nat) := [(0, .aload_n 0, 1), (1, .getfield 21, 3), (4, .iload_n 1, 1), (5, .invokevirtual 110, 3), (8, .ifCond .eq 12, 3), (11, .iload_n 2, 1), (12, .ifCond .lt 8, 3), (15, .iload_n 2, 1), (16, .iconst 1, 1), (17, .if_icmp .le 5, 3), (20, .iconst (-1), 1), (21, .ireturn, 1), (22, .aload_n 0, 1), (23, .getfield 62, 3), (26, .iload_n 1, 1), (27, .aload_n 0, 1), (28, .getfield 21, 3), (31, .getfield 260, 3), (34, .iload_n 2, 1), (35, .invokevirtual 266, 3), (38, .ireturn, 1)]
theorem DX10_ask_0 : dAll cX10_ask lDX10_ask_0 = true := by decide +kernel
theorem dX10_ask_0 : decode cX10_ask 0 = .ok (.aload_n 0, 1) := dAt (x := (0, .aload_n 0, 1)) DX10_ask_0 0 rfl
theorem dX10_ask_1 : decode cX10_ask 1 = .ok (.getfield 21, 3) := dAt (x := (1, .getfield 21, 3)) DX10_ask_0 1 rfl
theorem dX10_ask_4 : decode cX10_ask 4 = .ok (.iload_n 1, 1) := dAt (x := (4, .iload_n 1, 1)) DX10_ask_0 2 rfl
theorem dX10_ask_5 : decode cX10_ask 5 = .ok (.invokevirtual 110, 3) := dAt (x := (5, .invokevirtual 110, 3)) DX10_ask_0 3 rfl
theorem dX10_ask_8 : decode cX10_ask 8 = .ok (.ifCond .eq 12, 3) := dAt (x := (8, .ifCond .eq 12, 3)) DX10_ask_0 4 rfl
theorem dX10_ask_11 : decode cX10_ask 11 = .ok (.iload_n 2, 1) := dAt (x := (11, .iload_n 2, 1)) DX10_ask_0 5 rfl
theorem dX10_ask_12 : decode cX10_ask 12 = .ok (.ifCond .lt 8, 3) := dAt (x := (12, .ifCond .lt 8, 3)) DX10_ask_0 6 rfl
theorem dX10_ask_15 : decode cX10_ask 15 = .ok (.iload_n 2, 1) := dAt (x := (15, .iload_n 2, 1)) DX10_ask_0 7 rfl
theorem dX10_ask_16 : decode cX10_ask 16 = .ok (.iconst 1, 1) := dAt (x := (16, .iconst 1, 1)) DX10_ask_0 8 rfl
theorem dX10_ask_17 : decode cX10_ask 17 = .ok (.if_icmp .le 5, 3) := dAt (x := (17, .if_icmp .le 5, 3)) DX10_ask_0 9 rfl
theorem dX10_ask_20 : decode cX10_ask 20 = .ok (.iconst (-1), 1) := dAt (x := (20, .iconst (-1), 1)) DX10_ask_0 10 rfl
theorem dX10_ask_21 : decode cX10_ask 21 = .ok (.ireturn, 1) := dAt (x := (21, .ireturn, 1)) DX10_ask_0 11 rfl
theorem dX10_ask_22 : decode cX10_ask 22 = .ok (.aload_n 0, 1) := dAt (x := (22, .aload_n 0, 1)) DX10_ask_0 12 rfl
theorem dX10_ask_23 : decode cX10_ask 23 = .ok (.getfield 62, 3) := dAt (x := (23, .getfield 62, 3)) DX10_ask_0 13 rfl
theorem dX10_ask_26 : decode cX10_ask 26 = .ok (.iload_n 1, 1) := dAt (x := (26, .iload_n 1, 1)) DX10_ask_0 14 rfl
theorem dX10_ask_27 : decode cX10_ask 27 = .ok (.aload_n 0, 1) := dAt (x := (27, .aload_n 0, 1)) DX10_ask_0 15 rfl
theorem dX10_ask_28 : decode cX10_ask 28 = .ok (.getfield 21, 3) := dAt (x := (28, .getfield 21, 3)) DX10_ask_0 16 rfl
theorem dX10_ask_31 : decode cX10_ask 31 = .ok (.getfield 260, 3) := dAt (x := (31, .getfield 260, 3)) DX10_ask_0 17 rfl
theorem dX10_ask_34 : decode cX10_ask 34 = .ok (.iload_n 2, 1) := dAt (x := (34, .iload_n 2, 1)) DX10_ask_0 18 rfl
theorem dX10_ask_35 : decode cX10_ask 35 = .ok (.invokevirtual 266, 3) := dAt (x := (35, .invokevirtual 266, 3)) DX10_ask_0 19 rfl
theorem dX10_ask_38 : decode cX10_ask 38 = .ok (.ireturn, 1) := dAt (x := (38, .ireturn, 1)) DX10_ask_0 20 rfl
def lDX10_chance_0 : List (Nat × Instr × Nat) := [(0, .iload_n 1, 1), (1, .ifCond .lt 25, 3), (4, .iload_n 2, 1), (5, .iconst 1, 1), (6, .if_icmp .lt 20, 3), (9, .iload_n 2, 1), (10, .bipush 99, 2), (12, .if_icmp .gt 14, 3), (15, .aload_n 0, 1), (16, .getfield 21, 3), (19, .iload_n 3, 1), (20, .invokevirtual 110, 3), (23, .ifCond .ne 5, 3), (26, .iconst (-1), 1), (27, .ireturn, 1), (28, .aload_n 0, 1), (29, .getfield 41, 3), (32, .invokevirtual 166, 3), (35, .iload_n 1, 1), (36, .i2l, 1), (37, .lstore 4, 2), (39, .iconst 0, 1), (40, .istore 6, 2), (42, .iconst 0, 1), (43, .istore 7, 2), (45, .iload 7, 2), (47, .bipush 10, 2), (49, .if_icmp .ge 70, 3), (52, .aload_n 0, 1), (53, .getfield 32, 3), (56, .aload_n 0, 1), (57, .getfield 28, 3), (60, .invokevirtual 173, 3), (63, .aload_n 0, 1), (64, .getfield 32, 3), (67, .lload 4, 2), (69, .putfield 269, 3), (72, .aload_n 0, 1), (73, .getfield 41, 3), (76, .aload_n 0, 1), (77, .getfield 21, 3), (80, .aload_n 0, 1), (81, .getfield 32, 3), (84, .iload_n 2, 1), (85, .invokevirtual 169, 3), (88, .aload_n 0, 1), (89, .getfield 32, 3), (92, .getfield 269, 3), (95, .lstore 4, 2), (97, .iload 6, 2), (99, .aload_n 0, 1), (100, .getfield 32, 3), (103, .getfield 123, 3), (106, .iload_n 3, 1), (107, .ishr, 1), (108, .iconst 1, 1), (109, .iand, 1), (110, .iadd, 1), (111, .istore 6, 2), (113, .iinc 7 1, 3)]
theorem DX10_chance_0 : dAll cX10_chance lDX10_chance_0 = true := by decide +kernel
theorem dX10_chance_0 : decode cX10_chance 0 = .ok (.iload_n 1, 1) := dAt (x := (0, .iload_n 1, 1)) DX10_chance_0 0 rfl
theorem dX10_chance_1 : decode cX10_chance 1 = .ok (.ifCond .lt 25, 3) := dAt (x := (1, .ifCond .lt 25, 3)) DX10_chance_0 1 rfl
theorem dX10_chance_4 : decode cX10_chance 4 = .ok (.iload_n 2, 1) := dAt (x := (4, .iload_n 2, 1)) DX10_chance_0 2 rfl
theorem dX10_chance_5 : decode cX10_chance 5 = .ok (.iconst 1, 1) := dAt (x := (5, .iconst 1, 1)) DX10_chance_0 3 rfl
theorem dX10_chance_6 : decode cX10_chance 6 = .ok (.if_icmp .lt 20, 3) := dAt (x := (6, .if_icmp .lt 20, 3)) DX10_chance_0 4 rfl
theorem dX10_chance_9 : decode cX10_chance 9 = .ok (.iload_n 2, 1) := dAt (x := (9, .iload_n 2, 1)) DX10_chance_0 5 rfl
theorem dX10_chance_10 : decode cX10_chance 10 = .ok (.bipush 99, 2) := dAt (x := (10, .bipush 99, 2)) DX10_chance_0 6 rfl
theorem dX10_chance_12 : decode cX10_chance 12 = .ok (.if_icmp .gt 14, 3) := dAt (x := (12, .if_icmp .gt 14, 3)) DX10_chance_0 7 rfl
theorem dX10_chance_15 : decode cX10_chance 15 = .ok (.aload_n 0, 1) := dAt (x := (15, .aload_n 0, 1)) DX10_chance_0 8 rfl
theorem dX10_chance_16 : decode cX10_chance 16 = .ok (.getfield 21, 3) := dAt (x := (16, .getfield 21, 3)) DX10_chance_0 9 rfl
theorem dX10_chance_19 : decode cX10_chance 19 = .ok (.iload_n 3, 1) := dAt (x := (19, .iload_n 3, 1)) DX10_chance_0 10 rfl
theorem dX10_chance_20 : decode cX10_chance 20 = .ok (.invokevirtual 110, 3) := dAt (x := (20, .invokevirtual 110, 3)) DX10_chance_0 11 rfl
theorem dX10_chance_23 : decode cX10_chance 23 = .ok (.ifCond .ne 5, 3) := dAt (x := (23, .ifCond .ne 5, 3)) DX10_chance_0 12 rfl
theorem dX10_chance_26 : decode cX10_chance 26 = .ok (.iconst (-1), 1) := dAt (x := (26, .iconst (-1), 1)) DX10_chance_0 13 rfl
theorem dX10_chance_27 : decode cX10_chance 27 = .ok (.ireturn, 1) := dAt (x := (27, .ireturn, 1)) DX10_chance_0 14 rfl
theorem dX10_chance_28 : decode cX10_chance 28 = .ok (.aload_n 0, 1) := dAt (x := (28, .aload_n 0, 1)) DX10_chance_0 15 rfl
theorem dX10_chance_29 : decode cX10_chance 29 = .ok (.getfield 41, 3) := dAt (x := (29, .getfield 41, 3)) DX10_chance_0 16 rfl
theorem dX10_chance_32 : decode cX10_chance 32 = .ok (.invokevirtual 166, 3) := dAt (x := (32, .invokevirtual 166, 3)) DX10_chance_0 17 rfl
theorem dX10_chance_35 : decode cX10_chance 35 = .ok (.iload_n 1, 1) := dAt (x := (35, .iload_n 1, 1)) DX10_chance_0 18 rfl
theorem dX10_chance_36 : decode cX10_chance 36 = .ok (.i2l, 1) := dAt (x := (36, .i2l, 1)) DX10_chance_0 19 rfl
theorem dX10_chance_37 : decode cX10_chance 37 = .ok (.lstore 4, 2) := dAt (x := (37, .lstore 4, 2)) DX10_chance_0 20 rfl
theorem dX10_chance_39 : decode cX10_chance 39 = .ok (.iconst 0, 1) := dAt (x := (39, .iconst 0, 1)) DX10_chance_0 21 rfl
theorem dX10_chance_40 : decode cX10_chance 40 = .ok (.istore 6, 2) := dAt (x := (40, .istore 6, 2)) DX10_chance_0 22 rfl
theorem dX10_chance_42 : decode cX10_chance 42 = .ok (.iconst 0, 1) := dAt (x := (42, .iconst 0, 1)) DX10_chance_0 23 rfl
theorem dX10_chance_43 : decode cX10_chance 43 = .ok (.istore 7, 2) := dAt (x := (43, .istore 7, 2)) DX10_chance_0 24 rfl
theorem dX10_chance_45 : decode cX10_chance 45 = .ok (.iload 7, 2) := dAt (x := (45, .iload 7, 2)) DX10_chance_0 25 rfl
theorem dX10_chance_47 : decode cX10_chance 47 = .ok (.bipush 10, 2) := dAt (x := (47, .bipush 10, 2)) DX10_chance_0 26 rfl
theorem dX10_chance_49 : decode cX10_chance 49 = .ok (.if_icmp .ge 70, 3) := dAt (x := (49, .if_icmp .ge 70, 3)) DX10_chance_0 27 rfl
theorem dX10_chance_52 : decode cX10_chance 52 = .ok (.aload_n 0, 1) := dAt (x := (52, .aload_n 0, 1)) DX10_chance_0 28 rfl
theorem dX10_chance_53 : decode cX10_chance 53 = .ok (.getfield 32, 3) := dAt (x := (53, .getfield 32, 3)) DX10_chance_0 29 rfl
theorem dX10_chance_56 : decode cX10_chance 56 = .ok (.aload_n 0, 1) := dAt (x := (56, .aload_n 0, 1)) DX10_chance_0 30 rfl
theorem dX10_chance_57 : decode cX10_chance 57 = .ok (.getfield 28, 3) := dAt (x := (57, .getfield 28, 3)) DX10_chance_0 31 rfl
theorem dX10_chance_60 : decode cX10_chance 60 = .ok (.invokevirtual 173, 3) := dAt (x := (60, .invokevirtual 173, 3)) DX10_chance_0 32 rfl
theorem dX10_chance_63 : decode cX10_chance 63 = .ok (.aload_n 0, 1) := dAt (x := (63, .aload_n 0, 1)) DX10_chance_0 33 rfl
theorem dX10_chance_64 : decode cX10_chance 64 = .ok (.getfield 32, 3) := dAt (x := (64, .getfield 32, 3)) DX10_chance_0 34 rfl
theorem dX10_chance_67 : decode cX10_chance 67 = .ok (.lload 4, 2) := dAt (x := (67, .lload 4, 2)) DX10_chance_0 35 rfl
theorem dX10_chance_69 : decode cX10_chance 69 = .ok (.putfield 269, 3) := dAt (x := (69, .putfield 269, 3)) DX10_chance_0 36 rfl
theorem dX10_chance_72 : decode cX10_chance 72 = .ok (.aload_n 0, 1) := dAt (x := (72, .aload_n 0, 1)) DX10_chance_0 37 rfl
theorem dX10_chance_73 : decode cX10_chance 73 = .ok (.getfield 41, 3) := dAt (x := (73, .getfield 41, 3)) DX10_chance_0 38 rfl
theorem dX10_chance_76 : decode cX10_chance 76 = .ok (.aload_n 0, 1) := dAt (x := (76, .aload_n 0, 1)) DX10_chance_0 39 rfl
theorem dX10_chance_77 : decode cX10_chance 77 = .ok (.getfield 21, 3) := dAt (x := (77, .getfield 21, 3)) DX10_chance_0 40 rfl
theorem dX10_chance_80 : decode cX10_chance 80 = .ok (.aload_n 0, 1) := dAt (x := (80, .aload_n 0, 1)) DX10_chance_0 41 rfl
theorem dX10_chance_81 : decode cX10_chance 81 = .ok (.getfield 32, 3) := dAt (x := (81, .getfield 32, 3)) DX10_chance_0 42 rfl
theorem dX10_chance_84 : decode cX10_chance 84 = .ok (.iload_n 2, 1) := dAt (x := (84, .iload_n 2, 1)) DX10_chance_0 43 rfl
theorem dX10_chance_85 : decode cX10_chance 85 = .ok (.invokevirtual 169, 3) := dAt (x := (85, .invokevirtual 169, 3)) DX10_chance_0 44 rfl
theorem dX10_chance_88 : decode cX10_chance 88 = .ok (.aload_n 0, 1) := dAt (x := (88, .aload_n 0, 1)) DX10_chance_0 45 rfl
theorem dX10_chance_89 : decode cX10_chance 89 = .ok (.getfield 32, 3) := dAt (x := (89, .getfield 32, 3)) DX10_chance_0 46 rfl
theorem dX10_chance_92 : decode cX10_chance 92 = .ok (.getfield 269, 3) := dAt (x := (92, .getfield 269, 3)) DX10_chance_0 47 rfl
theorem dX10_chance_95 : decode cX10_chance 95 = .ok (.lstore 4, 2) := dAt (x := (95, .lstore 4, 2)) DX10_chance_0 48 rfl
theorem dX10_chance_97 : decode cX10_chance 97 = .ok (.iload 6, 2) := dAt (x := (97, .iload 6, 2)) DX10_chance_0 49 rfl
theorem dX10_chance_99 : decode cX10_chance 99 = .ok (.aload_n 0, 1) := dAt (x := (99, .aload_n 0, 1)) DX10_chance_0 50 rfl
theorem dX10_chance_100 : decode cX10_chance 100 = .ok (.getfield 32, 3) := dAt (x := (100, .getfield 32, 3)) DX10_chance_0 51 rfl
theorem dX10_chance_103 : decode cX10_chance 103 = .ok (.getfield 123, 3) := dAt (x := (103, .getfield 123, 3)) DX10_chance_0 52 rfl
theorem dX10_chance_106 : decode cX10_chance 106 = .ok (.iload_n 3, 1) := dAt (x := (106, .iload_n 3, 1)) DX10_chance_0 53 rfl
theorem dX10_chance_107 : decode cX10_chance 107 = .ok (.ishr, 1) := dAt (x := (107, .ishr, 1)) DX10_chance_0 54 rfl
theorem dX10_chance_108 : decode cX10_chance 108 = .ok (.iconst 1, 1) := dAt (x := (108, .iconst 1, 1)) DX10_chance_0 55 rfl
theorem dX10_chance_109 : decode cX10_chance 109 = .ok (.iand, 1) := dAt (x := (109, .iand, 1)) DX10_chance_0 56 rfl
theorem dX10_chance_110 : decode cX10_chance 110 = .ok (.iadd, 1) := dAt (x := (110, .iadd, 1)) DX10_chance_0 57 rfl
theorem dX10_chance_111 : decode cX10_chance 111 = .ok (.istore 6, 2) := dAt (x := (111, .istore 6, 2)) DX10_chance_0 58 rfl
theorem dX10_chance_113 : decode cX10_chance 113 = .ok (.iinc 7 1, 3) := dAt (x := (113, .iinc 7 1, 3)) DX10_chance_0 59 rfl
def lDX10_chance_1 : List (Nat × Instr × Nat) := [(116, .goto (-71), 3), (119, .iload 6, 2), (121, .ireturn, 1)]
theorem DX10_chance_1 : dAll cX10_chance lDX10_chance_1 = true := by decide +kernel
theorem dX10_chance_116 : decode cX10_chance 116 = .ok (.goto (-71), 3) := dAt (x := (116, .goto (-71), 3)) DX10_chance_1 0 rfl
theorem dX10_chance_119 : decode cX10_chance 119 = .ok (.iload 6, 2) := dAt (x := (119, .iload 6, 2)) DX10_chance_1 1 rfl
theorem dX10_chance_121 : decode cX10_chance 121 = .ok (.ireturn, 1) := dAt (x := (121, .ireturn, 1)) DX10_chance_1 2 rfl
def lDX10_tried_0 : List (Nat × Instr × Nat) := [(0, .iload_n 1, 1), (1, .iconst 2, 1), (2, .if_icmp .ne 14, 3), (5, .aload_n 0, 1), (6, .getfield 21, 3), (9, .iload_n 2, 1), (10, .invokevirtual 110, 3), (13, .goto 12, 3), (16, .iload_n 2, 1), (17, .ifCond .ne 7, 3), (20, .iconst 1, 1), (21, .goto 4, 3), (24, .iconst 0, 1), (25, .istore 4, 2), (27, .iload_n 1, 1), (28, .ifCond .lt 24, 3), (31, .iload_n 1, 1), (32, .iconst 4, 1), (33, .if_icmp .gt 19, 3), (36, .iload 4, 2), (38, .ifCond .eq 14, 3), (41, .iload_n 3, 1), (42, .ifCond .lt 10, 3), (45, .iload_n 3, 1), (46, .sipush 200, 3), (49, .if_icmp .le 5, 3), (52, .iconst (-1), 1), (53, .ireturn, 1), (54, .aload_n 0, 1), (55, .getfield 32, 3), (58, .aload_n 0, 1), (59, .getfield 28, 3), (62, .invokevirtual 173, 3), (65, .aload_n 0, 1), (66, .getfield 41, 3), (69, .iload_n 1, 1), (70, .iload_n 2, 1), (71, .invokevirtual 273, 3), (74, .aload_n 0, 1), (75, .getfield 41, 3), (78, .aload_n 0, 1), (79, .getfield 21, 3), (82, .aload_n 0, 1), (83, .getfield 32, 3), (86, .iload_n 3, 1), (87, .invokevirtual 169, 3), (90, .aload_n 0, 1), (91, .getfield 32, 3), (94, .getfield 177, 3), (97, .aload_n 0, 1), (98, .getfield 28, 3), (101, .getfield 177, 3), (104, .isub, 1), (105, .ireturn, 1)]
theorem DX10_tried_0 : dAll cX10_tried lDX10_tried_0 = true := by decide +kernel
theorem dX10_tried_0 : decode cX10_tried 0 = .ok (.iload_n 1, 1) := dAt (x := (0, .iload_n 1, 1)) DX10_tried_0 0 rfl
theorem dX10_tried_1 : decode cX10_tried 1 = .ok (.iconst 2, 1) := dAt (x := (1, .iconst 2, 1)) DX10_tried_0 1 rfl
theorem dX10_tried_2 : decode cX10_tried 2 = .ok (.if_icmp .ne 14, 3) := dAt (x := (2, .if_icmp .ne 14, 3)) DX10_tried_0 2 rfl
theorem dX10_tried_5 : decode cX10_tried 5 = .ok (.aload_n 0, 1) := dAt (x := (5, .aload_n 0, 1)) DX10_tried_0 3 rfl
theorem dX10_tried_6 : decode cX10_tried 6 = .ok (.getfield 21, 3) := dAt (x := (6, .getfield 21, 3)) DX10_tried_0 4 rfl
theorem dX10_tried_9 : decode cX10_tried 9 = .ok (.iload_n 2, 1) := dAt (x := (9, .iload_n 2, 1)) DX10_tried_0 5 rfl
theorem dX10_tried_10 : decode cX10_tried 10 = .ok (.invokevirtual 110, 3) := dAt (x := (10, .invokevirtual 110, 3)) DX10_tried_0 6 rfl
theorem dX10_tried_13 : decode cX10_tried 13 = .ok (.goto 12, 3) := dAt (x := (13, .goto 12, 3)) DX10_tried_0 7 rfl
theorem dX10_tried_16 : decode cX10_tried 16 = .ok (.iload_n 2, 1) := dAt (x := (16, .iload_n 2, 1)) DX10_tried_0 8 rfl
theorem dX10_tried_17 : decode cX10_tried 17 = .ok (.ifCond .ne 7, 3) := dAt (x := (17, .ifCond .ne 7, 3)) DX10_tried_0 9 rfl
theorem dX10_tried_20 : decode cX10_tried 20 = .ok (.iconst 1, 1) := dAt (x := (20, .iconst 1, 1)) DX10_tried_0 10 rfl
theorem dX10_tried_21 : decode cX10_tried 21 = .ok (.goto 4, 3) := dAt (x := (21, .goto 4, 3)) DX10_tried_0 11 rfl
theorem dX10_tried_24 : decode cX10_tried 24 = .ok (.iconst 0, 1) := dAt (x := (24, .iconst 0, 1)) DX10_tried_0 12 rfl
theorem dX10_tried_25 : decode cX10_tried 25 = .ok (.istore 4, 2) := dAt (x := (25, .istore 4, 2)) DX10_tried_0 13 rfl
theorem dX10_tried_27 : decode cX10_tried 27 = .ok (.iload_n 1, 1) := dAt (x := (27, .iload_n 1, 1)) DX10_tried_0 14 rfl
theorem dX10_tried_28 : decode cX10_tried 28 = .ok (.ifCond .lt 24, 3) := dAt (x := (28, .ifCond .lt 24, 3)) DX10_tried_0 15 rfl
theorem dX10_tried_31 : decode cX10_tried 31 = .ok (.iload_n 1, 1) := dAt (x := (31, .iload_n 1, 1)) DX10_tried_0 16 rfl
theorem dX10_tried_32 : decode cX10_tried 32 = .ok (.iconst 4, 1) := dAt (x := (32, .iconst 4, 1)) DX10_tried_0 17 rfl
theorem dX10_tried_33 : decode cX10_tried 33 = .ok (.if_icmp .gt 19, 3) := dAt (x := (33, .if_icmp .gt 19, 3)) DX10_tried_0 18 rfl
theorem dX10_tried_36 : decode cX10_tried 36 = .ok (.iload 4, 2) := dAt (x := (36, .iload 4, 2)) DX10_tried_0 19 rfl
theorem dX10_tried_38 : decode cX10_tried 38 = .ok (.ifCond .eq 14, 3) := dAt (x := (38, .ifCond .eq 14, 3)) DX10_tried_0 20 rfl
theorem dX10_tried_41 : decode cX10_tried 41 = .ok (.iload_n 3, 1) := dAt (x := (41, .iload_n 3, 1)) DX10_tried_0 21 rfl
theorem dX10_tried_42 : decode cX10_tried 42 = .ok (.ifCond .lt 10, 3) := dAt (x := (42, .ifCond .lt 10, 3)) DX10_tried_0 22 rfl
theorem dX10_tried_45 : decode cX10_tried 45 = .ok (.iload_n 3, 1) := dAt (x := (45, .iload_n 3, 1)) DX10_tried_0 23 rfl
theorem dX10_tried_46 : decode cX10_tried 46 = .ok (.sipush 200, 3) := dAt (x := (46, .sipush 200, 3)) DX10_tried_0 24 rfl
theorem dX10_tried_49 : decode cX10_tried 49 = .ok (.if_icmp .le 5, 3) := dAt (x := (49, .if_icmp .le 5, 3)) DX10_tried_0 25 rfl
theorem dX10_tried_52 : decode cX10_tried 52 = .ok (.iconst (-1), 1) := dAt (x := (52, .iconst (-1), 1)) DX10_tried_0 26 rfl
theorem dX10_tried_53 : decode cX10_tried 53 = .ok (.ireturn, 1) := dAt (x := (53, .ireturn, 1)) DX10_tried_0 27 rfl
theorem dX10_tried_54 : decode cX10_tried 54 = .ok (.aload_n 0, 1) := dAt (x := (54, .aload_n 0, 1)) DX10_tried_0 28 rfl
theorem dX10_tried_55 : decode cX10_tried 55 = .ok (.getfield 32, 3) := dAt (x := (55, .getfield 32, 3)) DX10_tried_0 29 rfl
theorem dX10_tried_58 : decode cX10_tried 58 = .ok (.aload_n 0, 1) := dAt (x := (58, .aload_n 0, 1)) DX10_tried_0 30 rfl
theorem dX10_tried_59 : decode cX10_tried 59 = .ok (.getfield 28, 3) := dAt (x := (59, .getfield 28, 3)) DX10_tried_0 31 rfl
theorem dX10_tried_62 : decode cX10_tried 62 = .ok (.invokevirtual 173, 3) := dAt (x := (62, .invokevirtual 173, 3)) DX10_tried_0 32 rfl
theorem dX10_tried_65 : decode cX10_tried 65 = .ok (.aload_n 0, 1) := dAt (x := (65, .aload_n 0, 1)) DX10_tried_0 33 rfl
theorem dX10_tried_66 : decode cX10_tried 66 = .ok (.getfield 41, 3) := dAt (x := (66, .getfield 41, 3)) DX10_tried_0 34 rfl
theorem dX10_tried_69 : decode cX10_tried 69 = .ok (.iload_n 1, 1) := dAt (x := (69, .iload_n 1, 1)) DX10_tried_0 35 rfl
theorem dX10_tried_70 : decode cX10_tried 70 = .ok (.iload_n 2, 1) := dAt (x := (70, .iload_n 2, 1)) DX10_tried_0 36 rfl
theorem dX10_tried_71 : decode cX10_tried 71 = .ok (.invokevirtual 273, 3) := dAt (x := (71, .invokevirtual 273, 3)) DX10_tried_0 37 rfl
theorem dX10_tried_74 : decode cX10_tried 74 = .ok (.aload_n 0, 1) := dAt (x := (74, .aload_n 0, 1)) DX10_tried_0 38 rfl
theorem dX10_tried_75 : decode cX10_tried 75 = .ok (.getfield 41, 3) := dAt (x := (75, .getfield 41, 3)) DX10_tried_0 39 rfl
theorem dX10_tried_78 : decode cX10_tried 78 = .ok (.aload_n 0, 1) := dAt (x := (78, .aload_n 0, 1)) DX10_tried_0 40 rfl
theorem dX10_tried_79 : decode cX10_tried 79 = .ok (.getfield 21, 3) := dAt (x := (79, .getfield 21, 3)) DX10_tried_0 41 rfl
theorem dX10_tried_82 : decode cX10_tried 82 = .ok (.aload_n 0, 1) := dAt (x := (82, .aload_n 0, 1)) DX10_tried_0 42 rfl
theorem dX10_tried_83 : decode cX10_tried 83 = .ok (.getfield 32, 3) := dAt (x := (83, .getfield 32, 3)) DX10_tried_0 43 rfl
theorem dX10_tried_86 : decode cX10_tried 86 = .ok (.iload_n 3, 1) := dAt (x := (86, .iload_n 3, 1)) DX10_tried_0 44 rfl
theorem dX10_tried_87 : decode cX10_tried 87 = .ok (.invokevirtual 169, 3) := dAt (x := (87, .invokevirtual 169, 3)) DX10_tried_0 45 rfl
theorem dX10_tried_90 : decode cX10_tried 90 = .ok (.aload_n 0, 1) := dAt (x := (90, .aload_n 0, 1)) DX10_tried_0 46 rfl
theorem dX10_tried_91 : decode cX10_tried 91 = .ok (.getfield 32, 3) := dAt (x := (91, .getfield 32, 3)) DX10_tried_0 47 rfl
theorem dX10_tried_94 : decode cX10_tried 94 = .ok (.getfield 177, 3) := dAt (x := (94, .getfield 177, 3)) DX10_tried_0 48 rfl
theorem dX10_tried_97 : decode cX10_tried 97 = .ok (.aload_n 0, 1) := dAt (x := (97, .aload_n 0, 1)) DX10_tried_0 49 rfl
theorem dX10_tried_98 : decode cX10_tried 98 = .ok (.getfield 28, 3) := dAt (x := (98, .getfield 28, 3)) DX10_tried_0 50 rfl
theorem dX10_tried_101 : decode cX10_tried 101 = .ok (.getfield 177, 3) := dAt (x := (101, .getfield 177, 3)) DX10_tried_0 51 rfl
theorem dX10_tried_104 : decode cX10_tried 104 = .ok (.isub, 1) := dAt (x := (104, .isub, 1)) DX10_tried_0 52 rfl
theorem dX10_tried_105 : decode cX10_tried 105 = .ok (.ireturn, 1) := dAt (x := (105, .ireturn, 1)) DX10_tried_0 53 rfl
def lDX10_undo_0 : List (Nat × Instr × Nat) := [(0, .aload_n 0, 1), (1, .getfield 48, 3), (4, .aload_n 0, 1), (5, .getfield 28, 3), (8, .invokevirtual 277, 3), (11, .ireturn, 1)]
theorem DX10_undo_0 : dAll cX10_undo lDX10_undo_0 = true := by decide +kernel
theorem dX10_undo_0 : decode cX10_undo 0 = .ok (.aload_n 0, 1) := dAt (x := (0, .aload_n 0, 1)) DX10_undo_0 0 rfl
theorem dX10_undo_1 : decode cX10_undo 1 = .ok (.getfield 48, 3) := dAt (x := (1, .getfield 48, 3)) DX10_undo_0 1 rfl
theorem dX10_undo_4 : decode cX10_undo 4 = .ok (.aload_n 0, 1) := dAt (x := (4, .aload_n 0, 1)) DX10_undo_0 2 rfl
theorem dX10_undo_5 : decode cX10_undo 5 = .ok (.getfield 28, 3) := dAt (x := (5, .getfield 28, 3)) DX10_undo_0 3 rfl
theorem dX10_undo_8 : decode cX10_undo 8 = .ok (.invokevirtual 277, 3) := dAt (x := (8, .invokevirtual 277, 3)) DX10_undo_0 4 rfl
theorem dX10_undo_11 : decode cX10_undo 11 = .ok (.ireturn, 1) := dAt (x := (11, .ireturn, 1)) DX10_undo_0 5 rfl
def lDX10_keep_0 : List (Nat × Instr × Nat) := [(0, .aload_n 0, 1), (1, .getfield 35, 3), (4, .aload_n 0, 1), (5, .getfield 28, 3), (8, .invokevirtual 173, 3), (11, .aload_n 0, 1), (12, .iconst 1, 1), (13, .putfield 93, 3), (16, .aload_n 0, 1), (17, .getfield 28, 3), (20, .getfield 163, 3), (23, .ireturn, 1)]
theorem DX10_keep_0 : dAll cX10_keep lDX10_keep_0 = true := by decide +kernel
theorem dX10_keep_0 : decode cX10_keep 0 = .ok (.aload_n 0, 1) := dAt (x := (0, .aload_n 0, 1)) DX10_keep_0 0 rfl
theorem dX10_keep_1 : decode cX10_keep 1 = .ok (.getfield 35, 3) := dAt (x := (1, .getfield 35, 3)) DX10_keep_0 1 rfl
theorem dX10_keep_4 : decode cX10_keep 4 = .ok (.aload_n 0, 1) := dAt (x := (4, .aload_n 0, 1)) DX10_keep_0 2 rfl
theorem dX10_keep_5 : decode cX10_keep 5 = .ok (.getfield 28, 3) := dAt (x := (5, .getfield 28, 3)) DX10_keep_0 3 rfl
theorem dX10_keep_8 : decode cX10_keep 8 = .ok (.invokevirtual 173, 3) := dAt (x := (8, .invokevirtual 173, 3)) DX10_keep_0 4 rfl
theorem dX10_keep_11 : decode cX10_keep 11 = .ok (.aload_n 0, 1) := dAt (x := (11, .aload_n 0, 1)) DX10_keep_0 5 rfl
theorem dX10_keep_12 : decode cX10_keep 12 = .ok (.iconst 1, 1) := dAt (x := (12, .iconst 1, 1)) DX10_keep_0 6 rfl
theorem dX10_keep_13 : decode cX10_keep 13 = .ok (.putfield 93, 3) := dAt (x := (13, .putfield 93, 3)) DX10_keep_0 7 rfl
theorem dX10_keep_16 : decode cX10_keep 16 = .ok (.aload_n 0, 1) := dAt (x := (16, .aload_n 0, 1)) DX10_keep_0 8 rfl
theorem dX10_keep_17 : decode cX10_keep 17 = .ok (.getfield 28, 3) := dAt (x := (17, .getfield 28, 3)) DX10_keep_0 9 rfl
theorem dX10_keep_20 : decode cX10_keep 20 = .ok (.getfield 163, 3) := dAt (x := (20, .getfield 163, 3)) DX10_keep_0 10 rfl
theorem dX10_keep_23 : decode cX10_keep 23 = .ok (.ireturn, 1) := dAt (x := (23, .ireturn, 1)) DX10_keep_0 11 rfl
def lDX10_back_0 : List (Nat × Instr × Nat) := [(0, .aload_n 0, 1), (1, .getfield 93, 3), (4, .ifCond .ne 5, 3), (7, .iconst (-1), 1), (8, .ireturn, 1), (9, .aload_n 0, 1), (10, .getfield 28, 3), (13, .aload_n 0, 1), (14, .getfield 35, 3), (17, .invokevirtual 173, 3), (20, .aload_n 0, 1), (21, .getfield 48, 3), (24, .invokevirtual 92, 3), (27, .aload_n 0, 1), (28, .getfield 28, 3), (31, .getfield 163, 3), (34, .ireturn, 1)]
theorem DX10_back_0 : dAll cX10_back lDX10_back_0 = true := by decide +kernel
theorem dX10_back_0 : decode cX10_back 0 = .ok (.aload_n 0, 1) := dAt (x := (0, .aload_n 0, 1)) DX10_back_0 0 rfl
theorem dX10_back_1 : decode cX10_back 1 = .ok (.getfield 93, 3) := dAt (x := (1, .getfield 93, 3)) DX10_back_0 1 rfl
theorem dX10_back_4 : decode cX10_back 4 = .ok (.ifCond .ne 5, 3) := dAt (x := (4, .ifCond .ne 5, 3)) DX10_back_0 2 rfl
theorem dX10_back_7 : decode cX10_back 7 = .ok (.iconst (-1), 1) := dAt (x := (7, .iconst (-1), 1)) DX10_back_0 3 rfl
theorem dX10_back_8 : decode cX10_back 8 = .ok (.ireturn, 1) := dAt (x := (8, .ireturn, 1)) DX10_back_0 4 rfl
theorem dX10_back_9 : decode cX10_back 9 = .ok (.aload_n 0, 1) := dAt (x := (9, .aload_n 0, 1)) DX10_back_0 5 rfl
theorem dX10_back_10 : decode cX10_back 10 = .ok (.getfield 28, 3) := dAt (x := (10, .getfield 28, 3)) DX10_back_0 6 rfl
theorem dX10_back_13 : decode cX10_back 13 = .ok (.aload_n 0, 1) := dAt (x := (13, .aload_n 0, 1)) DX10_back_0 7 rfl
theorem dX10_back_14 : decode cX10_back 14 = .ok (.getfield 35, 3) := dAt (x := (14, .getfield 35, 3)) DX10_back_0 8 rfl
theorem dX10_back_17 : decode cX10_back 17 = .ok (.invokevirtual 173, 3) := dAt (x := (17, .invokevirtual 173, 3)) DX10_back_0 9 rfl
theorem dX10_back_20 : decode cX10_back 20 = .ok (.aload_n 0, 1) := dAt (x := (20, .aload_n 0, 1)) DX10_back_0 10 rfl
theorem dX10_back_21 : decode cX10_back 21 = .ok (.getfield 48, 3) := dAt (x := (21, .getfield 48, 3)) DX10_back_0 11 rfl
theorem dX10_back_24 : decode cX10_back 24 = .ok (.invokevirtual 92, 3) := dAt (x := (24, .invokevirtual 92, 3)) DX10_back_0 12 rfl
theorem dX10_back_27 : decode cX10_back 27 = .ok (.aload_n 0, 1) := dAt (x := (27, .aload_n 0, 1)) DX10_back_0 13 rfl
theorem dX10_back_28 : decode cX10_back 28 = .ok (.getfield 28, 3) := dAt (x := (28, .getfield 28, 3)) DX10_back_0 14 rfl
theorem dX10_back_31 : decode cX10_back 31 = .ok (.getfield 163, 3) := dAt (x := (31, .getfield 163, 3)) DX10_back_0 15 rfl
theorem dX10_back_34 : decode cX10_back 34 = .ok (.ireturn, 1) := dAt (x := (34, .ireturn, 1)) DX10_back_0 16 rfl
def lDX10_count_0 : List (Nat × Instr × Nat) := [(0, .iload_n 1, 1), (1, .tableswitch 180 0 12 #[67, 75, 83, 91, 102, 110, 121, 132, 140, 148, 156, 164, 172], 67), (68, .aload_n 0, 1), (69, .getfield 21, 3), (72, .getfield 260, 3), (75, .ireturn, 1), (76, .aload_n 0, 1), (77, .getfield 21, 3), (80, .getfield 281, 3), (83, .ireturn, 1), (84, .aload_n 0, 1), (85, .getfield 21, 3), (88, .getfield 284, 3), (91, .ireturn, 1), (92, .aload_n 0, 1), (93, .getfield 21, 3), (96, .getfield 286, 3), (99, .getfield 290, 3), (102, .ireturn, 1), (103, .aload_n 0, 1), (104, .getfield 28, 3), (107, .getfield 163, 3), (110, .ireturn, 1), (111, .aload_n 0, 1), (112, .getfield 28, 3), (115, .getfield 120, 3), (118, .invokestatic 158, 3), (121, .ireturn, 1), (122, .aload_n 0, 1), (123, .getfield 28, 3), (126, .getfield 123, 3), (129, .invokestatic 158, 3), (132, .ireturn, 1), (133, .aload_n 0, 1), (134, .getfield 28, 3), (137, .getfield 177, 3), (140, .ireturn, 1), (141, .aload_n 0, 1), (142, .getfield 28, 3), (145, .getfield 180, 3), (148, .ireturn, 1), (149, .aload_n 0, 1), (150, .getfield 28, 3), (153, .invokevirtual 293, 3), (156, .ireturn, 1), (157, .aload_n 0, 1), (158, .getfield 62, 3), (161, .getfield 256, 3), (164, .ireturn, 1), (165, .aload_n 0, 1), (166, .getfield 62, 3), (169, .invokevirtual 296, 3), (172, .ireturn, 1), (173, .aload_n 0, 1), (174, .getfield 48, 3), (177, .getfield 299, 3), (180, .ireturn, 1), (181, .iconst (-1), 1), (182, .ireturn, 1)]
theorem DX10_count_0 : dAll cX10_count lDX10_count_0 = true := by decide +kernel
theorem dX10_count_0 : decode cX10_count 0 = .ok (.iload_n 1, 1) := dAt (x := (0, .iload_n 1, 1)) DX10_count_0 0 rfl
theorem dX10_count_1 : decode cX10_count 1 = .ok (.tableswitch 180 0 12 #[67, 75, 83, 91, 102, 110, 121, 132, 140, 148, 156, 164, 172], 67) := dAt (x := (1, .tableswitch 180 0 12 #[67, 75, 83, 91, 102, 110, 121, 132, 140, 148, 156, 164, 172], 67)) DX10_count_0 1 rfl
theorem dX10_count_68 : decode cX10_count 68 = .ok (.aload_n 0, 1) := dAt (x := (68, .aload_n 0, 1)) DX10_count_0 2 rfl
theorem dX10_count_69 : decode cX10_count 69 = .ok (.getfield 21, 3) := dAt (x := (69, .getfield 21, 3)) DX10_count_0 3 rfl
theorem dX10_count_72 : decode cX10_count 72 = .ok (.getfield 260, 3) := dAt (x := (72, .getfield 260, 3)) DX10_count_0 4 rfl
theorem dX10_count_75 : decode cX10_count 75 = .ok (.ireturn, 1) := dAt (x := (75, .ireturn, 1)) DX10_count_0 5 rfl
theorem dX10_count_76 : decode cX10_count 76 = .ok (.aload_n 0, 1) := dAt (x := (76, .aload_n 0, 1)) DX10_count_0 6 rfl
theorem dX10_count_77 : decode cX10_count 77 = .ok (.getfield 21, 3) := dAt (x := (77, .getfield 21, 3)) DX10_count_0 7 rfl
theorem dX10_count_80 : decode cX10_count 80 = .ok (.getfield 281, 3) := dAt (x := (80, .getfield 281, 3)) DX10_count_0 8 rfl
theorem dX10_count_83 : decode cX10_count 83 = .ok (.ireturn, 1) := dAt (x := (83, .ireturn, 1)) DX10_count_0 9 rfl
theorem dX10_count_84 : decode cX10_count 84 = .ok (.aload_n 0, 1) := dAt (x := (84, .aload_n 0, 1)) DX10_count_0 10 rfl
theorem dX10_count_85 : decode cX10_count 85 = .ok (.getfield 21, 3) := dAt (x := (85, .getfield 21, 3)) DX10_count_0 11 rfl
theorem dX10_count_88 : decode cX10_count 88 = .ok (.getfield 284, 3) := dAt (x := (88, .getfield 284, 3)) DX10_count_0 12 rfl
theorem dX10_count_91 : decode cX10_count 91 = .ok (.ireturn, 1) := dAt (x := (91, .ireturn, 1)) DX10_count_0 13 rfl
theorem dX10_count_92 : decode cX10_count 92 = .ok (.aload_n 0, 1) := dAt (x := (92, .aload_n 0, 1)) DX10_count_0 14 rfl
theorem dX10_count_93 : decode cX10_count 93 = .ok (.getfield 21, 3) := dAt (x := (93, .getfield 21, 3)) DX10_count_0 15 rfl
theorem dX10_count_96 : decode cX10_count 96 = .ok (.getfield 286, 3) := dAt (x := (96, .getfield 286, 3)) DX10_count_0 16 rfl
theorem dX10_count_99 : decode cX10_count 99 = .ok (.getfield 290, 3) := dAt (x := (99, .getfield 290, 3)) DX10_count_0 17 rfl
theorem dX10_count_102 : decode cX10_count 102 = .ok (.ireturn, 1) := dAt (x := (102, .ireturn, 1)) DX10_count_0 18 rfl
theorem dX10_count_103 : decode cX10_count 103 = .ok (.aload_n 0, 1) := dAt (x := (103, .aload_n 0, 1)) DX10_count_0 19 rfl
theorem dX10_count_104 : decode cX10_count 104 = .ok (.getfield 28, 3) := dAt (x := (104, .getfield 28, 3)) DX10_count_0 20 rfl
theorem dX10_count_107 : decode cX10_count 107 = .ok (.getfield 163, 3) := dAt (x := (107, .getfield 163, 3)) DX10_count_0 21 rfl
theorem dX10_count_110 : decode cX10_count 110 = .ok (.ireturn, 1) := dAt (x := (110, .ireturn, 1)) DX10_count_0 22 rfl
theorem dX10_count_111 : decode cX10_count 111 = .ok (.aload_n 0, 1) := dAt (x := (111, .aload_n 0, 1)) DX10_count_0 23 rfl
theorem dX10_count_112 : decode cX10_count 112 = .ok (.getfield 28, 3) := dAt (x := (112, .getfield 28, 3)) DX10_count_0 24 rfl
theorem dX10_count_115 : decode cX10_count 115 = .ok (.getfield 120, 3) := dAt (x := (115, .getfield 120, 3)) DX10_count_0 25 rfl
theorem dX10_count_118 : decode cX10_count 118 = .ok (.invokestatic 158, 3) := dAt (x := (118, .invokestatic 158, 3)) DX10_count_0 26 rfl
theorem dX10_count_121 : decode cX10_count 121 = .ok (.ireturn, 1) := dAt (x := (121, .ireturn, 1)) DX10_count_0 27 rfl
theorem dX10_count_122 : decode cX10_count 122 = .ok (.aload_n 0, 1) := dAt (x := (122, .aload_n 0, 1)) DX10_count_0 28 rfl
theorem dX10_count_123 : decode cX10_count 123 = .ok (.getfield 28, 3) := dAt (x := (123, .getfield 28, 3)) DX10_count_0 29 rfl
theorem dX10_count_126 : decode cX10_count 126 = .ok (.getfield 123, 3) := dAt (x := (126, .getfield 123, 3)) DX10_count_0 30 rfl
theorem dX10_count_129 : decode cX10_count 129 = .ok (.invokestatic 158, 3) := dAt (x := (129, .invokestatic 158, 3)) DX10_count_0 31 rfl
theorem dX10_count_132 : decode cX10_count 132 = .ok (.ireturn, 1) := dAt (x := (132, .ireturn, 1)) DX10_count_0 32 rfl
theorem dX10_count_133 : decode cX10_count 133 = .ok (.aload_n 0, 1) := dAt (x := (133, .aload_n 0, 1)) DX10_count_0 33 rfl
theorem dX10_count_134 : decode cX10_count 134 = .ok (.getfield 28, 3) := dAt (x := (134, .getfield 28, 3)) DX10_count_0 34 rfl
theorem dX10_count_137 : decode cX10_count 137 = .ok (.getfield 177, 3) := dAt (x := (137, .getfield 177, 3)) DX10_count_0 35 rfl
theorem dX10_count_140 : decode cX10_count 140 = .ok (.ireturn, 1) := dAt (x := (140, .ireturn, 1)) DX10_count_0 36 rfl
theorem dX10_count_141 : decode cX10_count 141 = .ok (.aload_n 0, 1) := dAt (x := (141, .aload_n 0, 1)) DX10_count_0 37 rfl
theorem dX10_count_142 : decode cX10_count 142 = .ok (.getfield 28, 3) := dAt (x := (142, .getfield 28, 3)) DX10_count_0 38 rfl
theorem dX10_count_145 : decode cX10_count 145 = .ok (.getfield 180, 3) := dAt (x := (145, .getfield 180, 3)) DX10_count_0 39 rfl
theorem dX10_count_148 : decode cX10_count 148 = .ok (.ireturn, 1) := dAt (x := (148, .ireturn, 1)) DX10_count_0 40 rfl
theorem dX10_count_149 : decode cX10_count 149 = .ok (.aload_n 0, 1) := dAt (x := (149, .aload_n 0, 1)) DX10_count_0 41 rfl
theorem dX10_count_150 : decode cX10_count 150 = .ok (.getfield 28, 3) := dAt (x := (150, .getfield 28, 3)) DX10_count_0 42 rfl
theorem dX10_count_153 : decode cX10_count 153 = .ok (.invokevirtual 293, 3) := dAt (x := (153, .invokevirtual 293, 3)) DX10_count_0 43 rfl
theorem dX10_count_156 : decode cX10_count 156 = .ok (.ireturn, 1) := dAt (x := (156, .ireturn, 1)) DX10_count_0 44 rfl
theorem dX10_count_157 : decode cX10_count 157 = .ok (.aload_n 0, 1) := dAt (x := (157, .aload_n 0, 1)) DX10_count_0 45 rfl
theorem dX10_count_158 : decode cX10_count 158 = .ok (.getfield 62, 3) := dAt (x := (158, .getfield 62, 3)) DX10_count_0 46 rfl
theorem dX10_count_161 : decode cX10_count 161 = .ok (.getfield 256, 3) := dAt (x := (161, .getfield 256, 3)) DX10_count_0 47 rfl
theorem dX10_count_164 : decode cX10_count 164 = .ok (.ireturn, 1) := dAt (x := (164, .ireturn, 1)) DX10_count_0 48 rfl
theorem dX10_count_165 : decode cX10_count 165 = .ok (.aload_n 0, 1) := dAt (x := (165, .aload_n 0, 1)) DX10_count_0 49 rfl
theorem dX10_count_166 : decode cX10_count 166 = .ok (.getfield 62, 3) := dAt (x := (166, .getfield 62, 3)) DX10_count_0 50 rfl
theorem dX10_count_169 : decode cX10_count 169 = .ok (.invokevirtual 296, 3) := dAt (x := (169, .invokevirtual 296, 3)) DX10_count_0 51 rfl
theorem dX10_count_172 : decode cX10_count 172 = .ok (.ireturn, 1) := dAt (x := (172, .ireturn, 1)) DX10_count_0 52 rfl
theorem dX10_count_173 : decode cX10_count 173 = .ok (.aload_n 0, 1) := dAt (x := (173, .aload_n 0, 1)) DX10_count_0 53 rfl
theorem dX10_count_174 : decode cX10_count 174 = .ok (.getfield 48, 3) := dAt (x := (174, .getfield 48, 3)) DX10_count_0 54 rfl
theorem dX10_count_177 : decode cX10_count 177 = .ok (.getfield 299, 3) := dAt (x := (177, .getfield 299, 3)) DX10_count_0 55 rfl
theorem dX10_count_180 : decode cX10_count 180 = .ok (.ireturn, 1) := dAt (x := (180, .ireturn, 1)) DX10_count_0 56 rfl
theorem dX10_count_181 : decode cX10_count 181 = .ok (.iconst (-1), 1) := dAt (x := (181, .iconst (-1), 1)) DX10_count_0 57 rfl
theorem dX10_count_182 : decode cX10_count 182 = .ok (.ireturn, 1) := dAt (x := (182, .ireturn, 1)) DX10_count_0 58 rfl
def lDX10_lookAround_0 : List (Nat × Instr × Nat) := [(0, .aload_n 0, 1), (1, .getfield 55, 3), (4, .aload_n 0, 1), (5, .getfield 21, 3), (8, .aload_n 0, 1), (9, .getfield 28, 3), (12, .getfield 123, 3), (15, .invokevirtual 202, 3), (18, .aload_n 0, 1), (19, .getfield 55, 3), (22, .aload_n 0, 1), (23, .getfield 28, 3), (26, .getfield 120, 3), (29, .invokevirtual 300, 3), (32, .return_, 1)]
theorem DX10_lookAround_0 : dAll cX10_lookAround lDX10_lookAround_0 = true := by decide +kernel
theorem dX10_lookAround_0 : decode cX10_lookAround 0 = .ok (.aload_n 0, 1) := dAt (x := (0, .aload_n 0, 1)) DX10_lookAround_0 0 rfl
theorem dX10_lookAround_1 : decode cX10_lookAround 1 = .ok (.getfield 55, 3) := dAt (x := (1, .getfield 55, 3)) DX10_lookAround_0 1 rfl
theorem dX10_lookAround_4 : decode cX10_lookAround 4 = .ok (.aload_n 0, 1) := dAt (x := (4, .aload_n 0, 1)) DX10_lookAround_0 2 rfl
theorem dX10_lookAround_5 : decode cX10_lookAround 5 = .ok (.getfield 21, 3) := dAt (x := (5, .getfield 21, 3)) DX10_lookAround_0 3 rfl
theorem dX10_lookAround_8 : decode cX10_lookAround 8 = .ok (.aload_n 0, 1) := dAt (x := (8, .aload_n 0, 1)) DX10_lookAround_0 4 rfl
theorem dX10_lookAround_9 : decode cX10_lookAround 9 = .ok (.getfield 28, 3) := dAt (x := (9, .getfield 28, 3)) DX10_lookAround_0 5 rfl
theorem dX10_lookAround_12 : decode cX10_lookAround 12 = .ok (.getfield 123, 3) := dAt (x := (12, .getfield 123, 3)) DX10_lookAround_0 6 rfl
theorem dX10_lookAround_15 : decode cX10_lookAround 15 = .ok (.invokevirtual 202, 3) := dAt (x := (15, .invokevirtual 202, 3)) DX10_lookAround_0 7 rfl
theorem dX10_lookAround_18 : decode cX10_lookAround 18 = .ok (.aload_n 0, 1) := dAt (x := (18, .aload_n 0, 1)) DX10_lookAround_0 8 rfl
theorem dX10_lookAround_19 : decode cX10_lookAround 19 = .ok (.getfield 55, 3) := dAt (x := (19, .getfield 55, 3)) DX10_lookAround_0 9 rfl
theorem dX10_lookAround_22 : decode cX10_lookAround 22 = .ok (.aload_n 0, 1) := dAt (x := (22, .aload_n 0, 1)) DX10_lookAround_0 10 rfl
theorem dX10_lookAround_23 : decode cX10_lookAround 23 = .ok (.getfield 28, 3) := dAt (x := (23, .getfield 28, 3)) DX10_lookAround_0 11 rfl
theorem dX10_lookAround_26 : decode cX10_lookAround 26 = .ok (.getfield 120, 3) := dAt (x := (26, .getfield 120, 3)) DX10_lookAround_0 12 rfl
theorem dX10_lookAround_29 : decode cX10_lookAround 29 = .ok (.invokevirtual 300, 3) := dAt (x := (29, .invokevirtual 300, 3)) DX10_lookAround_0 13 rfl
theorem dX10_lookAround_32 : decode cX10_lookAround 32 = .ok (.return_, 1) := dAt (x := (32, .return_, 1)) DX10_lookAround_0 14 rfl
def lDX10_power_0 : List (Nat × Instr × Nat) := [(0, .lconst 1, 1), (1, .lstore_n 3, 1), (2, .iconst 0, 1), (3, .istore 5, 2), (5, .iload 5, 2), (7, .iload_n 2, 1), (8, .if_icmp .ge 13, 3), (11, .lload_n 3, 1), (12, .lload_n 0, 1), (13, .lmul, 1), (14, .lstore_n 3, 1), (15, .iinc 5 1, 3), (18, .goto (-13), 3), (21, .lload_n 3, 1), (22, .lreturn, 1)]
theorem DX10_power_0 : dAll cX10_power lDX10_power_0 = true := by decide +kernel
theorem dX10_power_0 : decode cX10_power 0 = .ok (.lconst 1, 1) := dAt (x := (0, .lconst 1, 1)) DX10_power_0 0 rfl
theorem dX10_power_1 : decode cX10_power 1 = .ok (.lstore_n 3, 1) := dAt (x := (1, .lstore_n 3, 1)) DX10_power_0 1 rfl
theorem dX10_power_2 : decode cX10_power 2 = .ok (.iconst 0, 1) := dAt (x := (2, .iconst 0, 1)) DX10_power_0 2 rfl
theorem dX10_power_3 : decode cX10_power 3 = .ok (.istore 5, 2) := dAt (x := (3, .istore 5, 2)) DX10_power_0 3 rfl
theorem dX10_power_5 : decode cX10_power 5 = .ok (.iload 5, 2) := dAt (x := (5, .iload 5, 2)) DX10_power_0 4 rfl
theorem dX10_power_7 : decode cX10_power 7 = .ok (.iload_n 2, 1) := dAt (x := (7, .iload_n 2, 1)) DX10_power_0 5 rfl
theorem dX10_power_8 : decode cX10_power 8 = .ok (.if_icmp .ge 13, 3) := dAt (x := (8, .if_icmp .ge 13, 3)) DX10_power_0 6 rfl
theorem dX10_power_11 : decode cX10_power 11 = .ok (.lload_n 3, 1) := dAt (x := (11, .lload_n 3, 1)) DX10_power_0 7 rfl
theorem dX10_power_12 : decode cX10_power 12 = .ok (.lload_n 0, 1) := dAt (x := (12, .lload_n 0, 1)) DX10_power_0 8 rfl
theorem dX10_power_13 : decode cX10_power 13 = .ok (.lmul, 1) := dAt (x := (13, .lmul, 1)) DX10_power_0 9 rfl
theorem dX10_power_14 : decode cX10_power 14 = .ok (.lstore_n 3, 1) := dAt (x := (14, .lstore_n 3, 1)) DX10_power_0 10 rfl
theorem dX10_power_15 : decode cX10_power 15 = .ok (.iinc 5 1, 3) := dAt (x := (15, .iinc 5 1, 3)) DX10_power_0 11 rfl
theorem dX10_power_18 : decode cX10_power 18 = .ok (.goto (-13), 3) := dAt (x := (18, .goto (-13), 3)) DX10_power_0 12 rfl
theorem dX10_power_21 : decode cX10_power 21 = .ok (.lload_n 3, 1) := dAt (x := (21, .lload_n 3, 1)) DX10_power_0 13 rfl
theorem dX10_power_22 : decode cX10_power 22 = .ok (.lreturn, 1) := dAt (x := (22, .lreturn, 1)) DX10_power_0 14 rfl
def lDX10_inLeastTerms_0 : List (Nat × Instr × Nat) := [(0, .lload_n 2, 1), (1, .lstore 5, 2), (3, .lload_n 0, 1), (4, .lstore 7, 2), (6, .iconst 0, 1), (7, .istore 9, 2), (9, .iload 9, 2), (11, .bipush 100, 2), (13, .if_icmp .ge 31, 3), (16, .lload 7, 2), (18, .lconst 0, 1), (19, .lcmp, 1), (20, .ifCond .eq 24, 3), (23, .lload 5, 2), (25, .lload 7, 2), (27, .lrem, 1), (28, .lstore 10, 2), (30, .lload 7, 2), (32, .lstore 5, 2), (34, .lload 10, 2), (36, .lstore 7, 2), (38, .iinc 9 1, 3), (41, .goto (-32), 3), (44, .lload 5, 2), (46, .lconst 0, 1), (47, .lcmp, 1), (48, .ifCond .ne 7, 3), (51, .ldc2_w 232, 3), (54, .lreturn, 1), (55, .iload 4, 2), (57, .ifCond .ne 7, 3), (60, .lload_n 0, 1), (61, .goto 4, 3), (64, .lload_n 2, 1), (65, .lload 5, 2), (67, .ldiv, 1), (68, .lreturn, 1)]
theorem DX10_inLeastTerms_0 : dAll cX10_inLeastTerms lDX10_inLeastTerms_0 = true := by decide +kernel
theorem dX10_inLeastTerms_0 : decode cX10_inLeastTerms 0 = .ok (.lload_n 2, 1) := dAt (x := (0, .lload_n 2, 1)) DX10_inLeastTerms_0 0 rfl
theorem dX10_inLeastTerms_1 : decode cX10_inLeastTerms 1 = .ok (.lstore 5, 2) := dAt (x := (1, .lstore 5, 2)) DX10_inLeastTerms_0 1 rfl
theorem dX10_inLeastTerms_3 : decode cX10_inLeastTerms 3 = .ok (.lload_n 0, 1) := dAt (x := (3, .lload_n 0, 1)) DX10_inLeastTerms_0 2 rfl
theorem dX10_inLeastTerms_4 : decode cX10_inLeastTerms 4 = .ok (.lstore 7, 2) := dAt (x := (4, .lstore 7, 2)) DX10_inLeastTerms_0 3 rfl
theorem dX10_inLeastTerms_6 : decode cX10_inLeastTerms 6 = .ok (.iconst 0, 1) := dAt (x := (6, .iconst 0, 1)) DX10_inLeastTerms_0 4 rfl
theorem dX10_inLeastTerms_7 : decode cX10_inLeastTerms 7 = .ok (.istore 9, 2) := dAt (x := (7, .istore 9, 2)) DX10_inLeastTerms_0 5 rfl
theorem dX10_inLeastTerms_9 : decode cX10_inLeastTerms 9 = .ok (.iload 9, 2) := dAt (x := (9, .iload 9, 2)) DX10_inLeastTerms_0 6 rfl
theorem dX10_inLeastTerms_11 : decode cX10_inLeastTerms 11 = .ok (.bipush 100, 2) := dAt (x := (11, .bipush 100, 2)) DX10_inLeastTerms_0 7 rfl
theorem dX10_inLeastTerms_13 : decode cX10_inLeastTerms 13 = .ok (.if_icmp .ge 31, 3) := dAt (x := (13, .if_icmp .ge 31, 3)) DX10_inLeastTerms_0 8 rfl
theorem dX10_inLeastTerms_16 : decode cX10_inLeastTerms 16 = .ok (.lload 7, 2) := dAt (x := (16, .lload 7, 2)) DX10_inLeastTerms_0 9 rfl
theorem dX10_inLeastTerms_18 : decode cX10_inLeastTerms 18 = .ok (.lconst 0, 1) := dAt (x := (18, .lconst 0, 1)) DX10_inLeastTerms_0 10 rfl
theorem dX10_inLeastTerms_19 : decode cX10_inLeastTerms 19 = .ok (.lcmp, 1) := dAt (x := (19, .lcmp, 1)) DX10_inLeastTerms_0 11 rfl
theorem dX10_inLeastTerms_20 : decode cX10_inLeastTerms 20 = .ok (.ifCond .eq 24, 3) := dAt (x := (20, .ifCond .eq 24, 3)) DX10_inLeastTerms_0 12 rfl
theorem dX10_inLeastTerms_23 : decode cX10_inLeastTerms 23 = .ok (.lload 5, 2) := dAt (x := (23, .lload 5, 2)) DX10_inLeastTerms_0 13 rfl
theorem dX10_inLeastTerms_25 : decode cX10_inLeastTerms 25 = .ok (.lload 7, 2) := dAt (x := (25, .lload 7, 2)) DX10_inLeastTerms_0 14 rfl
theorem dX10_inLeastTerms_27 : decode cX10_inLeastTerms 27 = .ok (.lrem, 1) := dAt (x := (27, .lrem, 1)) DX10_inLeastTerms_0 15 rfl
theorem dX10_inLeastTerms_28 : decode cX10_inLeastTerms 28 = .ok (.lstore 10, 2) := dAt (x := (28, .lstore 10, 2)) DX10_inLeastTerms_0 16 rfl
theorem dX10_inLeastTerms_30 : decode cX10_inLeastTerms 30 = .ok (.lload 7, 2) := dAt (x := (30, .lload 7, 2)) DX10_inLeastTerms_0 17 rfl
theorem dX10_inLeastTerms_32 : decode cX10_inLeastTerms 32 = .ok (.lstore 5, 2) := dAt (x := (32, .lstore 5, 2)) DX10_inLeastTerms_0 18 rfl
theorem dX10_inLeastTerms_34 : decode cX10_inLeastTerms 34 = .ok (.lload 10, 2) := dAt (x := (34, .lload 10, 2)) DX10_inLeastTerms_0 19 rfl
theorem dX10_inLeastTerms_36 : decode cX10_inLeastTerms 36 = .ok (.lstore 7, 2) := dAt (x := (36, .lstore 7, 2)) DX10_inLeastTerms_0 20 rfl
theorem dX10_inLeastTerms_38 : decode cX10_inLeastTerms 38 = .ok (.iinc 9 1, 3) := dAt (x := (38, .iinc 9 1, 3)) DX10_inLeastTerms_0 21 rfl
theorem dX10_inLeastTerms_41 : decode cX10_inLeastTerms 41 = .ok (.goto (-32), 3) := dAt (x := (41, .goto (-32), 3)) DX10_inLeastTerms_0 22 rfl
theorem dX10_inLeastTerms_44 : decode cX10_inLeastTerms 44 = .ok (.lload 5, 2) := dAt (x := (44, .lload 5, 2)) DX10_inLeastTerms_0 23 rfl
theorem dX10_inLeastTerms_46 : decode cX10_inLeastTerms 46 = .ok (.lconst 0, 1) := dAt (x := (46, .lconst 0, 1)) DX10_inLeastTerms_0 24 rfl
theorem dX10_inLeastTerms_47 : decode cX10_inLeastTerms 47 = .ok (.lcmp, 1) := dAt (x := (47, .lcmp, 1)) DX10_inLeastTerms_0 25 rfl
theorem dX10_inLeastTerms_48 : decode cX10_inLeastTerms 48 = .ok (.ifCond .ne 7, 3) := dAt (x := (48, .ifCond .ne 7, 3)) DX10_inLeastTerms_0 26 rfl
theorem dX10_inLeastTerms_51 : decode cX10_inLeastTerms 51 = .ok (.ldc2_w 232, 3) := dAt (x := (51, .ldc2_w 232, 3)) DX10_inLeastTerms_0 27 rfl
theorem dX10_inLeastTerms_54 : decode cX10_inLeastTerms 54 = .ok (.lreturn, 1) := dAt (x := (54, .lreturn, 1)) DX10_inLeastTerms_0 28 rfl
theorem dX10_inLeastTerms_55 : decode cX10_inLeastTerms 55 = .ok (.iload 4, 2) := dAt (x := (55, .iload 4, 2)) DX10_inLeastTerms_0 29 rfl
theorem dX10_inLeastTerms_57 : decode cX10_inLeastTerms 57 = .ok (.ifCond .ne 7, 3) := dAt (x := (57, .ifCond .ne 7, 3)) DX10_inLeastTerms_0 30 rfl
theorem dX10_inLeastTerms_60 : decode cX10_inLeastTerms 60 = .ok (.lload_n 0, 1) := dAt (x := (60, .lload_n 0, 1)) DX10_inLeastTerms_0 31 rfl
theorem dX10_inLeastTerms_61 : decode cX10_inLeastTerms 61 = .ok (.goto 4, 3) := dAt (x := (61, .goto 4, 3)) DX10_inLeastTerms_0 32 rfl
theorem dX10_inLeastTerms_64 : decode cX10_inLeastTerms 64 = .ok (.lload_n 2, 1) := dAt (x := (64, .lload_n 2, 1)) DX10_inLeastTerms_0 33 rfl
theorem dX10_inLeastTerms_65 : decode cX10_inLeastTerms 65 = .ok (.lload 5, 2) := dAt (x := (65, .lload 5, 2)) DX10_inLeastTerms_0 34 rfl
theorem dX10_inLeastTerms_67 : decode cX10_inLeastTerms 67 = .ok (.ldiv, 1) := dAt (x := (67, .ldiv, 1)) DX10_inLeastTerms_0 35 rfl
theorem dX10_inLeastTerms_68 : decode cX10_inLeastTerms 68 = .ok (.lreturn, 1) := dAt (x := (68, .lreturn, 1)) DX10_inLeastTerms_0 36 rfl
def lDX10_rank_0 : List (Nat × Instr × Nat) := [(0, .iload_n 0, 1), (1, .tableswitch 136 10 36 #[123, 125, 127, 136, 136, 136, 136, 136, 136, 136, 136, 136, 136, 136, 136, 136, 136, 129, 129, 129, 131, 131, 133, 133, 129, 129, 129], 123), (124, .iconst 1, 1), (125, .ireturn, 1), (126, .iconst 2, 1), (127, .ireturn, 1), (128, .iconst 3, 1), (129, .ireturn, 1), (130, .iconst 4, 1), (131, .ireturn, 1), (132, .iconst 5, 1), (133, .ireturn, 1), (134, .bipush 6, 2), (136, .ireturn, 1), (137, .iconst 0, 1), (138, .ireturn, 1)]
theorem DX10_rank_0 : dAll cX10_rank lDX10_rank_0 = true := by decide +kernel
theorem dX10_rank_0 : decode cX10_rank 0 = .ok (.iload_n 0, 1) := dAt (x := (0, .iload_n 0, 1)) DX10_rank_0 0 rfl
theorem dX10_rank_1 : decode cX10_rank 1 = .ok (.tableswitch 136 10 36 #[123, 125, 127, 136, 136, 136, 136, 136, 136, 136, 136, 136, 136, 136, 136, 136, 136, 129, 129, 129, 131, 131, 133, 133, 129, 129, 129], 123) := dAt (x := (1, .tableswitch 136 10 36 #[123, 125, 127, 136, 136, 136, 136, 136, 136, 136, 136, 136, 136, 136, 136, 136, 136, 129, 129, 129, 131, 131, 133, 133, 129, 129, 129], 123)) DX10_rank_0 1 rfl
theorem dX10_rank_124 : decode cX10_rank 124 = .ok (.iconst 1, 1) := dAt (x := (124, .iconst 1, 1)) DX10_rank_0 2 rfl
theorem dX10_rank_125 : decode cX10_rank 125 = .ok (.ireturn, 1) := dAt (x := (125, .ireturn, 1)) DX10_rank_0 3 rfl
theorem dX10_rank_126 : decode cX10_rank 126 = .ok (.iconst 2, 1) := dAt (x := (126, .iconst 2, 1)) DX10_rank_0 4 rfl
theorem dX10_rank_127 : decode cX10_rank 127 = .ok (.ireturn, 1) := dAt (x := (127, .ireturn, 1)) DX10_rank_0 5 rfl
theorem dX10_rank_128 : decode cX10_rank 128 = .ok (.iconst 3, 1) := dAt (x := (128, .iconst 3, 1)) DX10_rank_0 6 rfl
theorem dX10_rank_129 : decode cX10_rank 129 = .ok (.ireturn, 1) := dAt (x := (129, .ireturn, 1)) DX10_rank_0 7 rfl
theorem dX10_rank_130 : decode cX10_rank 130 = .ok (.iconst 4, 1) := dAt (x := (130, .iconst 4, 1)) DX10_rank_0 8 rfl
theorem dX10_rank_131 : decode cX10_rank 131 = .ok (.ireturn, 1) := dAt (x := (131, .ireturn, 1)) DX10_rank_0 9 rfl
theorem dX10_rank_132 : decode cX10_rank 132 = .ok (.iconst 5, 1) := dAt (x := (132, .iconst 5, 1)) DX10_rank_0 10 rfl
theorem dX10_rank_133 : decode cX10_rank 133 = .ok (.ireturn, 1) := dAt (x := (133, .ireturn, 1)) DX10_rank_0 11 rfl
theorem dX10_rank_134 : decode cX10_rank 134 = .ok (.bipush 6, 2) := dAt (x := (134, .bipush 6, 2)) DX10_rank_0 12 rfl
theorem dX10_rank_136 : decode cX10_rank 136 = .ok (.ireturn, 1) := dAt (x := (136, .ireturn, 1)) DX10_rank_0 13 rfl
theorem dX10_rank_137 : decode cX10_rank 137 = .ok (.iconst 0, 1) := dAt (x := (137, .iconst 0, 1)) DX10_rank_0 14 rfl
theorem dX10_rank_138 : decode cX10_rank 138 = .ok (.ireturn, 1) := dAt (x := (138, .ireturn, 1)) DX10_rank_0 15 rfl
def lDX11_init_0 : List (Nat × Instr × Nat) := [(0, .aload_n 0, 1), (1, .invokespecial 1, 3), (4, .aload_n 0, 1), (5, .sipush 700, 3), (8, .newarray .int, 2), (10, .putfield 7, 3), (13, .aload_n 0, 1), (14, .bipush 116, 2), (16, .newarray .int, 2), (18, .dup, 1), (19, .iconst 0, 1), (20, .bipush 108, 2), (22, .iastore, 1), (23, .dup, 1), (24, .iconst 1, 1), (25, .bipush 97, 2), (27, .iastore, 1), (28, .dup, 1), (29, .iconst 2, 1), (30, .bipush 116, 2), (32, .iastore, 1), (33, .dup, 1), (34, .iconst 3, 1), (35, .bipush 99, 2), (37, .iastore, 1), (38, .dup, 1), (39, .iconst 4, 1), (40, .bipush 104, 2), (42, .iastore, 1), (43, .dup, 1), (44, .iconst 5, 1), (45, .bipush 32, 2), (47, .iastore, 1), (48, .dup, 1), (49, .bipush 6, 2), (51, .bipush 108, 2), (53, .iastore, 1), (54, .dup, 1), (55, .bipush 7, 2), (57, .bipush 101, 2), (59, .iastore, 1), (60, .dup, 1), (61, .bipush 8, 2), (63, .bipush 97, 2), (65, .iastore, 1), (66, .dup, 1), (67, .bipush 9, 2), (69, .bipush 110, 2), (71, .iastore, 1), (72, .dup, 1), (73, .bipush 10, 2), (75, .bipush 32, 2), (77, .iastore, 1), (78, .dup, 1), (79, .bipush 11, 2), (81, .bipush 112, 2), (83, .iastore, 1), (84, .dup, 1), (85, .bipush 12, 2), (87, .bipush 117, 2)]
theorem DX11_init_0 : dAll cX11_init lDX11_init_0 = true := by decide +kernel
theorem dX11_init_0 : decode cX11_init 0 = .ok (.aload_n 0, 1) := dAt (x := (0, .aload_n 0, 1)) DX11_init_0 0 rfl
theorem dX11_init_1 : decode cX11_init 1 = .ok (.invokespecial 1, 3) := dAt (x := (1, .invokespecial 1, 3)) DX11_init_0 1 rfl
theorem dX11_init_4 : decode cX11_init 4 = .ok (.aload_n 0, 1) := dAt (x := (4, .aload_n 0, 1)) DX11_init_0 2 rfl
theorem dX11_init_5 : decode cX11_init 5 = .ok (.sipush 700, 3) := dAt (x := (5, .sipush 700, 3)) DX11_init_0 3 rfl
theorem dX11_init_8 : decode cX11_init 8 = .ok (.newarray .int, 2) := dAt (x := (8, .newarray .int, 2)) DX11_init_0 4 rfl
theorem dX11_init_10 : decode cX11_init 10 = .ok (.putfield 7, 3) := dAt (x := (10, .putfield 7, 3)) DX11_init_0 5 rfl
theorem dX11_init_13 : decode cX11_init 13 = .ok (.aload_n 0, 1) := dAt (x := (13, .aload_n 0, 1)) DX11_init_0 6 rfl
theorem dX11_init_14 : decode cX11_init 14 = .ok (.bipush 116, 2) := dAt (x := (14, .bipush 116, 2)) DX11_init_0 7 rfl
theorem dX11_init_16 : decode cX11_init 16 = .ok (.newarray .int, 2) := dAt (x := (16, .newarray .int, 2)) DX11_init_0 8 rfl
theorem dX11_init_18 : decode cX11_init 18 = .ok (.dup, 1) := dAt (x := (18, .dup, 1)) DX11_init_0 9 rfl
theorem dX11_init_19 : decode cX11_init 19 = .ok (.iconst 0, 1) := dAt (x := (19, .iconst 0, 1)) DX11_init_0 10 rfl
theorem dX11_init_20 : decode cX11_init 20 = .ok (.bipush 108, 2) := dAt (x := (20, .bipush 108, 2)) DX11_init_0 11 rfl
theorem dX11_init_22 : decode cX11_init 22 = .ok (.iastore, 1) := dAt (x := (22, .iastore, 1)) DX11_init_0 12 rfl
theorem dX11_init_23 : decode cX11_init 23 = .ok (.dup, 1) := dAt (x := (23, .dup, 1)) DX11_init_0 13 rfl
theorem dX11_init_24 : decode cX11_init 24 = .ok (.iconst 1, 1) := dAt (x := (24, .iconst 1, 1)) DX11_init_0 14 rfl
theorem dX11_init_25 : decode cX11_init 25 = .ok (.bipush 97, 2) := dAt (x := (25, .bipush 97, 2)) DX11_init_0 15 rfl
theorem dX11_init_27 : decode cX11_init 27 = .ok (.iastore, 1) := dAt (x := (27, .iastore, 1)) DX11_init_0 16 rfl
theorem dX11_init_28 : decode cX11_init 28 = .ok (.dup, 1) := dAt (x := (28, .dup, 1)) DX11_init_0 17 rfl
theorem dX11_init_29 : decode cX11_init 29 = .ok (.iconst 2, 1) := dAt (x := (29, .iconst 2, 1)) DX11_init_0 18 rfl
theorem dX11_init_30 : decode cX11_init 30 = .ok (.bipush 116, 2) := dAt (x := (30, .bipush 116, 2)) DX11_init_0 19 rfl
theorem dX11_init_32 : decode cX11_init 32 = .ok (.iastore, 1) := dAt (x := (32, .iastore, 1)) DX11_init_0 20 rfl
theorem dX11_init_33 : decode cX11_init 33 = .ok (.dup, 1) := dAt (x := (33, .dup, 1)) DX11_init_0 21 rfl
theorem dX11_init_34 : decode cX11_init 34 = .ok (.iconst 3, 1) := dAt (x := (34, .iconst 3, 1)) DX11_init_0 22 rfl
theorem dX11_init_35 : decode cX11_init 35 = .ok (.bipush 99, 2) := dAt (x := (35, .bipush 99, 2)) DX11_init_0 23 rfl
theorem dX11_init_37 : decode cX11_init 37 = .ok (.iastore, 1) := dAt (x := (37, .iastore, 1)) DX11_init_0 24 rfl
theorem dX11_init_38 : decode cX11_init 38 = .ok (.dup, 1) := dAt (x := (38, .dup, 1)) DX11_init_0 25 rfl
theorem dX11_init_39 : decode cX11_init 39 = .ok (.iconst 4, 1) := dAt (x := (39, .iconst 4, 1)) DX11_init_0 26 rfl
theorem dX11_init_40 : decode cX11_init 40 = .ok (.bipush 104, 2) := dAt (x := (40, .bipush 104, 2)) DX11_init_0 27 rfl
theorem dX11_init_42 : decode cX11_init 42 = .ok (.iastore, 1) := dAt (x := (42, .iastore, 1)) DX11_init_0 28 rfl
theorem dX11_init_43 : decode cX11_init 43 = .ok (.dup, 1) := dAt (x := (43, .dup, 1)) DX11_init_0 29 rfl
theorem dX11_init_44 : decode cX11_init 44 = .ok (.iconst 5, 1) := dAt (x := (44, .iconst 5, 1)) DX11_init_0 30 rfl
theorem dX11_init_45 : decode cX11_init 45 = .ok (.bipush 32, 2) := dAt (x := (45, .bipush 32, 2)) DX11_init_0 31 rfl
theorem dX11_init_47 : decode cX11_init 47 = .ok (.iastore, 1) := dAt (x := (47, .iastore, 1)) DX11_init_0 32 rfl
theorem dX11_init_48 : decode cX11_init 48 = .ok (.dup, 1) := dAt (x := (48, .dup, 1)) DX11_init_0 33 rfl
theorem dX11_init_49 : decode cX11_init 49 = .ok (.bipush 6, 2) := dAt (x := (49, .bipush 6, 2)) DX11_init_0 34 rfl
theorem dX11_init_51 : decode cX11_init 51 = .ok (.bipush 108, 2) := dAt (x := (51, .bipush 108, 2)) DX11_init_0 35 rfl
theorem dX11_init_53 : decode cX11_init 53 = .ok (.iastore, 1) := dAt (x := (53, .iastore, 1)) DX11_init_0 36 rfl
theorem dX11_init_54 : decode cX11_init 54 = .ok (.dup, 1) := dAt (x := (54, .dup, 1)) DX11_init_0 37 rfl
theorem dX11_init_55 : decode cX11_init 55 = .ok (.bipush 7, 2) := dAt (x := (55, .bipush 7, 2)) DX11_init_0 38 rfl
theorem dX11_init_57 : decode cX11_init 57 = .ok (.bipush 101, 2) := dAt (x := (57, .bipush 101, 2)) DX11_init_0 39 rfl
theorem dX11_init_59 : decode cX11_init 59 = .ok (.iastore, 1) := dAt (x := (59, .iastore, 1)) DX11_init_0 40 rfl
theorem dX11_init_60 : decode cX11_init 60 = .ok (.dup, 1) := dAt (x := (60, .dup, 1)) DX11_init_0 41 rfl
theorem dX11_init_61 : decode cX11_init 61 = .ok (.bipush 8, 2) := dAt (x := (61, .bipush 8, 2)) DX11_init_0 42 rfl
theorem dX11_init_63 : decode cX11_init 63 = .ok (.bipush 97, 2) := dAt (x := (63, .bipush 97, 2)) DX11_init_0 43 rfl
theorem dX11_init_65 : decode cX11_init 65 = .ok (.iastore, 1) := dAt (x := (65, .iastore, 1)) DX11_init_0 44 rfl
theorem dX11_init_66 : decode cX11_init 66 = .ok (.dup, 1) := dAt (x := (66, .dup, 1)) DX11_init_0 45 rfl
theorem dX11_init_67 : decode cX11_init 67 = .ok (.bipush 9, 2) := dAt (x := (67, .bipush 9, 2)) DX11_init_0 46 rfl
theorem dX11_init_69 : decode cX11_init 69 = .ok (.bipush 110, 2) := dAt (x := (69, .bipush 110, 2)) DX11_init_0 47 rfl
theorem dX11_init_71 : decode cX11_init 71 = .ok (.iastore, 1) := dAt (x := (71, .iastore, 1)) DX11_init_0 48 rfl
theorem dX11_init_72 : decode cX11_init 72 = .ok (.dup, 1) := dAt (x := (72, .dup, 1)) DX11_init_0 49 rfl
theorem dX11_init_73 : decode cX11_init 73 = .ok (.bipush 10, 2) := dAt (x := (73, .bipush 10, 2)) DX11_init_0 50 rfl
theorem dX11_init_75 : decode cX11_init 75 = .ok (.bipush 32, 2) := dAt (x := (75, .bipush 32, 2)) DX11_init_0 51 rfl
theorem dX11_init_77 : decode cX11_init 77 = .ok (.iastore, 1) := dAt (x := (77, .iastore, 1)) DX11_init_0 52 rfl
theorem dX11_init_78 : decode cX11_init 78 = .ok (.dup, 1) := dAt (x := (78, .dup, 1)) DX11_init_0 53 rfl
theorem dX11_init_79 : decode cX11_init 79 = .ok (.bipush 11, 2) := dAt (x := (79, .bipush 11, 2)) DX11_init_0 54 rfl
theorem dX11_init_81 : decode cX11_init 81 = .ok (.bipush 112, 2) := dAt (x := (81, .bipush 112, 2)) DX11_init_0 55 rfl
theorem dX11_init_83 : decode cX11_init 83 = .ok (.iastore, 1) := dAt (x := (83, .iastore, 1)) DX11_init_0 56 rfl
theorem dX11_init_84 : decode cX11_init 84 = .ok (.dup, 1) := dAt (x := (84, .dup, 1)) DX11_init_0 57 rfl
theorem dX11_init_85 : decode cX11_init 85 = .ok (.bipush 12, 2) := dAt (x := (85, .bipush 12, 2)) DX11_init_0 58 rfl
theorem dX11_init_87 : decode cX11_init 87 = .ok (.bipush 117, 2) := dAt (x := (87, .bipush 117, 2)) DX11_init_0 59 rfl
def lDX11_init_1 : List (Nat × Instr × Nat) := [(89, .iastore, 1), (90, .dup, 1), (91, .bipush 13, 2), (93, .bipush 115, 2), (95, .iastore, 1), (96, .dup, 1), (97, .bipush 14, 2), (99, .bipush 104, 2), (101, .iastore, 1), (102, .dup, 1), (103, .bipush 15, 2), (105, .bipush 32, 2), (107, .iastore, 1), (108, .dup, 1), (109, .bipush 16, 2), (111, .bipush 111, 2), (113, .iastore, 1), (114, .dup, 1), (115, .bipush 17, 2), (117, .bipush 105, 2), (119, .iastore, 1), (120, .dup, 1), (121, .bipush 18, 2), (123, .bipush 108, 2), (125, .iastore, 1), (126, .dup, 1), (127, .bipush 19, 2), (129, .bipush 32, 2), (131, .iastore, 1), (132, .dup, 1), (133, .bipush 20, 2), (135, .bipush 114, 2), (137, .iastore, 1), (138, .dup, 1), (139, .bipush 21, 2), (141, .bipush 117, 2), (143, .iastore, 1), (144, .dup, 1), (145, .bipush 22, 2), (147, .bipush 115, 2), (149, .iastore, 1), (150, .dup, 1), (151, .bipush 23, 2), (153, .bipush 116, 2), (155, .iastore, 1), (156, .dup, 1), (157, .bipush 24, 2), (159, .bipush 32, 2), (161, .iastore, 1), (162, .dup, 1), (163, .bipush 25, 2), (165, .bipush 115, 2), (167, .iastore, 1), (168, .dup, 1), (169, .bipush 26, 2), (171, .bipush 101, 2), (173, .iastore, 1), (174, .dup, 1), (175, .bipush 27, 2), (177, .bipush 101, 2)]
theorem DX11_init_1 : dAll cX11_init lDX11_init_1 = true := by decide +kernel
theorem dX11_init_89 : decode cX11_init 89 = .ok (.iastore, 1) := dAt (x := (89, .iastore, 1)) DX11_init_1 0 rfl
theorem dX11_init_90 : decode cX11_init 90 = .ok (.dup, 1) := dAt (x := (90, .dup, 1)) DX11_init_1 1 rfl
theorem dX11_init_91 : decode cX11_init 91 = .ok (.bipush 13, 2) := dAt (x := (91, .bipush 13, 2)) DX11_init_1 2 rfl
theorem dX11_init_93 : decode cX11_init 93 = .ok (.bipush 115, 2) := dAt (x := (93, .bipush 115, 2)) DX11_init_1 3 rfl
theorem dX11_init_95 : decode cX11_init 95 = .ok (.iastore, 1) := dAt (x := (95, .iastore, 1)) DX11_init_1 4 rfl
theorem dX11_init_96 : decode cX11_init 96 = .ok (.dup, 1) := dAt (x := (96, .dup, 1)) DX11_init_1 5 rfl
theorem dX11_init_97 : decode cX11_init 97 = .ok (.bipush 14, 2) := dAt (x := (97, .bipush 14, 2)) DX11_init_1 6 rfl
theorem dX11_init_99 : decode cX11_init 99 = .ok (.bipush 104, 2) := dAt (x := (99, .bipush 104, 2)) DX11_init_1 7 rfl
theorem dX11_init_101 : decode cX11_init 101 = .ok (.iastore, 1) := dAt (x := (101, .iastore, 1)) DX11_init_1 8 rfl
theorem dX11_init_102 : decode cX11_init 102 = .ok (.dup, 1) := dAt (x := (102, .dup, 1)) DX11_init_1 9 rfl
theorem dX11_init_103 : decode cX11_init 103 = .ok (.bipush 15, 2) := dAt (x := (103, .bipush 15, 2)) DX11_init_1 10 rfl
theorem dX11_init_105 : decode cX11_init 105 = .ok (.bipush 32, 2) := dAt (x := (105, .bipush 32, 2)) DX11_init_1 11 rfl
theorem dX11_init_107 : decode cX11_init 107 = .ok (.iastore, 1) := dAt (x := (107, .iastore, 1)) DX11_init_1 12 rfl
theorem dX11_init_108 : decode cX11_init 108 = .ok (.dup, 1) := dAt (x := (108, .dup, 1)) DX11_init_1 13 rfl
theorem dX11_init_109 : decode cX11_init 109 = .ok (.bipush 16, 2) := dAt (x := (109, .bipush 16, 2)) DX11_init_1 14 rfl
theorem dX11_init_111 : decode cX11_init 111 = .ok (.bipush 111, 2) := dAt (x := (111, .bipush 111, 2)) DX11_init_1 15 rfl
theorem dX11_init_113 : decode cX11_init 113 = .ok (.iastore, 1) := dAt (x := (113, .iastore, 1)) DX11_init_1 16 rfl
theorem dX11_init_114 : decode cX11_init 114 = .ok (.dup, 1) := dAt (x := (114, .dup, 1)) DX11_init_1 17 rfl
theorem dX11_init_115 : decode cX11_init 115 = .ok (.bipush 17, 2) := dAt (x := (115, .bipush 17, 2)) DX11_init_1 18 rfl
theorem dX11_init_117 : decode cX11_init 117 = .ok (.bipush 105, 2) := dAt (x := (117, .bipush 105, 2)) DX11_init_1 19 rfl
theorem dX11_init_119 : decode cX11_init 119 = .ok (.iastore, 1) := dAt (x := (119, .iastore, 1)) DX11_init_1 20 rfl
theorem dX11_init_120 : decode cX11_init 120 = .ok (.dup, 1) := dAt (x := (120, .dup, 1)) DX11_init_1 21 rfl
theorem dX11_init_121 : decode cX11_init 121 = .ok (.bipush 18, 2) := dAt (x := (121, .bipush 18, 2)) DX11_init_1 22 rfl
theorem dX11_init_123 : decode cX11_init 123 = .ok (.bipush 108, 2) := dAt (x := (123, .bipush 108, 2)) DX11_init_1 23 rfl
theorem dX11_init_125 : decode cX11_init 125 = .ok (.iastore, 1) := dAt (x := (125, .iastore, 1)) DX11_init_1 24 rfl
theorem dX11_init_126 : decode cX11_init 126 = .ok (.dup, 1) := dAt (x := (126, .dup, 1)) DX11_init_1 25 rfl
theorem dX11_init_127 : decode cX11_init 127 = .ok (.bipush 19, 2) := dAt (x := (127, .bipush 19, 2)) DX11_init_1 26 rfl
theorem dX11_init_129 : decode cX11_init 129 = .ok (.bipush 32, 2) := dAt (x := (129, .bipush 32, 2)) DX11_init_1 27 rfl
theorem dX11_init_131 : decode cX11_init 131 = .ok (.iastore, 1) := dAt (x := (131, .iastore, 1)) DX11_init_1 28 rfl
theorem dX11_init_132 : decode cX11_init 132 = .ok (.dup, 1) := dAt (x := (132, .dup, 1)) DX11_init_1 29 rfl
theorem dX11_init_133 : decode cX11_init 133 = .ok (.bipush 20, 2) := dAt (x := (133, .bipush 20, 2)) DX11_init_1 30 rfl
theorem dX11_init_135 : decode cX11_init 135 = .ok (.bipush 114, 2) := dAt (x := (135, .bipush 114, 2)) DX11_init_1 31 rfl
theorem dX11_init_137 : decode cX11_init 137 = .ok (.iastore, 1) := dAt (x := (137, .iastore, 1)) DX11_init_1 32 rfl
theorem dX11_init_138 : decode cX11_init 138 = .ok (.dup, 1) := dAt (x := (138, .dup, 1)) DX11_init_1 33 rfl
theorem dX11_init_139 : decode cX11_init 139 = .ok (.bipush 21, 2) := dAt (x := (139, .bipush 21, 2)) DX11_init_1 34 rfl
theorem dX11_init_141 : decode cX11_init 141 = .ok (.bipush 117, 2) := dAt (x := (141, .bipush 117, 2)) DX11_init_1 35 rfl
theorem dX11_init_143 : decode cX11_init 143 = .ok (.iastore, 1) := dAt (x := (143, .iastore, 1)) DX11_init_1 36 rfl
theorem dX11_init_144 : decode cX11_init 144 = .ok (.dup, 1) := dAt (x := (144, .dup, 1)) DX11_init_1 37 rfl
theorem dX11_init_145 : decode cX11_init 145 = .ok (.bipush 22, 2) := dAt (x := (145, .bipush 22, 2)) DX11_init_1 38 rfl
theorem dX11_init_147 : decode cX11_init 147 = .ok (.bipush 115, 2) := dAt (x := (147, .bipush 115, 2)) DX11_init_1 39 rfl
theorem dX11_init_149 : decode cX11_init 149 = .ok (.iastore, 1) := dAt (x := (149, .iastore, 1)) DX11_init_1 40 rfl
theorem dX11_init_150 : decode cX11_init 150 = .ok (.dup, 1) := dAt (x := (150, .dup, 1)) DX11_init_1 41 rfl
theorem dX11_init_151 : decode cX11_init 151 = .ok (.bipush 23, 2) := dAt (x := (151, .bipush 23, 2)) DX11_init_1 42 rfl
theorem dX11_init_153 : decode cX11_init 153 = .ok (.bipush 116, 2) := dAt (x := (153, .bipush 116, 2)) DX11_init_1 43 rfl
theorem dX11_init_155 : decode cX11_init 155 = .ok (.iastore, 1) := dAt (x := (155, .iastore, 1)) DX11_init_1 44 rfl
theorem dX11_init_156 : decode cX11_init 156 = .ok (.dup, 1) := dAt (x := (156, .dup, 1)) DX11_init_1 45 rfl
theorem dX11_init_157 : decode cX11_init 157 = .ok (.bipush 24, 2) := dAt (x := (157, .bipush 24, 2)) DX11_init_1 46 rfl
theorem dX11_init_159 : decode cX11_init 159 = .ok (.bipush 32, 2) := dAt (x := (159, .bipush 32, 2)) DX11_init_1 47 rfl
theorem dX11_init_161 : decode cX11_init 161 = .ok (.iastore, 1) := dAt (x := (161, .iastore, 1)) DX11_init_1 48 rfl
theorem dX11_init_162 : decode cX11_init 162 = .ok (.dup, 1) := dAt (x := (162, .dup, 1)) DX11_init_1 49 rfl
theorem dX11_init_163 : decode cX11_init 163 = .ok (.bipush 25, 2) := dAt (x := (163, .bipush 25, 2)) DX11_init_1 50 rfl
theorem dX11_init_165 : decode cX11_init 165 = .ok (.bipush 115, 2) := dAt (x := (165, .bipush 115, 2)) DX11_init_1 51 rfl
theorem dX11_init_167 : decode cX11_init 167 = .ok (.iastore, 1) := dAt (x := (167, .iastore, 1)) DX11_init_1 52 rfl
theorem dX11_init_168 : decode cX11_init 168 = .ok (.dup, 1) := dAt (x := (168, .dup, 1)) DX11_init_1 53 rfl
theorem dX11_init_169 : decode cX11_init 169 = .ok (.bipush 26, 2) := dAt (x := (169, .bipush 26, 2)) DX11_init_1 54 rfl
theorem dX11_init_171 : decode cX11_init 171 = .ok (.bipush 101, 2) := dAt (x := (171, .bipush 101, 2)) DX11_init_1 55 rfl
theorem dX11_init_173 : decode cX11_init 173 = .ok (.iastore, 1) := dAt (x := (173, .iastore, 1)) DX11_init_1 56 rfl
theorem dX11_init_174 : decode cX11_init 174 = .ok (.dup, 1) := dAt (x := (174, .dup, 1)) DX11_init_1 57 rfl
theorem dX11_init_175 : decode cX11_init 175 = .ok (.bipush 27, 2) := dAt (x := (175, .bipush 27, 2)) DX11_init_1 58 rfl
theorem dX11_init_177 : decode cX11_init 177 = .ok (.bipush 101, 2) := dAt (x := (177, .bipush 101, 2)) DX11_init_1 59 rfl
def lDX11_init_2 : List (Nat × Instr × Nat) := [(179, .iastore, 1), (180, .dup, 1), (181, .bipush 28, 2), (183, .bipush 100, 2), (185, .iastore, 1), (186, .dup, 1), (187, .bipush 29, 2), (189, .bipush 32, 2), (191, .iastore, 1), (192, .dup, 1), (193, .bipush 30, 2), (195, .bipush 108, 2), (197, .iastore, 1), (198, .dup, 1), (199, .bipush 31, 2), (201, .bipush 97, 2), (203, .iastore, 1), (204, .dup, 1), (205, .bipush 32, 2), (207, .bipush 119, 2), (209, .iastore, 1), (210, .dup, 1), (211, .bipush 33, 2), (213, .bipush 32, 2), (215, .iastore, 1), (216, .dup, 1), (217, .bipush 34, 2), (219, .bipush 101, 2), (221, .iastore, 1), (222, .dup, 1), (223, .bipush 35, 2), (225, .bipush 102, 2), (227, .iastore, 1), (228, .dup, 1), (229, .bipush 36, 2), (231, .bipush 102, 2), (233, .iastore, 1), (234, .dup, 1), (235, .bipush 37, 2), (237, .bipush 111, 2), (239, .iastore, 1), (240, .dup, 1), (241, .bipush 38, 2), (243, .bipush 114, 2), (245, .iastore, 1), (246, .dup, 1), (247, .bipush 39, 2), (249, .bipush 116, 2), (251, .iastore, 1), (252, .dup, 1), (253, .bipush 40, 2), (255, .bipush 32, 2), (257, .iastore, 1), (258, .dup, 1), (259, .bipush 41, 2), (261, .bipush 115, 2), (263, .iastore, 1), (264, .dup, 1), (265, .bipush 42, 2), (267, .bipush 101, 2)]
theorem DX11_init_2 : dAll cX11_init lDX11_init_2 = true := by decide +kernel
theorem dX11_init_179 : decode cX11_init 179 = .ok (.iastore, 1) := dAt (x := (179, .iastore, 1)) DX11_init_2 0 rfl
theorem dX11_init_180 : decode cX11_init 180 = .ok (.dup, 1) := dAt (x := (180, .dup, 1)) DX11_init_2 1 rfl
theorem dX11_init_181 : decode cX11_init 181 = .ok (.bipush 28, 2) := dAt (x := (181, .bipush 28, 2)) DX11_init_2 2 rfl
theorem dX11_init_183 : decode cX11_init 183 = .ok (.bipush 100, 2) := dAt (x := (183, .bipush 100, 2)) DX11_init_2 3 rfl
theorem dX11_init_185 : decode cX11_init 185 = .ok (.iastore, 1) := dAt (x := (185, .iastore, 1)) DX11_init_2 4 rfl
theorem dX11_init_186 : decode cX11_init 186 = .ok (.dup, 1) := dAt (x := (186, .dup, 1)) DX11_init_2 5 rfl
theorem dX11_init_187 : decode cX11_init 187 = .ok (.bipush 29, 2) := dAt (x := (187, .bipush 29, 2)) DX11_init_2 6 rfl
theorem dX11_init_189 : decode cX11_init 189 = .ok (.bipush 32, 2) := dAt (x := (189, .bipush 32, 2)) DX11_init_2 7 rfl
theorem dX11_init_191 : decode cX11_init 191 = .ok (.iastore, 1) := dAt (x := (191, .iastore, 1)) DX11_init_2 8 rfl
theorem dX11_init_192 : decode cX11_init 192 = .ok (.dup, 1) := dAt (x := (192, .dup, 1)) DX11_init_2 9 rfl
theorem dX11_init_193 : decode cX11_init 193 = .ok (.bipush 30, 2) := dAt (x := (193, .bipush 30, 2)) DX11_init_2 10 rfl
theorem dX11_init_195 : decode cX11_init 195 = .ok (.bipush 108, 2) := dAt (x := (195, .bipush 108, 2)) DX11_init_2 11 rfl
theorem dX11_init_197 : decode cX11_init 197 = .ok (.iastore, 1) := dAt (x := (197, .iastore, 1)) DX11_init_2 12 rfl
theorem dX11_init_198 : decode cX11_init 198 = .ok (.dup, 1) := dAt (x := (198, .dup, 1)) DX11_init_2 13 rfl
theorem dX11_init_199 : decode cX11_init 199 = .ok (.bipush 31, 2) := dAt (x := (199, .bipush 31, 2)) DX11_init_2 14 rfl
theorem dX11_init_201 : decode cX11_init 201 = .ok (.bipush 97, 2) := dAt (x := (201, .bipush 97, 2)) DX11_init_2 15 rfl
theorem dX11_init_203 : decode cX11_init 203 = .ok (.iastore, 1) := dAt (x := (203, .iastore, 1)) DX11_init_2 16 rfl
theorem dX11_init_204 : decode cX11_init 204 = .ok (.dup, 1) := dAt (x := (204, .dup, 1)) DX11_init_2 17 rfl
theorem dX11_init_205 : decode cX11_init 205 = .ok (.bipush 32, 2) := dAt (x := (205, .bipush 32, 2)) DX11_init_2 18 rfl
theorem dX11_init_207 : decode cX11_init 207 = .ok (.bipush 119, 2) := dAt (x := (207, .bipush 119, 2)) DX11_init_2 19 rfl
theorem dX11_init_209 : decode cX11_init 209 = .ok (.iastore, 1) := dAt (x := (209, .iastore, 1)) DX11_init_2 20 rfl
theorem dX11_init_210 : decode cX11_init 210 = .ok (.dup, 1) := dAt (x := (210, .dup, 1)) DX11_init_2 21 rfl
theorem dX11_init_211 : decode cX11_init 211 = .ok (.bipush 33, 2) := dAt (x := (211, .bipush 33, 2)) DX11_init_2 22 rfl
theorem dX11_init_213 : decode cX11_init 213 = .ok (.bipush 32, 2) := dAt (x := (213, .bipush 32, 2)) DX11_init_2 23 rfl
theorem dX11_init_215 : decode cX11_init 215 = .ok (.iastore, 1) := dAt (x := (215, .iastore, 1)) DX11_init_2 24 rfl
theorem dX11_init_216 : decode cX11_init 216 = .ok (.dup, 1) := dAt (x := (216, .dup, 1)) DX11_init_2 25 rfl
theorem dX11_init_217 : decode cX11_init 217 = .ok (.bipush 34, 2) := dAt (x := (217, .bipush 34, 2)) DX11_init_2 26 rfl
theorem dX11_init_219 : decode cX11_init 219 = .ok (.bipush 101, 2) := dAt (x := (219, .bipush 101, 2)) DX11_init_2 27 rfl
theorem dX11_init_221 : decode cX11_init 221 = .ok (.iastore, 1) := dAt (x := (221, .iastore, 1)) DX11_init_2 28 rfl
theorem dX11_init_222 : decode cX11_init 222 = .ok (.dup, 1) := dAt (x := (222, .dup, 1)) DX11_init_2 29 rfl
theorem dX11_init_223 : decode cX11_init 223 = .ok (.bipush 35, 2) := dAt (x := (223, .bipush 35, 2)) DX11_init_2 30 rfl
theorem dX11_init_225 : decode cX11_init 225 = .ok (.bipush 102, 2) := dAt (x := (225, .bipush 102, 2)) DX11_init_2 31 rfl
theorem dX11_init_227 : decode cX11_init 227 = .ok (.iastore, 1) := dAt (x := (227, .iastore, 1)) DX11_init_2 32 rfl
theorem dX11_init_228 : decode cX11_init 228 = .ok (.dup, 1) := dAt (x := (228, .dup, 1)) DX11_init_2 33 rfl
theorem dX11_init_229 : decode cX11_init 229 = .ok (.bipush 36, 2) := dAt (x := (229, .bipush 36, 2)) DX11_init_2 34 rfl
theorem dX11_init_231 : decode cX11_init 231 = .ok (.bipush 102, 2) := dAt (x := (231, .bipush 102, 2)) DX11_init_2 35 rfl
theorem dX11_init_233 : decode cX11_init 233 = .ok (.iastore, 1) := dAt (x := (233, .iastore, 1)) DX11_init_2 36 rfl
theorem dX11_init_234 : decode cX11_init 234 = .ok (.dup, 1) := dAt (x := (234, .dup, 1)) DX11_init_2 37 rfl
theorem dX11_init_235 : decode cX11_init 235 = .ok (.bipush 37, 2) := dAt (x := (235, .bipush 37, 2)) DX11_init_2 38 rfl
theorem dX11_init_237 : decode cX11_init 237 = .ok (.bipush 111, 2) := dAt (x := (237, .bipush 111, 2)) DX11_init_2 39 rfl
theorem dX11_init_239 : decode cX11_init 239 = .ok (.iastore, 1) := dAt (x := (239, .iastore, 1)) DX11_init_2 40 rfl
theorem dX11_init_240 : decode cX11_init 240 = .ok (.dup, 1) := dAt (x := (240, .dup, 1)) DX11_init_2 41 rfl
theorem dX11_init_241 : decode cX11_init 241 = .ok (.bipush 38, 2) := dAt (x := (241, .bipush 38, 2)) DX11_init_2 42 rfl
theorem dX11_init_243 : decode cX11_init 243 = .ok (.bipush 114, 2) := dAt (x := (243, .bipush 114, 2)) DX11_init_2 43 rfl
theorem dX11_init_245 : decode cX11_init 245 = .ok (.iastore, 1) := dAt (x := (245, .iastore, 1)) DX11_init_2 44 rfl
theorem dX11_init_246 : decode cX11_init 246 = .ok (.dup, 1) := dAt (x := (246, .dup, 1)) DX11_init_2 45 rfl
theorem dX11_init_247 : decode cX11_init 247 = .ok (.bipush 39, 2) := dAt (x := (247, .bipush 39, 2)) DX11_init_2 46 rfl
theorem dX11_init_249 : decode cX11_init 249 = .ok (.bipush 116, 2) := dAt (x := (249, .bipush 116, 2)) DX11_init_2 47 rfl
theorem dX11_init_251 : decode cX11_init 251 = .ok (.iastore, 1) := dAt (x := (251, .iastore, 1)) DX11_init_2 48 rfl
theorem dX11_init_252 : decode cX11_init 252 = .ok (.dup, 1) := dAt (x := (252, .dup, 1)) DX11_init_2 49 rfl
theorem dX11_init_253 : decode cX11_init 253 = .ok (.bipush 40, 2) := dAt (x := (253, .bipush 40, 2)) DX11_init_2 50 rfl
theorem dX11_init_255 : decode cX11_init 255 = .ok (.bipush 32, 2) := dAt (x := (255, .bipush 32, 2)) DX11_init_2 51 rfl
theorem dX11_init_257 : decode cX11_init 257 = .ok (.iastore, 1) := dAt (x := (257, .iastore, 1)) DX11_init_2 52 rfl
theorem dX11_init_258 : decode cX11_init 258 = .ok (.dup, 1) := dAt (x := (258, .dup, 1)) DX11_init_2 53 rfl
theorem dX11_init_259 : decode cX11_init 259 = .ok (.bipush 41, 2) := dAt (x := (259, .bipush 41, 2)) DX11_init_2 54 rfl
theorem dX11_init_261 : decode cX11_init 261 = .ok (.bipush 115, 2) := dAt (x := (261, .bipush 115, 2)) DX11_init_2 55 rfl
theorem dX11_init_263 : decode cX11_init 263 = .ok (.iastore, 1) := dAt (x := (263, .iastore, 1)) DX11_init_2 56 rfl
theorem dX11_init_264 : decode cX11_init 264 = .ok (.dup, 1) := dAt (x := (264, .dup, 1)) DX11_init_2 57 rfl
theorem dX11_init_265 : decode cX11_init 265 = .ok (.bipush 42, 2) := dAt (x := (265, .bipush 42, 2)) DX11_init_2 58 rfl
theorem dX11_init_267 : decode cX11_init 267 = .ok (.bipush 101, 2) := dAt (x := (267, .bipush 101, 2)) DX11_init_2 59 rfl
def lDX11_init_3 : List (Nat × Instr × Nat) := [(269, .iastore, 1), (270, .dup, 1), (271, .bipush 43, 2), (273, .bipush 97, 2), (275, .iastore, 1), (276, .dup, 1), (277, .bipush 44, 2), (279, .bipush 108, 2), (281, .iastore, 1), (282, .dup, 1), (283, .bipush 45, 2), (285, .bipush 32, 2), (287, .iastore, 1), (288, .dup, 1), (289, .bipush 46, 2), (291, .bipush 101, 2), (293, .iastore, 1), (294, .dup, 1), (295, .bipush 47, 2), (297, .bipush 97, 2), (299, .iastore, 1), (300, .dup, 1), (301, .bipush 48, 2), (303, .bipush 116, 2), (305, .iastore, 1), (306, .dup, 1), (307, .bipush 49, 2), (309, .bipush 32, 2), (311, .iastore, 1), (312, .dup, 1), (313, .bipush 50, 2), (315, .bipush 117, 2), (317, .iastore, 1), (318, .dup, 1), (319, .bipush 51, 2), (321, .bipush 112, 2), (323, .iastore, 1), (324, .dup, 1), (325, .bipush 52, 2), (327, .bipush 32, 2), (329, .iastore, 1), (330, .dup, 1), (331, .bipush 53, 2), (333, .bipush 100, 2), (335, .iastore, 1), (336, .dup, 1), (337, .bipush 54, 2), (339, .bipush 111, 2), (341, .iastore, 1), (342, .dup, 1), (343, .bipush 55, 2), (345, .bipush 119, 2), (347, .iastore, 1), (348, .dup, 1), (349, .bipush 56, 2), (351, .bipush 110, 2), (353, .iastore, 1), (354, .dup, 1), (355, .bipush 57, 2), (357, .bipush 32, 2)]
theorem DX11_init_3 : dAll cX11_init lDX11_init_3 = true := by decide +kernel
theorem dX11_init_269 : decode cX11_init 269 = .ok (.iastore, 1) := dAt (x := (269, .iastore, 1)) DX11_init_3 0 rfl
theorem dX11_init_270 : decode cX11_init 270 = .ok (.dup, 1) := dAt (x := (270, .dup, 1)) DX11_init_3 1 rfl
theorem dX11_init_271 : decode cX11_init 271 = .ok (.bipush 43, 2) := dAt (x := (271, .bipush 43, 2)) DX11_init_3 2 rfl
theorem dX11_init_273 : decode cX11_init 273 = .ok (.bipush 97, 2) := dAt (x := (273, .bipush 97, 2)) DX11_init_3 3 rfl
theorem dX11_init_275 : decode cX11_init 275 = .ok (.iastore, 1) := dAt (x := (275, .iastore, 1)) DX11_init_3 4 rfl
theorem dX11_init_276 : decode cX11_init 276 = .ok (.dup, 1) := dAt (x := (276, .dup, 1)) DX11_init_3 5 rfl
theorem dX11_init_277 : decode cX11_init 277 = .ok (.bipush 44, 2) := dAt (x := (277, .bipush 44, 2)) DX11_init_3 6 rfl
theorem dX11_init_279 : decode cX11_init 279 = .ok (.bipush 108, 2) := dAt (x := (279, .bipush 108, 2)) DX11_init_3 7 rfl
theorem dX11_init_281 : decode cX11_init 281 = .ok (.iastore, 1) := dAt (x := (281, .iastore, 1)) DX11_init_3 8 rfl
theorem dX11_init_282 : decode cX11_init 282 = .ok (.dup, 1) := dAt (x := (282, .dup, 1)) DX11_init_3 9 rfl
theorem dX11_init_283 : decode cX11_init 283 = .ok (.bipush 45, 2) := dAt (x := (283, .bipush 45, 2)) DX11_init_3 10 rfl
theorem dX11_init_285 : decode cX11_init 285 = .ok (.bipush 32, 2) := dAt (x := (285, .bipush 32, 2)) DX11_init_3 11 rfl
theorem dX11_init_287 : decode cX11_init 287 = .ok (.iastore, 1) := dAt (x := (287, .iastore, 1)) DX11_init_3 12 rfl
theorem dX11_init_288 : decode cX11_init 288 = .ok (.dup, 1) := dAt (x := (288, .dup, 1)) DX11_init_3 13 rfl
theorem dX11_init_289 : decode cX11_init 289 = .ok (.bipush 46, 2) := dAt (x := (289, .bipush 46, 2)) DX11_init_3 14 rfl
theorem dX11_init_291 : decode cX11_init 291 = .ok (.bipush 101, 2) := dAt (x := (291, .bipush 101, 2)) DX11_init_3 15 rfl
theorem dX11_init_293 : decode cX11_init 293 = .ok (.iastore, 1) := dAt (x := (293, .iastore, 1)) DX11_init_3 16 rfl
theorem dX11_init_294 : decode cX11_init 294 = .ok (.dup, 1) := dAt (x := (294, .dup, 1)) DX11_init_3 17 rfl
theorem dX11_init_295 : decode cX11_init 295 = .ok (.bipush 47, 2) := dAt (x := (295, .bipush 47, 2)) DX11_init_3 18 rfl
theorem dX11_init_297 : decode cX11_init 297 = .ok (.bipush 97, 2) := dAt (x := (297, .bipush 97, 2)) DX11_init_3 19 rfl
theorem dX11_init_299 : decode cX11_init 299 = .ok (.iastore, 1) := dAt (x := (299, .iastore, 1)) DX11_init_3 20 rfl
theorem dX11_init_300 : decode cX11_init 300 = .ok (.dup, 1) := dAt (x := (300, .dup, 1)) DX11_init_3 21 rfl
theorem dX11_init_301 : decode cX11_init 301 = .ok (.bipush 48, 2) := dAt (x := (301, .bipush 48, 2)) DX11_init_3 22 rfl
theorem dX11_init_303 : decode cX11_init 303 = .ok (.bipush 116, 2) := dAt (x := (303, .bipush 116, 2)) DX11_init_3 23 rfl
theorem dX11_init_305 : decode cX11_init 305 = .ok (.iastore, 1) := dAt (x := (305, .iastore, 1)) DX11_init_3 24 rfl
theorem dX11_init_306 : decode cX11_init 306 = .ok (.dup, 1) := dAt (x := (306, .dup, 1)) DX11_init_3 25 rfl
theorem dX11_init_307 : decode cX11_init 307 = .ok (.bipush 49, 2) := dAt (x := (307, .bipush 49, 2)) DX11_init_3 26 rfl
theorem dX11_init_309 : decode cX11_init 309 = .ok (.bipush 32, 2) := dAt (x := (309, .bipush 32, 2)) DX11_init_3 27 rfl
theorem dX11_init_311 : decode cX11_init 311 = .ok (.iastore, 1) := dAt (x := (311, .iastore, 1)) DX11_init_3 28 rfl
theorem dX11_init_312 : decode cX11_init 312 = .ok (.dup, 1) := dAt (x := (312, .dup, 1)) DX11_init_3 29 rfl
theorem dX11_init_313 : decode cX11_init 313 = .ok (.bipush 50, 2) := dAt (x := (313, .bipush 50, 2)) DX11_init_3 30 rfl
theorem dX11_init_315 : decode cX11_init 315 = .ok (.bipush 117, 2) := dAt (x := (315, .bipush 117, 2)) DX11_init_3 31 rfl
theorem dX11_init_317 : decode cX11_init 317 = .ok (.iastore, 1) := dAt (x := (317, .iastore, 1)) DX11_init_3 32 rfl
theorem dX11_init_318 : decode cX11_init 318 = .ok (.dup, 1) := dAt (x := (318, .dup, 1)) DX11_init_3 33 rfl
theorem dX11_init_319 : decode cX11_init 319 = .ok (.bipush 51, 2) := dAt (x := (319, .bipush 51, 2)) DX11_init_3 34 rfl
theorem dX11_init_321 : decode cX11_init 321 = .ok (.bipush 112, 2) := dAt (x := (321, .bipush 112, 2)) DX11_init_3 35 rfl
theorem dX11_init_323 : decode cX11_init 323 = .ok (.iastore, 1) := dAt (x := (323, .iastore, 1)) DX11_init_3 36 rfl
theorem dX11_init_324 : decode cX11_init 324 = .ok (.dup, 1) := dAt (x := (324, .dup, 1)) DX11_init_3 37 rfl
theorem dX11_init_325 : decode cX11_init 325 = .ok (.bipush 52, 2) := dAt (x := (325, .bipush 52, 2)) DX11_init_3 38 rfl
theorem dX11_init_327 : decode cX11_init 327 = .ok (.bipush 32, 2) := dAt (x := (327, .bipush 32, 2)) DX11_init_3 39 rfl
theorem dX11_init_329 : decode cX11_init 329 = .ok (.iastore, 1) := dAt (x := (329, .iastore, 1)) DX11_init_3 40 rfl
theorem dX11_init_330 : decode cX11_init 330 = .ok (.dup, 1) := dAt (x := (330, .dup, 1)) DX11_init_3 41 rfl
theorem dX11_init_331 : decode cX11_init 331 = .ok (.bipush 53, 2) := dAt (x := (331, .bipush 53, 2)) DX11_init_3 42 rfl
theorem dX11_init_333 : decode cX11_init 333 = .ok (.bipush 100, 2) := dAt (x := (333, .bipush 100, 2)) DX11_init_3 43 rfl
theorem dX11_init_335 : decode cX11_init 335 = .ok (.iastore, 1) := dAt (x := (335, .iastore, 1)) DX11_init_3 44 rfl
theorem dX11_init_336 : decode cX11_init 336 = .ok (.dup, 1) := dAt (x := (336, .dup, 1)) DX11_init_3 45 rfl
theorem dX11_init_337 : decode cX11_init 337 = .ok (.bipush 54, 2) := dAt (x := (337, .bipush 54, 2)) DX11_init_3 46 rfl
theorem dX11_init_339 : decode cX11_init 339 = .ok (.bipush 111, 2) := dAt (x := (339, .bipush 111, 2)) DX11_init_3 47 rfl
theorem dX11_init_341 : decode cX11_init 341 = .ok (.iastore, 1) := dAt (x := (341, .iastore, 1)) DX11_init_3 48 rfl
theorem dX11_init_342 : decode cX11_init 342 = .ok (.dup, 1) := dAt (x := (342, .dup, 1)) DX11_init_3 49 rfl
theorem dX11_init_343 : decode cX11_init 343 = .ok (.bipush 55, 2) := dAt (x := (343, .bipush 55, 2)) DX11_init_3 50 rfl
theorem dX11_init_345 : decode cX11_init 345 = .ok (.bipush 119, 2) := dAt (x := (345, .bipush 119, 2)) DX11_init_3 51 rfl
theorem dX11_init_347 : decode cX11_init 347 = .ok (.iastore, 1) := dAt (x := (347, .iastore, 1)) DX11_init_3 52 rfl
theorem dX11_init_348 : decode cX11_init 348 = .ok (.dup, 1) := dAt (x := (348, .dup, 1)) DX11_init_3 53 rfl
theorem dX11_init_349 : decode cX11_init 349 = .ok (.bipush 56, 2) := dAt (x := (349, .bipush 56, 2)) DX11_init_3 54 rfl
theorem dX11_init_351 : decode cX11_init 351 = .ok (.bipush 110, 2) := dAt (x := (351, .bipush 110, 2)) DX11_init_3 55 rfl
theorem dX11_init_353 : decode cX11_init 353 = .ok (.iastore, 1) := dAt (x := (353, .iastore, 1)) DX11_init_3 56 rfl
theorem dX11_init_354 : decode cX11_init 354 = .ok (.dup, 1) := dAt (x := (354, .dup, 1)) DX11_init_3 57 rfl
theorem dX11_init_355 : decode cX11_init 355 = .ok (.bipush 57, 2) := dAt (x := (355, .bipush 57, 2)) DX11_init_3 58 rfl
theorem dX11_init_357 : decode cX11_init 357 = .ok (.bipush 32, 2) := dAt (x := (357, .bipush 32, 2)) DX11_init_3 59 rfl
def lDX11_init_4 : List (Nat × Instr × Nat) := [(359, .iastore, 1), (360, .dup, 1), (361, .bipush 58, 2), (363, .bipush 109, 2), (365, .iastore, 1), (366, .dup, 1), (367, .bipush 59, 2), (369, .bipush 97, 2), (371, .iastore, 1), (372, .dup, 1), (373, .bipush 60, 2), (375, .bipush 110, 2), (377, .iastore, 1), (378, .dup, 1), (379, .bipush 61, 2), (381, .bipush 121, 2), (383, .iastore, 1), (384, .dup, 1), (385, .bipush 62, 2), (387, .bipush 32, 2), (389, .iastore, 1), (390, .dup, 1), (391, .bipush 63, 2), (393, .bipush 97, 2), (395, .iastore, 1), (396, .dup, 1), (397, .bipush 64, 2), (399, .bipush 115, 2), (401, .iastore, 1), (402, .dup, 1), (403, .bipush 65, 2), (405, .bipush 32, 2), (407, .iastore, 1), (408, .dup, 1), (409, .bipush 66, 2), (411, .bipush 97, 2), (413, .iastore, 1), (414, .dup, 1), (415, .bipush 67, 2), (417, .bipush 110, 2), (419, .iastore, 1), (420, .dup, 1), (421, .bipush 68, 2), (423, .bipush 100, 2), (425, .iastore, 1), (426, .dup, 1), (427, .bipush 69, 2), (429, .bipush 32, 2), (431, .iastore, 1), (432, .dup, 1), (433, .bipush 70, 2), (435, .bipush 111, 2), (437, .iastore, 1), (438, .dup, 1), (439, .bipush 71, 2), (441, .bipush 114, 2), (443, .iastore, 1), (444, .dup, 1), (445, .bipush 72, 2), (447, .bipush 32, 2)]
theorem DX11_init_4 : dAll cX11_init lDX11_init_4 = true := by decide +kernel
theorem dX11_init_359 : decode cX11_init 359 = .ok (.iastore, 1) := dAt (x := (359, .iastore, 1)) DX11_init_4 0 rfl
theorem dX11_init_360 : decode cX11_init 360 = .ok (.dup, 1) := dAt (x := (360, .dup, 1)) DX11_init_4 1 rfl
theorem dX11_init_361 : decode cX11_init 361 = .ok (.bipush 58, 2) := dAt (x := (361, .bipush 58, 2)) DX11_init_4 2 rfl
theorem dX11_init_363 : decode cX11_init 363 = .ok (.bipush 109, 2) := dAt (x := (363, .bipush 109, 2)) DX11_init_4 3 rfl
theorem dX11_init_365 : decode cX11_init 365 = .ok (.iastore, 1) := dAt (x := (365, .iastore, 1)) DX11_init_4 4 rfl
theorem dX11_init_366 : decode cX11_init 366 = .ok (.dup, 1) := dAt (x := (366, .dup, 1)) DX11_init_4 5 rfl
theorem dX11_init_367 : decode cX11_init 367 = .ok (.bipush 59, 2) := dAt (x := (367, .bipush 59, 2)) DX11_init_4 6 rfl
theorem dX11_init_369 : decode cX11_init 369 = .ok (.bipush 97, 2) := dAt (x := (369, .bipush 97, 2)) DX11_init_4 7 rfl
theorem dX11_init_371 : decode cX11_init 371 = .ok (.iastore, 1) := dAt (x := (371, .iastore, 1)) DX11_init_4 8 rfl
theorem dX11_init_372 : decode cX11_init 372 = .ok (.dup, 1) := dAt (x := (372, .dup, 1)) DX11_init_4 9 rfl
theorem dX11_init_373 : decode cX11_init 373 = .ok (.bipush 60, 2) := dAt (x := (373, .bipush 60, 2)) DX11_init_4 10 rfl
theorem dX11_init_375 : decode cX11_init 375 = .ok (.bipush 110, 2) := dAt (x := (375, .bipush 110, 2)) DX11_init_4 11 rfl
theorem dX11_init_377 : decode cX11_init 377 = .ok (.iastore, 1) := dAt (x := (377, .iastore, 1)) DX11_init_4 12 rfl
theorem dX11_init_378 : decode cX11_init 378 = .ok (.dup, 1) := dAt (x := (378, .dup, 1)) DX11_init_4 13 rfl
theorem dX11_init_379 : decode cX11_init 379 = .ok (.bipush 61, 2) := dAt (x := (379, .bipush 61, 2)) DX11_init_4 14 rfl
theorem dX11_init_381 : decode cX11_init 381 = .ok (.bipush 121, 2) := dAt (x := (381, .bipush 121, 2)) DX11_init_4 15 rfl
theorem dX11_init_383 : decode cX11_init 383 = .ok (.iastore, 1) := dAt (x := (383, .iastore, 1)) DX11_init_4 16 rfl
theorem dX11_init_384 : decode cX11_init 384 = .ok (.dup, 1) := dAt (x := (384, .dup, 1)) DX11_init_4 17 rfl
theorem dX11_init_385 : decode cX11_init 385 = .ok (.bipush 62, 2) := dAt (x := (385, .bipush 62, 2)) DX11_init_4 18 rfl
theorem dX11_init_387 : decode cX11_init 387 = .ok (.bipush 32, 2) := dAt (x := (387, .bipush 32, 2)) DX11_init_4 19 rfl
theorem dX11_init_389 : decode cX11_init 389 = .ok (.iastore, 1) := dAt (x := (389, .iastore, 1)) DX11_init_4 20 rfl
theorem dX11_init_390 : decode cX11_init 390 = .ok (.dup, 1) := dAt (x := (390, .dup, 1)) DX11_init_4 21 rfl
theorem dX11_init_391 : decode cX11_init 391 = .ok (.bipush 63, 2) := dAt (x := (391, .bipush 63, 2)) DX11_init_4 22 rfl
theorem dX11_init_393 : decode cX11_init 393 = .ok (.bipush 97, 2) := dAt (x := (393, .bipush 97, 2)) DX11_init_4 23 rfl
theorem dX11_init_395 : decode cX11_init 395 = .ok (.iastore, 1) := dAt (x := (395, .iastore, 1)) DX11_init_4 24 rfl
theorem dX11_init_396 : decode cX11_init 396 = .ok (.dup, 1) := dAt (x := (396, .dup, 1)) DX11_init_4 25 rfl
theorem dX11_init_397 : decode cX11_init 397 = .ok (.bipush 64, 2) := dAt (x := (397, .bipush 64, 2)) DX11_init_4 26 rfl
theorem dX11_init_399 : decode cX11_init 399 = .ok (.bipush 115, 2) := dAt (x := (399, .bipush 115, 2)) DX11_init_4 27 rfl
theorem dX11_init_401 : decode cX11_init 401 = .ok (.iastore, 1) := dAt (x := (401, .iastore, 1)) DX11_init_4 28 rfl
theorem dX11_init_402 : decode cX11_init 402 = .ok (.dup, 1) := dAt (x := (402, .dup, 1)) DX11_init_4 29 rfl
theorem dX11_init_403 : decode cX11_init 403 = .ok (.bipush 65, 2) := dAt (x := (403, .bipush 65, 2)) DX11_init_4 30 rfl
theorem dX11_init_405 : decode cX11_init 405 = .ok (.bipush 32, 2) := dAt (x := (405, .bipush 32, 2)) DX11_init_4 31 rfl
theorem dX11_init_407 : decode cX11_init 407 = .ok (.iastore, 1) := dAt (x := (407, .iastore, 1)) DX11_init_4 32 rfl
theorem dX11_init_408 : decode cX11_init 408 = .ok (.dup, 1) := dAt (x := (408, .dup, 1)) DX11_init_4 33 rfl
theorem dX11_init_409 : decode cX11_init 409 = .ok (.bipush 66, 2) := dAt (x := (409, .bipush 66, 2)) DX11_init_4 34 rfl
theorem dX11_init_411 : decode cX11_init 411 = .ok (.bipush 97, 2) := dAt (x := (411, .bipush 97, 2)) DX11_init_4 35 rfl
theorem dX11_init_413 : decode cX11_init 413 = .ok (.iastore, 1) := dAt (x := (413, .iastore, 1)) DX11_init_4 36 rfl
theorem dX11_init_414 : decode cX11_init 414 = .ok (.dup, 1) := dAt (x := (414, .dup, 1)) DX11_init_4 37 rfl
theorem dX11_init_415 : decode cX11_init 415 = .ok (.bipush 67, 2) := dAt (x := (415, .bipush 67, 2)) DX11_init_4 38 rfl
theorem dX11_init_417 : decode cX11_init 417 = .ok (.bipush 110, 2) := dAt (x := (417, .bipush 110, 2)) DX11_init_4 39 rfl
theorem dX11_init_419 : decode cX11_init 419 = .ok (.iastore, 1) := dAt (x := (419, .iastore, 1)) DX11_init_4 40 rfl
theorem dX11_init_420 : decode cX11_init 420 = .ok (.dup, 1) := dAt (x := (420, .dup, 1)) DX11_init_4 41 rfl
theorem dX11_init_421 : decode cX11_init 421 = .ok (.bipush 68, 2) := dAt (x := (421, .bipush 68, 2)) DX11_init_4 42 rfl
theorem dX11_init_423 : decode cX11_init 423 = .ok (.bipush 100, 2) := dAt (x := (423, .bipush 100, 2)) DX11_init_4 43 rfl
theorem dX11_init_425 : decode cX11_init 425 = .ok (.iastore, 1) := dAt (x := (425, .iastore, 1)) DX11_init_4 44 rfl
theorem dX11_init_426 : decode cX11_init 426 = .ok (.dup, 1) := dAt (x := (426, .dup, 1)) DX11_init_4 45 rfl
theorem dX11_init_427 : decode cX11_init 427 = .ok (.bipush 69, 2) := dAt (x := (427, .bipush 69, 2)) DX11_init_4 46 rfl
theorem dX11_init_429 : decode cX11_init 429 = .ok (.bipush 32, 2) := dAt (x := (429, .bipush 32, 2)) DX11_init_4 47 rfl
theorem dX11_init_431 : decode cX11_init 431 = .ok (.iastore, 1) := dAt (x := (431, .iastore, 1)) DX11_init_4 48 rfl
theorem dX11_init_432 : decode cX11_init 432 = .ok (.dup, 1) := dAt (x := (432, .dup, 1)) DX11_init_4 49 rfl
theorem dX11_init_433 : decode cX11_init 433 = .ok (.bipush 70, 2) := dAt (x := (433, .bipush 70, 2)) DX11_init_4 50 rfl
theorem dX11_init_435 : decode cX11_init 435 = .ok (.bipush 111, 2) := dAt (x := (435, .bipush 111, 2)) DX11_init_4 51 rfl
theorem dX11_init_437 : decode cX11_init 437 = .ok (.iastore, 1) := dAt (x := (437, .iastore, 1)) DX11_init_4 52 rfl
theorem dX11_init_438 : decode cX11_init 438 = .ok (.dup, 1) := dAt (x := (438, .dup, 1)) DX11_init_4 53 rfl
theorem dX11_init_439 : decode cX11_init 439 = .ok (.bipush 71, 2) := dAt (x := (439, .bipush 71, 2)) DX11_init_4 54 rfl
theorem dX11_init_441 : decode cX11_init 441 = .ok (.bipush 114, 2) := dAt (x := (441, .bipush 114, 2)) DX11_init_4 55 rfl
theorem dX11_init_443 : decode cX11_init 443 = .ok (.iastore, 1) := dAt (x := (443, .iastore, 1)) DX11_init_4 56 rfl
theorem dX11_init_444 : decode cX11_init 444 = .ok (.dup, 1) := dAt (x := (444, .dup, 1)) DX11_init_4 57 rfl
theorem dX11_init_445 : decode cX11_init 445 = .ok (.bipush 72, 2) := dAt (x := (445, .bipush 72, 2)) DX11_init_4 58 rfl
theorem dX11_init_447 : decode cX11_init 447 = .ok (.bipush 32, 2) := dAt (x := (447, .bipush 32, 2)) DX11_init_4 59 rfl
def lDX11_init_5 : List (Nat × Instr × Nat) := [(449, .iastore, 1), (450, .dup, 1), (451, .bipush 73, 2), (453, .bipush 110, 2), (455, .iastore, 1), (456, .dup, 1), (457, .bipush 74, 2), (459, .bipush 111, 2), (461, .iastore, 1), (462, .dup, 1), (463, .bipush 75, 2), (465, .bipush 116, 2), (467, .iastore, 1), (468, .dup, 1), (469, .bipush 76, 2), (471, .bipush 32, 2), (473, .iastore, 1), (474, .dup, 1), (475, .bipush 77, 2), (477, .bipush 119, 2), (479, .iastore, 1), (480, .dup, 1), (481, .bipush 78, 2), (483, .bipush 111, 2), (485, .iastore, 1), (486, .dup, 1), (487, .bipush 79, 2), (489, .bipush 114, 2), (491, .iastore, 1), (492, .dup, 1), (493, .bipush 80, 2), (495, .bipush 110, 2), (497, .iastore, 1), (498, .dup, 1), (499, .bipush 81, 2), (501, .bipush 32, 2), (503, .iastore, 1), (504, .dup, 1), (505, .bipush 82, 2), (507, .bipush 112, 2), (509, .iastore, 1), (510, .dup, 1), (511, .bipush 83, 2), (513, .bipush 108, 2), (515, .iastore, 1), (516, .dup, 1), (517, .bipush 84, 2), (519, .bipush 97, 2), (521, .iastore, 1), (522, .dup, 1), (523, .bipush 85, 2), (525, .bipush 99, 2), (527, .iastore, 1), (528, .dup, 1), (529, .bipush 86, 2), (531, .bipush 101, 2), (533, .iastore, 1), (534, .dup, 1), (535, .bipush 87, 2), (537, .bipush 32, 2)]
theorem DX11_init_5 : dAll cX11_init lDX11_init_5 = true := by decide +kernel
theorem dX11_init_449 : decode cX11_init 449 = .ok (.iastore, 1) := dAt (x := (449, .iastore, 1)) DX11_init_5 0 rfl
theorem dX11_init_450 : decode cX11_init 450 = .ok (.dup, 1) := dAt (x := (450, .dup, 1)) DX11_init_5 1 rfl
theorem dX11_init_451 : decode cX11_init 451 = .ok (.bipush 73, 2) := dAt (x := (451, .bipush 73, 2)) DX11_init_5 2 rfl
theorem dX11_init_453 : decode cX11_init 453 = .ok (.bipush 110, 2) := dAt (x := (453, .bipush 110, 2)) DX11_init_5 3 rfl
theorem dX11_init_455 : decode cX11_init 455 = .ok (.iastore, 1) := dAt (x := (455, .iastore, 1)) DX11_init_5 4 rfl
theorem dX11_init_456 : decode cX11_init 456 = .ok (.dup, 1) := dAt (x := (456, .dup, 1)) DX11_init_5 5 rfl
theorem dX11_init_457 : decode cX11_init 457 = .ok (.bipush 74, 2) := dAt (x := (457, .bipush 74, 2)) DX11_init_5 6 rfl
theorem dX11_init_459 : decode cX11_init 459 = .ok (.bipush 111, 2) := dAt (x := (459, .bipush 111, 2)) DX11_init_5 7 rfl
theorem dX11_init_461 : decode cX11_init 461 = .ok (.iastore, 1) := dAt (x := (461, .iastore, 1)) DX11_init_5 8 rfl
theorem dX11_init_462 : decode cX11_init 462 = .ok (.dup, 1) := dAt (x := (462, .dup, 1)) DX11_init_5 9 rfl
theorem dX11_init_463 : decode cX11_init 463 = .ok (.bipush 75, 2) := dAt (x := (463, .bipush 75, 2)) DX11_init_5 10 rfl
theorem dX11_init_465 : decode cX11_init 465 = .ok (.bipush 116, 2) := dAt (x := (465, .bipush 116, 2)) DX11_init_5 11 rfl
theorem dX11_init_467 : decode cX11_init 467 = .ok (.iastore, 1) := dAt (x := (467, .iastore, 1)) DX11_init_5 12 rfl
theorem dX11_init_468 : decode cX11_init 468 = .ok (.dup, 1) := dAt (x := (468, .dup, 1)) DX11_init_5 13 rfl
theorem dX11_init_469 : decode cX11_init 469 = .ok (.bipush 76, 2) := dAt (x := (469, .bipush 76, 2)) DX11_init_5 14 rfl
theorem dX11_init_471 : decode cX11_init 471 = .ok (.bipush 32, 2) := dAt (x := (471, .bipush 32, 2)) DX11_init_5 15 rfl
theorem dX11_init_473 : decode cX11_init 473 = .ok (.iastore, 1) := dAt (x := (473, .iastore, 1)) DX11_init_5 16 rfl
theorem dX11_init_474 : decode cX11_init 474 = .ok (.dup, 1) := dAt (x := (474, .dup, 1)) DX11_init_5 17 rfl
theorem dX11_init_475 : decode cX11_init 475 = .ok (.bipush 77, 2) := dAt (x := (475, .bipush 77, 2)) DX11_init_5 18 rfl
theorem dX11_init_477 : decode cX11_init 477 = .ok (.bipush 119, 2) := dAt (x := (477, .bipush 119, 2)) DX11_init_5 19 rfl
theorem dX11_init_479 : decode cX11_init 479 = .ok (.iastore, 1) := dAt (x := (479, .iastore, 1)) DX11_init_5 20 rfl
theorem dX11_init_480 : decode cX11_init 480 = .ok (.dup, 1) := dAt (x := (480, .dup, 1)) DX11_init_5 21 rfl
theorem dX11_init_481 : decode cX11_init 481 = .ok (.bipush 78, 2) := dAt (x := (481, .bipush 78, 2)) DX11_init_5 22 rfl
theorem dX11_init_483 : decode cX11_init 483 = .ok (.bipush 111, 2) := dAt (x := (483, .bipush 111, 2)) DX11_init_5 23 rfl
theorem dX11_init_485 : decode cX11_init 485 = .ok (.iastore, 1) := dAt (x := (485, .iastore, 1)) DX11_init_5 24 rfl
theorem dX11_init_486 : decode cX11_init 486 = .ok (.dup, 1) := dAt (x := (486, .dup, 1)) DX11_init_5 25 rfl
theorem dX11_init_487 : decode cX11_init 487 = .ok (.bipush 79, 2) := dAt (x := (487, .bipush 79, 2)) DX11_init_5 26 rfl
theorem dX11_init_489 : decode cX11_init 489 = .ok (.bipush 114, 2) := dAt (x := (489, .bipush 114, 2)) DX11_init_5 27 rfl
theorem dX11_init_491 : decode cX11_init 491 = .ok (.iastore, 1) := dAt (x := (491, .iastore, 1)) DX11_init_5 28 rfl
theorem dX11_init_492 : decode cX11_init 492 = .ok (.dup, 1) := dAt (x := (492, .dup, 1)) DX11_init_5 29 rfl
theorem dX11_init_493 : decode cX11_init 493 = .ok (.bipush 80, 2) := dAt (x := (493, .bipush 80, 2)) DX11_init_5 30 rfl
theorem dX11_init_495 : decode cX11_init 495 = .ok (.bipush 110, 2) := dAt (x := (495, .bipush 110, 2)) DX11_init_5 31 rfl
theorem dX11_init_497 : decode cX11_init 497 = .ok (.iastore, 1) := dAt (x := (497, .iastore, 1)) DX11_init_5 32 rfl
theorem dX11_init_498 : decode cX11_init 498 = .ok (.dup, 1) := dAt (x := (498, .dup, 1)) DX11_init_5 33 rfl
theorem dX11_init_499 : decode cX11_init 499 = .ok (.bipush 81, 2) := dAt (x := (499, .bipush 81, 2)) DX11_init_5 34 rfl
theorem dX11_init_501 : decode cX11_init 501 = .ok (.bipush 32, 2) := dAt (x := (501, .bipush 32, 2)) DX11_init_5 35 rfl
theorem dX11_init_503 : decode cX11_init 503 = .ok (.iastore, 1) := dAt (x := (503, .iastore, 1)) DX11_init_5 36 rfl
theorem dX11_init_504 : decode cX11_init 504 = .ok (.dup, 1) := dAt (x := (504, .dup, 1)) DX11_init_5 37 rfl
theorem dX11_init_505 : decode cX11_init 505 = .ok (.bipush 82, 2) := dAt (x := (505, .bipush 82, 2)) DX11_init_5 38 rfl
theorem dX11_init_507 : decode cX11_init 507 = .ok (.bipush 112, 2) := dAt (x := (507, .bipush 112, 2)) DX11_init_5 39 rfl
theorem dX11_init_509 : decode cX11_init 509 = .ok (.iastore, 1) := dAt (x := (509, .iastore, 1)) DX11_init_5 40 rfl
theorem dX11_init_510 : decode cX11_init 510 = .ok (.dup, 1) := dAt (x := (510, .dup, 1)) DX11_init_5 41 rfl
theorem dX11_init_511 : decode cX11_init 511 = .ok (.bipush 83, 2) := dAt (x := (511, .bipush 83, 2)) DX11_init_5 42 rfl
theorem dX11_init_513 : decode cX11_init 513 = .ok (.bipush 108, 2) := dAt (x := (513, .bipush 108, 2)) DX11_init_5 43 rfl
theorem dX11_init_515 : decode cX11_init 515 = .ok (.iastore, 1) := dAt (x := (515, .iastore, 1)) DX11_init_5 44 rfl
theorem dX11_init_516 : decode cX11_init 516 = .ok (.dup, 1) := dAt (x := (516, .dup, 1)) DX11_init_5 45 rfl
theorem dX11_init_517 : decode cX11_init 517 = .ok (.bipush 84, 2) := dAt (x := (517, .bipush 84, 2)) DX11_init_5 46 rfl
theorem dX11_init_519 : decode cX11_init 519 = .ok (.bipush 97, 2) := dAt (x := (519, .bipush 97, 2)) DX11_init_5 47 rfl
theorem dX11_init_521 : decode cX11_init 521 = .ok (.iastore, 1) := dAt (x := (521, .iastore, 1)) DX11_init_5 48 rfl
theorem dX11_init_522 : decode cX11_init 522 = .ok (.dup, 1) := dAt (x := (522, .dup, 1)) DX11_init_5 49 rfl
theorem dX11_init_523 : decode cX11_init 523 = .ok (.bipush 85, 2) := dAt (x := (523, .bipush 85, 2)) DX11_init_5 50 rfl
theorem dX11_init_525 : decode cX11_init 525 = .ok (.bipush 99, 2) := dAt (x := (525, .bipush 99, 2)) DX11_init_5 51 rfl
theorem dX11_init_527 : decode cX11_init 527 = .ok (.iastore, 1) := dAt (x := (527, .iastore, 1)) DX11_init_5 52 rfl
theorem dX11_init_528 : decode cX11_init 528 = .ok (.dup, 1) := dAt (x := (528, .dup, 1)) DX11_init_5 53 rfl
theorem dX11_init_529 : decode cX11_init 529 = .ok (.bipush 86, 2) := dAt (x := (529, .bipush 86, 2)) DX11_init_5 54 rfl
theorem dX11_init_531 : decode cX11_init 531 = .ok (.bipush 101, 2) := dAt (x := (531, .bipush 101, 2)) DX11_init_5 55 rfl
theorem dX11_init_533 : decode cX11_init 533 = .ok (.iastore, 1) := dAt (x := (533, .iastore, 1)) DX11_init_5 56 rfl
theorem dX11_init_534 : decode cX11_init 534 = .ok (.dup, 1) := dAt (x := (534, .dup, 1)) DX11_init_5 57 rfl
theorem dX11_init_535 : decode cX11_init 535 = .ok (.bipush 87, 2) := dAt (x := (535, .bipush 87, 2)) DX11_init_5 58 rfl
theorem dX11_init_537 : decode cX11_init 537 = .ok (.bipush 32, 2) := dAt (x := (537, .bipush 32, 2)) DX11_init_5 59 rfl
def lDX11_init_6 : List (Nat × Instr × Nat) := [(539, .iastore, 1), (540, .dup, 1), (541, .bipush 88, 2), (543, .bipush 117, 2), (545, .iastore, 1), (546, .dup, 1), (547, .bipush 89, 2), (549, .bipush 112, 2), (551, .iastore, 1), (552, .dup, 1), (553, .bipush 90, 2), (555, .bipush 115, 2), (557, .iastore, 1), (558, .dup, 1), (559, .bipush 91, 2), (561, .bipush 32, 2), (563, .iastore, 1), (564, .dup, 1), (565, .bipush 92, 2), (567, .bipush 115, 2), (569, .iastore, 1), (570, .dup, 1), (571, .bipush 93, 2), (573, .bipush 101, 2), (575, .iastore, 1), (576, .dup, 1), (577, .bipush 94, 2), (579, .bipush 97, 2), (581, .iastore, 1), (582, .dup, 1), (583, .bipush 95, 2), (585, .bipush 108, 2), (587, .iastore, 1), (588, .dup, 1), (589, .bipush 96, 2), (591, .bipush 115, 2), (593, .iastore, 1), (594, .dup, 1), (595, .bipush 97, 2), (597, .bipush 32, 2), (599, .iastore, 1), (600, .dup, 1), (601, .bipush 98, 2), (603, .bipush 104, 2), (605, .iastore, 1), (606, .dup, 1), (607, .bipush 99, 2), (609, .bipush 105, 2), (611, .iastore, 1), (612, .dup, 1), (613, .bipush 100, 2), (615, .bipush 103, 2), (617, .iastore, 1), (618, .dup, 1), (619, .bipush 101, 2), (621, .bipush 104, 2), (623, .iastore, 1), (624, .dup, 1), (625, .bipush 102, 2), (627, .bipush 32, 2)]
theorem DX11_init_6 : dAll cX11_init lDX11_init_6 = true := by decide +kernel
theorem dX11_init_539 : decode cX11_init 539 = .ok (.iastore, 1) := dAt (x := (539, .iastore, 1)) DX11_init_6 0 rfl
theorem dX11_init_540 : decode cX11_init 540 = .ok (.dup, 1) := dAt (x := (540, .dup, 1)) DX11_init_6 1 rfl
theorem dX11_init_541 : decode cX11_init 541 = .ok (.bipush 88, 2) := dAt (x := (541, .bipush 88, 2)) DX11_init_6 2 rfl
theorem dX11_init_543 : decode cX11_init 543 = .ok (.bipush 117, 2) := dAt (x := (543, .bipush 117, 2)) DX11_init_6 3 rfl
theorem dX11_init_545 : decode cX11_init 545 = .ok (.iastore, 1) := dAt (x := (545, .iastore, 1)) DX11_init_6 4 rfl
theorem dX11_init_546 : decode cX11_init 546 = .ok (.dup, 1) := dAt (x := (546, .dup, 1)) DX11_init_6 5 rfl
theorem dX11_init_547 : decode cX11_init 547 = .ok (.bipush 89, 2) := dAt (x := (547, .bipush 89, 2)) DX11_init_6 6 rfl
theorem dX11_init_549 : decode cX11_init 549 = .ok (.bipush 112, 2) := dAt (x := (549, .bipush 112, 2)) DX11_init_6 7 rfl
theorem dX11_init_551 : decode cX11_init 551 = .ok (.iastore, 1) := dAt (x := (551, .iastore, 1)) DX11_init_6 8 rfl
theorem dX11_init_552 : decode cX11_init 552 = .ok (.dup, 1) := dAt (x := (552, .dup, 1)) DX11_init_6 9 rfl
theorem dX11_init_553 : decode cX11_init 553 = .ok (.bipush 90, 2) := dAt (x := (553, .bipush 90, 2)) DX11_init_6 10 rfl
theorem dX11_init_555 : decode cX11_init 555 = .ok (.bipush 115, 2) := dAt (x := (555, .bipush 115, 2)) DX11_init_6 11 rfl
theorem dX11_init_557 : decode cX11_init 557 = .ok (.iastore, 1) := dAt (x := (557, .iastore, 1)) DX11_init_6 12 rfl
theorem dX11_init_558 : decode cX11_init 558 = .ok (.dup, 1) := dAt (x := (558, .dup, 1)) DX11_init_6 13 rfl
theorem dX11_init_559 : decode cX11_init 559 = .ok (.bipush 91, 2) := dAt (x := (559, .bipush 91, 2)) DX11_init_6 14 rfl
theorem dX11_init_561 : decode cX11_init 561 = .ok (.bipush 32, 2) := dAt (x := (561, .bipush 32, 2)) DX11_init_6 15 rfl
theorem dX11_init_563 : decode cX11_init 563 = .ok (.iastore, 1) := dAt (x := (563, .iastore, 1)) DX11_init_6 16 rfl
theorem dX11_init_564 : decode cX11_init 564 = .ok (.dup, 1) := dAt (x := (564, .dup, 1)) DX11_init_6 17 rfl
theorem dX11_init_565 : decode cX11_init 565 = .ok (.bipush 92, 2) := dAt (x := (565, .bipush 92, 2)) DX11_init_6 18 rfl
theorem dX11_init_567 : decode cX11_init 567 = .ok (.bipush 115, 2) := dAt (x := (567, .bipush 115, 2)) DX11_init_6 19 rfl
theorem dX11_init_569 : decode cX11_init 569 = .ok (.iastore, 1) := dAt (x := (569, .iastore, 1)) DX11_init_6 20 rfl
theorem dX11_init_570 : decode cX11_init 570 = .ok (.dup, 1) := dAt (x := (570, .dup, 1)) DX11_init_6 21 rfl
theorem dX11_init_571 : decode cX11_init 571 = .ok (.bipush 93, 2) := dAt (x := (571, .bipush 93, 2)) DX11_init_6 22 rfl
theorem dX11_init_573 : decode cX11_init 573 = .ok (.bipush 101, 2) := dAt (x := (573, .bipush 101, 2)) DX11_init_6 23 rfl
theorem dX11_init_575 : decode cX11_init 575 = .ok (.iastore, 1) := dAt (x := (575, .iastore, 1)) DX11_init_6 24 rfl
theorem dX11_init_576 : decode cX11_init 576 = .ok (.dup, 1) := dAt (x := (576, .dup, 1)) DX11_init_6 25 rfl
theorem dX11_init_577 : decode cX11_init 577 = .ok (.bipush 94, 2) := dAt (x := (577, .bipush 94, 2)) DX11_init_6 26 rfl
theorem dX11_init_579 : decode cX11_init 579 = .ok (.bipush 97, 2) := dAt (x := (579, .bipush 97, 2)) DX11_init_6 27 rfl
theorem dX11_init_581 : decode cX11_init 581 = .ok (.iastore, 1) := dAt (x := (581, .iastore, 1)) DX11_init_6 28 rfl
theorem dX11_init_582 : decode cX11_init 582 = .ok (.dup, 1) := dAt (x := (582, .dup, 1)) DX11_init_6 29 rfl
theorem dX11_init_583 : decode cX11_init 583 = .ok (.bipush 95, 2) := dAt (x := (583, .bipush 95, 2)) DX11_init_6 30 rfl
theorem dX11_init_585 : decode cX11_init 585 = .ok (.bipush 108, 2) := dAt (x := (585, .bipush 108, 2)) DX11_init_6 31 rfl
theorem dX11_init_587 : decode cX11_init 587 = .ok (.iastore, 1) := dAt (x := (587, .iastore, 1)) DX11_init_6 32 rfl
theorem dX11_init_588 : decode cX11_init 588 = .ok (.dup, 1) := dAt (x := (588, .dup, 1)) DX11_init_6 33 rfl
theorem dX11_init_589 : decode cX11_init 589 = .ok (.bipush 96, 2) := dAt (x := (589, .bipush 96, 2)) DX11_init_6 34 rfl
theorem dX11_init_591 : decode cX11_init 591 = .ok (.bipush 115, 2) := dAt (x := (591, .bipush 115, 2)) DX11_init_6 35 rfl
theorem dX11_init_593 : decode cX11_init 593 = .ok (.iastore, 1) := dAt (x := (593, .iastore, 1)) DX11_init_6 36 rfl
theorem dX11_init_594 : decode cX11_init 594 = .ok (.dup, 1) := dAt (x := (594, .dup, 1)) DX11_init_6 37 rfl
theorem dX11_init_595 : decode cX11_init 595 = .ok (.bipush 97, 2) := dAt (x := (595, .bipush 97, 2)) DX11_init_6 38 rfl
theorem dX11_init_597 : decode cX11_init 597 = .ok (.bipush 32, 2) := dAt (x := (597, .bipush 32, 2)) DX11_init_6 39 rfl
theorem dX11_init_599 : decode cX11_init 599 = .ok (.iastore, 1) := dAt (x := (599, .iastore, 1)) DX11_init_6 40 rfl
theorem dX11_init_600 : decode cX11_init 600 = .ok (.dup, 1) := dAt (x := (600, .dup, 1)) DX11_init_6 41 rfl
theorem dX11_init_601 : decode cX11_init 601 = .ok (.bipush 98, 2) := dAt (x := (601, .bipush 98, 2)) DX11_init_6 42 rfl
theorem dX11_init_603 : decode cX11_init 603 = .ok (.bipush 104, 2) := dAt (x := (603, .bipush 104, 2)) DX11_init_6 43 rfl
theorem dX11_init_605 : decode cX11_init 605 = .ok (.iastore, 1) := dAt (x := (605, .iastore, 1)) DX11_init_6 44 rfl
theorem dX11_init_606 : decode cX11_init 606 = .ok (.dup, 1) := dAt (x := (606, .dup, 1)) DX11_init_6 45 rfl
theorem dX11_init_607 : decode cX11_init 607 = .ok (.bipush 99, 2) := dAt (x := (607, .bipush 99, 2)) DX11_init_6 46 rfl
theorem dX11_init_609 : decode cX11_init 609 = .ok (.bipush 105, 2) := dAt (x := (609, .bipush 105, 2)) DX11_init_6 47 rfl
theorem dX11_init_611 : decode cX11_init 611 = .ok (.iastore, 1) := dAt (x := (611, .iastore, 1)) DX11_init_6 48 rfl
theorem dX11_init_612 : decode cX11_init 612 = .ok (.dup, 1) := dAt (x := (612, .dup, 1)) DX11_init_6 49 rfl
theorem dX11_init_613 : decode cX11_init 613 = .ok (.bipush 100, 2) := dAt (x := (613, .bipush 100, 2)) DX11_init_6 50 rfl
theorem dX11_init_615 : decode cX11_init 615 = .ok (.bipush 103, 2) := dAt (x := (615, .bipush 103, 2)) DX11_init_6 51 rfl
theorem dX11_init_617 : decode cX11_init 617 = .ok (.iastore, 1) := dAt (x := (617, .iastore, 1)) DX11_init_6 52 rfl
theorem dX11_init_618 : decode cX11_init 618 = .ok (.dup, 1) := dAt (x := (618, .dup, 1)) DX11_init_6 53 rfl
theorem dX11_init_619 : decode cX11_init 619 = .ok (.bipush 101, 2) := dAt (x := (619, .bipush 101, 2)) DX11_init_6 54 rfl
theorem dX11_init_621 : decode cX11_init 621 = .ok (.bipush 104, 2) := dAt (x := (621, .bipush 104, 2)) DX11_init_6 55 rfl
theorem dX11_init_623 : decode cX11_init 623 = .ok (.iastore, 1) := dAt (x := (623, .iastore, 1)) DX11_init_6 56 rfl
theorem dX11_init_624 : decode cX11_init 624 = .ok (.dup, 1) := dAt (x := (624, .dup, 1)) DX11_init_6 57 rfl
theorem dX11_init_625 : decode cX11_init 625 = .ok (.bipush 102, 2) := dAt (x := (625, .bipush 102, 2)) DX11_init_6 58 rfl
theorem dX11_init_627 : decode cX11_init 627 = .ok (.bipush 32, 2) := dAt (x := (627, .bipush 32, 2)) DX11_init_6 59 rfl
def lDX11_init_7 : List (Nat × Instr × Nat) := [(629, .iastore, 1), (630, .dup, 1), (631, .bipush 103, 2), (633, .bipush 116, 2), (635, .iastore, 1), (636, .dup, 1), (637, .bipush 104, 2), (639, .bipush 105, 2), (641, .iastore, 1), (642, .dup, 1), (643, .bipush 105, 2), (645, .bipush 114, 2), (647, .iastore, 1), (648, .dup, 1), (649, .bipush 106, 2), (651, .bipush 101, 2), (653, .iastore, 1), (654, .dup, 1), (655, .bipush 107, 2), (657, .bipush 100, 2), (659, .iastore, 1), (660, .dup, 1), (661, .bipush 108, 2), (663, .bipush 32, 2), (665, .iastore, 1), (666, .dup, 1), (667, .bipush 109, 2), (669, .bipush 109, 2), (671, .iastore, 1), (672, .dup, 1), (673, .bipush 110, 2), (675, .bipush 105, 2), (677, .iastore, 1), (678, .dup, 1), (679, .bipush 111, 2), (681, .bipush 110, 2), (683, .iastore, 1), (684, .dup, 1), (685, .bipush 112, 2), (687, .bipush 117, 2), (689, .iastore, 1), (690, .dup, 1), (691, .bipush 113, 2), (693, .bipush 116, 2), (695, .iastore, 1), (696, .dup, 1), (697, .bipush 114, 2), (699, .bipush 101, 2), (701, .iastore, 1), (702, .dup, 1), (703, .bipush 115, 2), (705, .bipush 32, 2), (707, .iastore, 1), (708, .putfield 13, 3), (711, .aload_n 0, 1), (712, .iconst (-1), 1), (713, .putfield 16, 3), (716, .aload_n 0, 1), (717, .iconst 2, 1), (718, .newarray .boolean, 2)]
theorem DX11_init_7 : dAll cX11_init lDX11_init_7 = true := by decide +kernel
theorem dX11_init_629 : decode cX11_init 629 = .ok (.iastore, 1) := dAt (x := (629, .iastore, 1)) DX11_init_7 0 rfl
theorem dX11_init_630 : decode cX11_init 630 = .ok (.dup, 1) := dAt (x := (630, .dup, 1)) DX11_init_7 1 rfl
theorem dX11_init_631 : decode cX11_init 631 = .ok (.bipush 103, 2) := dAt (x := (631, .bipush 103, 2)) DX11_init_7 2 rfl
theorem dX11_init_633 : decode cX11_init 633 = .ok (.bipush 116, 2) := dAt (x := (633, .bipush 116, 2)) DX11_init_7 3 rfl
theorem dX11_init_635 : decode cX11_init 635 = .ok (.iastore, 1) := dAt (x := (635, .iastore, 1)) DX11_init_7 4 rfl
theorem dX11_init_636 : decode cX11_init 636 = .ok (.dup, 1) := dAt (x := (636, .dup, 1)) DX11_init_7 5 rfl
theorem dX11_init_637 : decode cX11_init 637 = .ok (.bipush 104, 2) := dAt (x := (637, .bipush 104, 2)) DX11_init_7 6 rfl
theorem dX11_init_639 : decode cX11_init 639 = .ok (.bipush 105, 2) := dAt (x := (639, .bipush 105, 2)) DX11_init_7 7 rfl
theorem dX11_init_641 : decode cX11_init 641 = .ok (.iastore, 1) := dAt (x := (641, .iastore, 1)) DX11_init_7 8 rfl
theorem dX11_init_642 : decode cX11_init 642 = .ok (.dup, 1) := dAt (x := (642, .dup, 1)) DX11_init_7 9 rfl
theorem dX11_init_643 : decode cX11_init 643 = .ok (.bipush 105, 2) := dAt (x := (643, .bipush 105, 2)) DX11_init_7 10 rfl
theorem dX11_init_645 : decode cX11_init 645 = .ok (.bipush 114, 2) := dAt (x := (645, .bipush 114, 2)) DX11_init_7 11 rfl
theorem dX11_init_647 : decode cX11_init 647 = .ok (.iastore, 1) := dAt (x := (647, .iastore, 1)) DX11_init_7 12 rfl
theorem dX11_init_648 : decode cX11_init 648 = .ok (.dup, 1) := dAt (x := (648, .dup, 1)) DX11_init_7 13 rfl
theorem dX11_init_649 : decode cX11_init 649 = .ok (.bipush 106, 2) := dAt (x := (649, .bipush 106, 2)) DX11_init_7 14 rfl
theorem dX11_init_651 : decode cX11_init 651 = .ok (.bipush 101, 2) := dAt (x := (651, .bipush 101, 2)) DX11_init_7 15 rfl
theorem dX11_init_653 : decode cX11_init 653 = .ok (.iastore, 1) := dAt (x := (653, .iastore, 1)) DX11_init_7 16 rfl
theorem dX11_init_654 : decode cX11_init 654 = .ok (.dup, 1) := dAt (x := (654, .dup, 1)) DX11_init_7 17 rfl
theorem dX11_init_655 : decode cX11_init 655 = .ok (.bipush 107, 2) := dAt (x := (655, .bipush 107, 2)) DX11_init_7 18 rfl
theorem dX11_init_657 : decode cX11_init 657 = .ok (.bipush 100, 2) := dAt (x := (657, .bipush 100, 2)) DX11_init_7 19 rfl
theorem dX11_init_659 : decode cX11_init 659 = .ok (.iastore, 1) := dAt (x := (659, .iastore, 1)) DX11_init_7 20 rfl
theorem dX11_init_660 : decode cX11_init 660 = .ok (.dup, 1) := dAt (x := (660, .dup, 1)) DX11_init_7 21 rfl
theorem dX11_init_661 : decode cX11_init 661 = .ok (.bipush 108, 2) := dAt (x := (661, .bipush 108, 2)) DX11_init_7 22 rfl
theorem dX11_init_663 : decode cX11_init 663 = .ok (.bipush 32, 2) := dAt (x := (663, .bipush 32, 2)) DX11_init_7 23 rfl
theorem dX11_init_665 : decode cX11_init 665 = .ok (.iastore, 1) := dAt (x := (665, .iastore, 1)) DX11_init_7 24 rfl
theorem dX11_init_666 : decode cX11_init 666 = .ok (.dup, 1) := dAt (x := (666, .dup, 1)) DX11_init_7 25 rfl
theorem dX11_init_667 : decode cX11_init 667 = .ok (.bipush 109, 2) := dAt (x := (667, .bipush 109, 2)) DX11_init_7 26 rfl
theorem dX11_init_669 : decode cX11_init 669 = .ok (.bipush 109, 2) := dAt (x := (669, .bipush 109, 2)) DX11_init_7 27 rfl
theorem dX11_init_671 : decode cX11_init 671 = .ok (.iastore, 1) := dAt (x := (671, .iastore, 1)) DX11_init_7 28 rfl
theorem dX11_init_672 : decode cX11_init 672 = .ok (.dup, 1) := dAt (x := (672, .dup, 1)) DX11_init_7 29 rfl
theorem dX11_init_673 : decode cX11_init 673 = .ok (.bipush 110, 2) := dAt (x := (673, .bipush 110, 2)) DX11_init_7 30 rfl
theorem dX11_init_675 : decode cX11_init 675 = .ok (.bipush 105, 2) := dAt (x := (675, .bipush 105, 2)) DX11_init_7 31 rfl
theorem dX11_init_677 : decode cX11_init 677 = .ok (.iastore, 1) := dAt (x := (677, .iastore, 1)) DX11_init_7 32 rfl
theorem dX11_init_678 : decode cX11_init 678 = .ok (.dup, 1) := dAt (x := (678, .dup, 1)) DX11_init_7 33 rfl
theorem dX11_init_679 : decode cX11_init 679 = .ok (.bipush 111, 2) := dAt (x := (679, .bipush 111, 2)) DX11_init_7 34 rfl
theorem dX11_init_681 : decode cX11_init 681 = .ok (.bipush 110, 2) := dAt (x := (681, .bipush 110, 2)) DX11_init_7 35 rfl
theorem dX11_init_683 : decode cX11_init 683 = .ok (.iastore, 1) := dAt (x := (683, .iastore, 1)) DX11_init_7 36 rfl
theorem dX11_init_684 : decode cX11_init 684 = .ok (.dup, 1) := dAt (x := (684, .dup, 1)) DX11_init_7 37 rfl
theorem dX11_init_685 : decode cX11_init 685 = .ok (.bipush 112, 2) := dAt (x := (685, .bipush 112, 2)) DX11_init_7 38 rfl
theorem dX11_init_687 : decode cX11_init 687 = .ok (.bipush 117, 2) := dAt (x := (687, .bipush 117, 2)) DX11_init_7 39 rfl
theorem dX11_init_689 : decode cX11_init 689 = .ok (.iastore, 1) := dAt (x := (689, .iastore, 1)) DX11_init_7 40 rfl
theorem dX11_init_690 : decode cX11_init 690 = .ok (.dup, 1) := dAt (x := (690, .dup, 1)) DX11_init_7 41 rfl
theorem dX11_init_691 : decode cX11_init 691 = .ok (.bipush 113, 2) := dAt (x := (691, .bipush 113, 2)) DX11_init_7 42 rfl
theorem dX11_init_693 : decode cX11_init 693 = .ok (.bipush 116, 2) := dAt (x := (693, .bipush 116, 2)) DX11_init_7 43 rfl
theorem dX11_init_695 : decode cX11_init 695 = .ok (.iastore, 1) := dAt (x := (695, .iastore, 1)) DX11_init_7 44 rfl
theorem dX11_init_696 : decode cX11_init 696 = .ok (.dup, 1) := dAt (x := (696, .dup, 1)) DX11_init_7 45 rfl
theorem dX11_init_697 : decode cX11_init 697 = .ok (.bipush 114, 2) := dAt (x := (697, .bipush 114, 2)) DX11_init_7 46 rfl
theorem dX11_init_699 : decode cX11_init 699 = .ok (.bipush 101, 2) := dAt (x := (699, .bipush 101, 2)) DX11_init_7 47 rfl
theorem dX11_init_701 : decode cX11_init 701 = .ok (.iastore, 1) := dAt (x := (701, .iastore, 1)) DX11_init_7 48 rfl
theorem dX11_init_702 : decode cX11_init 702 = .ok (.dup, 1) := dAt (x := (702, .dup, 1)) DX11_init_7 49 rfl
theorem dX11_init_703 : decode cX11_init 703 = .ok (.bipush 115, 2) := dAt (x := (703, .bipush 115, 2)) DX11_init_7 50 rfl
theorem dX11_init_705 : decode cX11_init 705 = .ok (.bipush 32, 2) := dAt (x := (705, .bipush 32, 2)) DX11_init_7 51 rfl
theorem dX11_init_707 : decode cX11_init 707 = .ok (.iastore, 1) := dAt (x := (707, .iastore, 1)) DX11_init_7 52 rfl
theorem dX11_init_708 : decode cX11_init 708 = .ok (.putfield 13, 3) := dAt (x := (708, .putfield 13, 3)) DX11_init_7 53 rfl
theorem dX11_init_711 : decode cX11_init 711 = .ok (.aload_n 0, 1) := dAt (x := (711, .aload_n 0, 1)) DX11_init_7 54 rfl
theorem dX11_init_712 : decode cX11_init 712 = .ok (.iconst (-1), 1) := dAt (x := (712, .iconst (-1), 1)) DX11_init_7 55 rfl
theorem dX11_init_713 : decode cX11_init 713 = .ok (.putfield 16, 3) := dAt (x := (713, .putfield 16, 3)) DX11_init_7 56 rfl
theorem dX11_init_716 : decode cX11_init 716 = .ok (.aload_n 0, 1) := dAt (x := (716, .aload_n 0, 1)) DX11_init_7 57 rfl
theorem dX11_init_717 : decode cX11_init 717 = .ok (.iconst 2, 1) := dAt (x := (717, .iconst 2, 1)) DX11_init_7 58 rfl
theorem dX11_init_718 : decode cX11_init 718 = .ok (.newarray .boolean, 2) := dAt (x := (718, .newarray .boolean, 2)) DX11_init_7 59 rfl
def lDX11_init_8 : List (Nat × Instr × Nat) := [(720, .putfield 20, 3), (723, .aload_n 0, 1), (724, .iconst 4, 1), (725, .newarray .int, 2), (727, .putfield 24, 3), (730, .aload_n 0, 1), (731, .bipush 16, 2), (733, .newarray .int, 2), (735, .putfield 27, 3), (738, .aload_n 0, 1), (739, .bipush 16, 2), (741, .newarray .int, 2), (743, .putfield 30, 3), (746, .aload_n 0, 1), (747, .bipush 16, 2), (749, .newarray .int, 2), (751, .putfield 33, 3), (754, .aload_n 0, 1), (755, .bipush 16, 2), (757, .newarray .int, 2), (759, .putfield 36, 3), (762, .aload_n 0, 1), (763, .bipush 32, 2), (765, .newarray .int, 2), (767, .putfield 39, 3), (770, .aload_n 0, 1), (771, .bipush 32, 2), (773, .newarray .int, 2), (775, .putfield 42, 3), (778, .aload_n 0, 1), (779, .bipush 8, 2), (781, .newarray .int, 2), (783, .putfield 45, 3), (786, .aload_n 0, 1), (787, .sipush 128, 3), (790, .newarray .int, 2), (792, .putfield 48, 3), (795, .aload_n 0, 1), (796, .sipush 128, 3), (799, .newarray .int, 2), (801, .putfield 51, 3), (804, .aload_n 0, 1), (805, .sipush 128, 3), (808, .newarray .int, 2), (810, .putfield 54, 3), (813, .aload_n 0, 1), (814, .bipush 6, 2), (816, .newarray .boolean, 2), (818, .putfield 57, 3), (821, .aload_n 0, 1), (822, .bipush 6, 2), (824, .newarray .int, 2), (826, .putfield 60, 3), (829, .aload_n 0, 1), (830, .bipush 6, 2), (832, .newarray .int, 2), (834, .putfield 63, 3), (837, .aload_n 0, 1), (838, .sipush 128, 3), (841, .newarray .int, 2)]
theorem DX11_init_8 : dAll cX11_init lDX11_init_8 = true := by decide +kernel
theorem dX11_init_720 : decode cX11_init 720 = .ok (.putfield 20, 3) := dAt (x := (720, .putfield 20, 3)) DX11_init_8 0 rfl
theorem dX11_init_723 : decode cX11_init 723 = .ok (.aload_n 0, 1) := dAt (x := (723, .aload_n 0, 1)) DX11_init_8 1 rfl
theorem dX11_init_724 : decode cX11_init 724 = .ok (.iconst 4, 1) := dAt (x := (724, .iconst 4, 1)) DX11_init_8 2 rfl
theorem dX11_init_725 : decode cX11_init 725 = .ok (.newarray .int, 2) := dAt (x := (725, .newarray .int, 2)) DX11_init_8 3 rfl
theorem dX11_init_727 : decode cX11_init 727 = .ok (.putfield 24, 3) := dAt (x := (727, .putfield 24, 3)) DX11_init_8 4 rfl
theorem dX11_init_730 : decode cX11_init 730 = .ok (.aload_n 0, 1) := dAt (x := (730, .aload_n 0, 1)) DX11_init_8 5 rfl
theorem dX11_init_731 : decode cX11_init 731 = .ok (.bipush 16, 2) := dAt (x := (731, .bipush 16, 2)) DX11_init_8 6 rfl
theorem dX11_init_733 : decode cX11_init 733 = .ok (.newarray .int, 2) := dAt (x := (733, .newarray .int, 2)) DX11_init_8 7 rfl
theorem dX11_init_735 : decode cX11_init 735 = .ok (.putfield 27, 3) := dAt (x := (735, .putfield 27, 3)) DX11_init_8 8 rfl
theorem dX11_init_738 : decode cX11_init 738 = .ok (.aload_n 0, 1) := dAt (x := (738, .aload_n 0, 1)) DX11_init_8 9 rfl
theorem dX11_init_739 : decode cX11_init 739 = .ok (.bipush 16, 2) := dAt (x := (739, .bipush 16, 2)) DX11_init_8 10 rfl
theorem dX11_init_741 : decode cX11_init 741 = .ok (.newarray .int, 2) := dAt (x := (741, .newarray .int, 2)) DX11_init_8 11 rfl
theorem dX11_init_743 : decode cX11_init 743 = .ok (.putfield 30, 3) := dAt (x := (743, .putfield 30, 3)) DX11_init_8 12 rfl
theorem dX11_init_746 : decode cX11_init 746 = .ok (.aload_n 0, 1) := dAt (x := (746, .aload_n 0, 1)) DX11_init_8 13 rfl
theorem dX11_init_747 : decode cX11_init 747 = .ok (.bipush 16, 2) := dAt (x := (747, .bipush 16, 2)) DX11_init_8 14 rfl
theorem dX11_init_749 : decode cX11_init 749 = .ok (.newarray .int, 2) := dAt (x := (749, .newarray .int, 2)) DX11_init_8 15 rfl
theorem dX11_init_751 : decode cX11_init 751 = .ok (.putfield 33, 3) := dAt (x := (751, .putfield 33, 3)) DX11_init_8 16 rfl
theorem dX11_init_754 : decode cX11_init 754 = .ok (.aload_n 0, 1) := dAt (x := (754, .aload_n 0, 1)) DX11_init_8 17 rfl
theorem dX11_init_755 : decode cX11_init 755 = .ok (.bipush 16, 2) := dAt (x := (755, .bipush 16, 2)) DX11_init_8 18 rfl
theorem dX11_init_757 : decode cX11_init 757 = .ok (.newarray .int, 2) := dAt (x := (757, .newarray .int, 2)) DX11_init_8 19 rfl
theorem dX11_init_759 : decode cX11_init 759 = .ok (.putfield 36, 3) := dAt (x := (759, .putfield 36, 3)) DX11_init_8 20 rfl
theorem dX11_init_762 : decode cX11_init 762 = .ok (.aload_n 0, 1) := dAt (x := (762, .aload_n 0, 1)) DX11_init_8 21 rfl
theorem dX11_init_763 : decode cX11_init 763 = .ok (.bipush 32, 2) := dAt (x := (763, .bipush 32, 2)) DX11_init_8 22 rfl
theorem dX11_init_765 : decode cX11_init 765 = .ok (.newarray .int, 2) := dAt (x := (765, .newarray .int, 2)) DX11_init_8 23 rfl
theorem dX11_init_767 : decode cX11_init 767 = .ok (.putfield 39, 3) := dAt (x := (767, .putfield 39, 3)) DX11_init_8 24 rfl
theorem dX11_init_770 : decode cX11_init 770 = .ok (.aload_n 0, 1) := dAt (x := (770, .aload_n 0, 1)) DX11_init_8 25 rfl
theorem dX11_init_771 : decode cX11_init 771 = .ok (.bipush 32, 2) := dAt (x := (771, .bipush 32, 2)) DX11_init_8 26 rfl
theorem dX11_init_773 : decode cX11_init 773 = .ok (.newarray .int, 2) := dAt (x := (773, .newarray .int, 2)) DX11_init_8 27 rfl
theorem dX11_init_775 : decode cX11_init 775 = .ok (.putfield 42, 3) := dAt (x := (775, .putfield 42, 3)) DX11_init_8 28 rfl
theorem dX11_init_778 : decode cX11_init 778 = .ok (.aload_n 0, 1) := dAt (x := (778, .aload_n 0, 1)) DX11_init_8 29 rfl
theorem dX11_init_779 : decode cX11_init 779 = .ok (.bipush 8, 2) := dAt (x := (779, .bipush 8, 2)) DX11_init_8 30 rfl
theorem dX11_init_781 : decode cX11_init 781 = .ok (.newarray .int, 2) := dAt (x := (781, .newarray .int, 2)) DX11_init_8 31 rfl
theorem dX11_init_783 : decode cX11_init 783 = .ok (.putfield 45, 3) := dAt (x := (783, .putfield 45, 3)) DX11_init_8 32 rfl
theorem dX11_init_786 : decode cX11_init 786 = .ok (.aload_n 0, 1) := dAt (x := (786, .aload_n 0, 1)) DX11_init_8 33 rfl
theorem dX11_init_787 : decode cX11_init 787 = .ok (.sipush 128, 3) := dAt (x := (787, .sipush 128, 3)) DX11_init_8 34 rfl
theorem dX11_init_790 : decode cX11_init 790 = .ok (.newarray .int, 2) := dAt (x := (790, .newarray .int, 2)) DX11_init_8 35 rfl
theorem dX11_init_792 : decode cX11_init 792 = .ok (.putfield 48, 3) := dAt (x := (792, .putfield 48, 3)) DX11_init_8 36 rfl
theorem dX11_init_795 : decode cX11_init 795 = .ok (.aload_n 0, 1) := dAt (x := (795, .aload_n 0, 1)) DX11_init_8 37 rfl
theorem dX11_init_796 : decode cX11_init 796 = .ok (.sipush 128, 3) := dAt (x := (796, .sipush 128, 3)) DX11_init_8 38 rfl
theorem dX11_init_799 : decode cX11_init 799 = .ok (.newarray .int, 2) := dAt (x := (799, .newarray .int, 2)) DX11_init_8 39 rfl
theorem dX11_init_801 : decode cX11_init 801 = .ok (.putfield 51, 3) := dAt (x := (801, .putfield 51, 3)) DX11_init_8 40 rfl
theorem dX11_init_804 : decode cX11_init 804 = .ok (.aload_n 0, 1) := dAt (x := (804, .aload_n 0, 1)) DX11_init_8 41 rfl
theorem dX11_init_805 : decode cX11_init 805 = .ok (.sipush 128, 3) := dAt (x := (805, .sipush 128, 3)) DX11_init_8 42 rfl
theorem dX11_init_808 : decode cX11_init 808 = .ok (.newarray .int, 2) := dAt (x := (808, .newarray .int, 2)) DX11_init_8 43 rfl
theorem dX11_init_810 : decode cX11_init 810 = .ok (.putfield 54, 3) := dAt (x := (810, .putfield 54, 3)) DX11_init_8 44 rfl
theorem dX11_init_813 : decode cX11_init 813 = .ok (.aload_n 0, 1) := dAt (x := (813, .aload_n 0, 1)) DX11_init_8 45 rfl
theorem dX11_init_814 : decode cX11_init 814 = .ok (.bipush 6, 2) := dAt (x := (814, .bipush 6, 2)) DX11_init_8 46 rfl
theorem dX11_init_816 : decode cX11_init 816 = .ok (.newarray .boolean, 2) := dAt (x := (816, .newarray .boolean, 2)) DX11_init_8 47 rfl
theorem dX11_init_818 : decode cX11_init 818 = .ok (.putfield 57, 3) := dAt (x := (818, .putfield 57, 3)) DX11_init_8 48 rfl
theorem dX11_init_821 : decode cX11_init 821 = .ok (.aload_n 0, 1) := dAt (x := (821, .aload_n 0, 1)) DX11_init_8 49 rfl
theorem dX11_init_822 : decode cX11_init 822 = .ok (.bipush 6, 2) := dAt (x := (822, .bipush 6, 2)) DX11_init_8 50 rfl
theorem dX11_init_824 : decode cX11_init 824 = .ok (.newarray .int, 2) := dAt (x := (824, .newarray .int, 2)) DX11_init_8 51 rfl
theorem dX11_init_826 : decode cX11_init 826 = .ok (.putfield 60, 3) := dAt (x := (826, .putfield 60, 3)) DX11_init_8 52 rfl
theorem dX11_init_829 : decode cX11_init 829 = .ok (.aload_n 0, 1) := dAt (x := (829, .aload_n 0, 1)) DX11_init_8 53 rfl
theorem dX11_init_830 : decode cX11_init 830 = .ok (.bipush 6, 2) := dAt (x := (830, .bipush 6, 2)) DX11_init_8 54 rfl
theorem dX11_init_832 : decode cX11_init 832 = .ok (.newarray .int, 2) := dAt (x := (832, .newarray .int, 2)) DX11_init_8 55 rfl
theorem dX11_init_834 : decode cX11_init 834 = .ok (.putfield 63, 3) := dAt (x := (834, .putfield 63, 3)) DX11_init_8 56 rfl
theorem dX11_init_837 : decode cX11_init 837 = .ok (.aload_n 0, 1) := dAt (x := (837, .aload_n 0, 1)) DX11_init_8 57 rfl
theorem dX11_init_838 : decode cX11_init 838 = .ok (.sipush 128, 3) := dAt (x := (838, .sipush 128, 3)) DX11_init_8 58 rfl
theorem dX11_init_841 : decode cX11_init 841 = .ok (.newarray .int, 2) := dAt (x := (841, .newarray .int, 2)) DX11_init_8 59 rfl
def lDX11_init_9 : List (Nat × Instr × Nat) := [(843, .putfield 66, 3), (846, .aload_n 0, 1), (847, .sipush 128, 3), (850, .newarray .int, 2), (852, .putfield 69, 3), (855, .aload_n 0, 1), (856, .sipush 128, 3), (859, .newarray .int, 2), (861, .putfield 72, 3), (864, .aload_n 0, 1), (865, .bipush 96, 2), (867, .newarray .int, 2), (869, .putfield 75, 3), (872, .aload_n 0, 1), (873, .bipush 96, 2), (875, .newarray .int, 2), (877, .putfield 78, 3), (880, .aload_n 0, 1), (881, .bipush 7, 2), (883, .newarray .long, 2), (885, .putfield 81, 3), (888, .aload_n 0, 1), (889, .bipush 64, 2), (891, .newarray .long, 2), (893, .putfield 85, 3), (896, .aload_n 0, 1), (897, .sipush 256, 3), (900, .newarray .int, 2), (902, .putfield 88, 3), (905, .aload_n 0, 1), (906, .bipush 64, 2), (908, .newarray .boolean, 2), (910, .putfield 91, 3), (913, .aload_n 0, 1), (914, .iconst 2, 1), (915, .newarray .int, 2), (917, .putfield 94, 3), (920, .aload_n 0, 1), (921, .iconst 2, 1), (922, .newarray .int, 2), (924, .putfield 97, 3), (927, .aload_n 0, 1), (928, .iconst 2, 1), (929, .newarray .int, 2), (931, .putfield 100, 3), (934, .aload_n 0, 1), (935, .iconst 2, 1), (936, .newarray .int, 2), (938, .putfield 103, 3), (941, .aload_n 0, 1), (942, .iconst 2, 1), (943, .newarray .int, 2), (945, .putfield 106, 3), (948, .aload_n 0, 1), (949, .bipush 16, 2), (951, .newarray .int, 2), (953, .putfield 109, 3), (956, .aload_n 0, 1), (957, .sipush 256, 3), (960, .newarray .int, 2)]
theorem DX11_init_9 : dAll cX11_init lDX11_init_9 = true := by decide +kernel
theorem dX11_init_843 : decode cX11_init 843 = .ok (.putfield 66, 3) := dAt (x := (843, .putfield 66, 3)) DX11_init_9 0 rfl
theorem dX11_init_846 : decode cX11_init 846 = .ok (.aload_n 0, 1) := dAt (x := (846, .aload_n 0, 1)) DX11_init_9 1 rfl
theorem dX11_init_847 : decode cX11_init 847 = .ok (.sipush 128, 3) := dAt (x := (847, .sipush 128, 3)) DX11_init_9 2 rfl
theorem dX11_init_850 : decode cX11_init 850 = .ok (.newarray .int, 2) := dAt (x := (850, .newarray .int, 2)) DX11_init_9 3 rfl
theorem dX11_init_852 : decode cX11_init 852 = .ok (.putfield 69, 3) := dAt (x := (852, .putfield 69, 3)) DX11_init_9 4 rfl
theorem dX11_init_855 : decode cX11_init 855 = .ok (.aload_n 0, 1) := dAt (x := (855, .aload_n 0, 1)) DX11_init_9 5 rfl
theorem dX11_init_856 : decode cX11_init 856 = .ok (.sipush 128, 3) := dAt (x := (856, .sipush 128, 3)) DX11_init_9 6 rfl
theorem dX11_init_859 : decode cX11_init 859 = .ok (.newarray .int, 2) := dAt (x := (859, .newarray .int, 2)) DX11_init_9 7 rfl
theorem dX11_init_861 : decode cX11_init 861 = .ok (.putfield 72, 3) := dAt (x := (861, .putfield 72, 3)) DX11_init_9 8 rfl
theorem dX11_init_864 : decode cX11_init 864 = .ok (.aload_n 0, 1) := dAt (x := (864, .aload_n 0, 1)) DX11_init_9 9 rfl
theorem dX11_init_865 : decode cX11_init 865 = .ok (.bipush 96, 2) := dAt (x := (865, .bipush 96, 2)) DX11_init_9 10 rfl
theorem dX11_init_867 : decode cX11_init 867 = .ok (.newarray .int, 2) := dAt (x := (867, .newarray .int, 2)) DX11_init_9 11 rfl
theorem dX11_init_869 : decode cX11_init 869 = .ok (.putfield 75, 3) := dAt (x := (869, .putfield 75, 3)) DX11_init_9 12 rfl
theorem dX11_init_872 : decode cX11_init 872 = .ok (.aload_n 0, 1) := dAt (x := (872, .aload_n 0, 1)) DX11_init_9 13 rfl
theorem dX11_init_873 : decode cX11_init 873 = .ok (.bipush 96, 2) := dAt (x := (873, .bipush 96, 2)) DX11_init_9 14 rfl
theorem dX11_init_875 : decode cX11_init 875 = .ok (.newarray .int, 2) := dAt (x := (875, .newarray .int, 2)) DX11_init_9 15 rfl
theorem dX11_init_877 : decode cX11_init 877 = .ok (.putfield 78, 3) := dAt (x := (877, .putfield 78, 3)) DX11_init_9 16 rfl
theorem dX11_init_880 : decode cX11_init 880 = .ok (.aload_n 0, 1) := dAt (x := (880, .aload_n 0, 1)) DX11_init_9 17 rfl
theorem dX11_init_881 : decode cX11_init 881 = .ok (.bipush 7, 2) := dAt (x := (881, .bipush 7, 2)) DX11_init_9 18 rfl
theorem dX11_init_883 : decode cX11_init 883 = .ok (.newarray .long, 2) := dAt (x := (883, .newarray .long, 2)) DX11_init_9 19 rfl
theorem dX11_init_885 : decode cX11_init 885 = .ok (.putfield 81, 3) := dAt (x := (885, .putfield 81, 3)) DX11_init_9 20 rfl
theorem dX11_init_888 : decode cX11_init 888 = .ok (.aload_n 0, 1) := dAt (x := (888, .aload_n 0, 1)) DX11_init_9 21 rfl
theorem dX11_init_889 : decode cX11_init 889 = .ok (.bipush 64, 2) := dAt (x := (889, .bipush 64, 2)) DX11_init_9 22 rfl
theorem dX11_init_891 : decode cX11_init 891 = .ok (.newarray .long, 2) := dAt (x := (891, .newarray .long, 2)) DX11_init_9 23 rfl
theorem dX11_init_893 : decode cX11_init 893 = .ok (.putfield 85, 3) := dAt (x := (893, .putfield 85, 3)) DX11_init_9 24 rfl
theorem dX11_init_896 : decode cX11_init 896 = .ok (.aload_n 0, 1) := dAt (x := (896, .aload_n 0, 1)) DX11_init_9 25 rfl
theorem dX11_init_897 : decode cX11_init 897 = .ok (.sipush 256, 3) := dAt (x := (897, .sipush 256, 3)) DX11_init_9 26 rfl
theorem dX11_init_900 : decode cX11_init 900 = .ok (.newarray .int, 2) := dAt (x := (900, .newarray .int, 2)) DX11_init_9 27 rfl
theorem dX11_init_902 : decode cX11_init 902 = .ok (.putfield 88, 3) := dAt (x := (902, .putfield 88, 3)) DX11_init_9 28 rfl
theorem dX11_init_905 : decode cX11_init 905 = .ok (.aload_n 0, 1) := dAt (x := (905, .aload_n 0, 1)) DX11_init_9 29 rfl
theorem dX11_init_906 : decode cX11_init 906 = .ok (.bipush 64, 2) := dAt (x := (906, .bipush 64, 2)) DX11_init_9 30 rfl
theorem dX11_init_908 : decode cX11_init 908 = .ok (.newarray .boolean, 2) := dAt (x := (908, .newarray .boolean, 2)) DX11_init_9 31 rfl
theorem dX11_init_910 : decode cX11_init 910 = .ok (.putfield 91, 3) := dAt (x := (910, .putfield 91, 3)) DX11_init_9 32 rfl
theorem dX11_init_913 : decode cX11_init 913 = .ok (.aload_n 0, 1) := dAt (x := (913, .aload_n 0, 1)) DX11_init_9 33 rfl
theorem dX11_init_914 : decode cX11_init 914 = .ok (.iconst 2, 1) := dAt (x := (914, .iconst 2, 1)) DX11_init_9 34 rfl
theorem dX11_init_915 : decode cX11_init 915 = .ok (.newarray .int, 2) := dAt (x := (915, .newarray .int, 2)) DX11_init_9 35 rfl
theorem dX11_init_917 : decode cX11_init 917 = .ok (.putfield 94, 3) := dAt (x := (917, .putfield 94, 3)) DX11_init_9 36 rfl
theorem dX11_init_920 : decode cX11_init 920 = .ok (.aload_n 0, 1) := dAt (x := (920, .aload_n 0, 1)) DX11_init_9 37 rfl
theorem dX11_init_921 : decode cX11_init 921 = .ok (.iconst 2, 1) := dAt (x := (921, .iconst 2, 1)) DX11_init_9 38 rfl
theorem dX11_init_922 : decode cX11_init 922 = .ok (.newarray .int, 2) := dAt (x := (922, .newarray .int, 2)) DX11_init_9 39 rfl
theorem dX11_init_924 : decode cX11_init 924 = .ok (.putfield 97, 3) := dAt (x := (924, .putfield 97, 3)) DX11_init_9 40 rfl
theorem dX11_init_927 : decode cX11_init 927 = .ok (.aload_n 0, 1) := dAt (x := (927, .aload_n 0, 1)) DX11_init_9 41 rfl
theorem dX11_init_928 : decode cX11_init 928 = .ok (.iconst 2, 1) := dAt (x := (928, .iconst 2, 1)) DX11_init_9 42 rfl
theorem dX11_init_929 : decode cX11_init 929 = .ok (.newarray .int, 2) := dAt (x := (929, .newarray .int, 2)) DX11_init_9 43 rfl
theorem dX11_init_931 : decode cX11_init 931 = .ok (.putfield 100, 3) := dAt (x := (931, .putfield 100, 3)) DX11_init_9 44 rfl
theorem dX11_init_934 : decode cX11_init 934 = .ok (.aload_n 0, 1) := dAt (x := (934, .aload_n 0, 1)) DX11_init_9 45 rfl
theorem dX11_init_935 : decode cX11_init 935 = .ok (.iconst 2, 1) := dAt (x := (935, .iconst 2, 1)) DX11_init_9 46 rfl
theorem dX11_init_936 : decode cX11_init 936 = .ok (.newarray .int, 2) := dAt (x := (936, .newarray .int, 2)) DX11_init_9 47 rfl
theorem dX11_init_938 : decode cX11_init 938 = .ok (.putfield 103, 3) := dAt (x := (938, .putfield 103, 3)) DX11_init_9 48 rfl
theorem dX11_init_941 : decode cX11_init 941 = .ok (.aload_n 0, 1) := dAt (x := (941, .aload_n 0, 1)) DX11_init_9 49 rfl
theorem dX11_init_942 : decode cX11_init 942 = .ok (.iconst 2, 1) := dAt (x := (942, .iconst 2, 1)) DX11_init_9 50 rfl
theorem dX11_init_943 : decode cX11_init 943 = .ok (.newarray .int, 2) := dAt (x := (943, .newarray .int, 2)) DX11_init_9 51 rfl
theorem dX11_init_945 : decode cX11_init 945 = .ok (.putfield 106, 3) := dAt (x := (945, .putfield 106, 3)) DX11_init_9 52 rfl
theorem dX11_init_948 : decode cX11_init 948 = .ok (.aload_n 0, 1) := dAt (x := (948, .aload_n 0, 1)) DX11_init_9 53 rfl
theorem dX11_init_949 : decode cX11_init 949 = .ok (.bipush 16, 2) := dAt (x := (949, .bipush 16, 2)) DX11_init_9 54 rfl
theorem dX11_init_951 : decode cX11_init 951 = .ok (.newarray .int, 2) := dAt (x := (951, .newarray .int, 2)) DX11_init_9 55 rfl
theorem dX11_init_953 : decode cX11_init 953 = .ok (.putfield 109, 3) := dAt (x := (953, .putfield 109, 3)) DX11_init_9 56 rfl
theorem dX11_init_956 : decode cX11_init 956 = .ok (.aload_n 0, 1) := dAt (x := (956, .aload_n 0, 1)) DX11_init_9 57 rfl
theorem dX11_init_957 : decode cX11_init 957 = .ok (.sipush 256, 3) := dAt (x := (957, .sipush 256, 3)) DX11_init_9 58 rfl
theorem dX11_init_960 : decode cX11_init 960 = .ok (.newarray .int, 2) := dAt (x := (960, .newarray .int, 2)) DX11_init_9 59 rfl
def lDX11_init_10 : List (Nat × Instr × Nat) := [(962, .putfield 112, 3), (965, .aload_n 0, 1), (966, .sipush 256, 3), (969, .newarray .int, 2), (971, .putfield 115, 3), (974, .aload_n 0, 1), (975, .sipush 256, 3), (978, .newarray .int, 2), (980, .putfield 118, 3), (983, .aload_n 0, 1), (984, .sipush 256, 3), (987, .newarray .int, 2), (989, .putfield 121, 3), (992, .aload_n 0, 1), (993, .sipush 256, 3), (996, .newarray .boolean, 2), (998, .putfield 124, 3), (1001, .aload_n 0, 1), (1002, .sipush 256, 3), (1005, .newarray .int, 2), (1007, .putfield 127, 3), (1010, .aload_n 0, 1), (1011, .sipush 256, 3), (1014, .newarray .boolean, 2), (1016, .putfield 130, 3), (1019, .aload_n 0, 1), (1020, .sipush 256, 3), (1023, .newarray .long, 2), (1025, .putfield 133, 3), (1028, .aload_n 0, 1), (1029, .sipush 256, 3), (1032, .newarray .long, 2), (1034, .putfield 136, 3), (1037, .aload_n 0, 1), (1038, .iconst (-1), 1), (1039, .putfield 139, 3), (1042, .aload_n 0, 1), (1043, .bipush 72, 2), (1045, .newarray .int, 2), (1047, .putfield 142, 3), (1050, .aload_n 0, 1), (1051, .bipush 24, 2), (1053, .newarray .boolean, 2), (1055, .putfield 145, 3), (1058, .aload_n 0, 1), (1059, .sipush 220, 3), (1062, .newarray .int, 2), (1064, .putfield 148, 3), (1067, .aload_n 0, 1), (1068, .bipush 11, 2), (1070, .newarray .int, 2), (1072, .putfield 151, 3), (1075, .aload_n 0, 1), (1076, .invokevirtual 154, 3), (1079, .aload_n 0, 1), (1080, .invokevirtual 157, 3), (1083, .return_, 1)]
theorem DX11_init_10 : dAll cX11_init lDX11_init_10 = true := by decide +kernel
theorem dX11_init_962 : decode cX11_init 962 = .ok (.putfield 112, 3) := dAt (x := (962, .putfield 112, 3)) DX11_init_10 0 rfl
theorem dX11_init_965 : decode cX11_init 965 = .ok (.aload_n 0, 1) := dAt (x := (965, .aload_n 0, 1)) DX11_init_10 1 rfl
theorem dX11_init_966 : decode cX11_init 966 = .ok (.sipush 256, 3) := dAt (x := (966, .sipush 256, 3)) DX11_init_10 2 rfl
theorem dX11_init_969 : decode cX11_init 969 = .ok (.newarray .int, 2) := dAt (x := (969, .newarray .int, 2)) DX11_init_10 3 rfl
theorem dX11_init_971 : decode cX11_init 971 = .ok (.putfield 115, 3) := dAt (x := (971, .putfield 115, 3)) DX11_init_10 4 rfl
theorem dX11_init_974 : decode cX11_init 974 = .ok (.aload_n 0, 1) := dAt (x := (974, .aload_n 0, 1)) DX11_init_10 5 rfl
theorem dX11_init_975 : decode cX11_init 975 = .ok (.sipush 256, 3) := dAt (x := (975, .sipush 256, 3)) DX11_init_10 6 rfl
theorem dX11_init_978 : decode cX11_init 978 = .ok (.newarray .int, 2) := dAt (x := (978, .newarray .int, 2)) DX11_init_10 7 rfl
theorem dX11_init_980 : decode cX11_init 980 = .ok (.putfield 118, 3) := dAt (x := (980, .putfield 118, 3)) DX11_init_10 8 rfl
theorem dX11_init_983 : decode cX11_init 983 = .ok (.aload_n 0, 1) := dAt (x := (983, .aload_n 0, 1)) DX11_init_10 9 rfl
theorem dX11_init_984 : decode cX11_init 984 = .ok (.sipush 256, 3) := dAt (x := (984, .sipush 256, 3)) DX11_init_10 10 rfl
theorem dX11_init_987 : decode cX11_init 987 = .ok (.newarray .int, 2) := dAt (x := (987, .newarray .int, 2)) DX11_init_10 11 rfl
theorem dX11_init_989 : decode cX11_init 989 = .ok (.putfield 121, 3) := dAt (x := (989, .putfield 121, 3)) DX11_init_10 12 rfl
theorem dX11_init_992 : decode cX11_init 992 = .ok (.aload_n 0, 1) := dAt (x := (992, .aload_n 0, 1)) DX11_init_10 13 rfl
theorem dX11_init_993 : decode cX11_init 993 = .ok (.sipush 256, 3) := dAt (x := (993, .sipush 256, 3)) DX11_init_10 14 rfl
theorem dX11_init_996 : decode cX11_init 996 = .ok (.newarray .boolean, 2) := dAt (x := (996, .newarray .boolean, 2)) DX11_init_10 15 rfl
theorem dX11_init_998 : decode cX11_init 998 = .ok (.putfield 124, 3) := dAt (x := (998, .putfield 124, 3)) DX11_init_10 16 rfl
theorem dX11_init_1001 : decode cX11_init 1001 = .ok (.aload_n 0, 1) := dAt (x := (1001, .aload_n 0, 1)) DX11_init_10 17 rfl
theorem dX11_init_1002 : decode cX11_init 1002 = .ok (.sipush 256, 3) := dAt (x := (1002, .sipush 256, 3)) DX11_init_10 18 rfl
theorem dX11_init_1005 : decode cX11_init 1005 = .ok (.newarray .int, 2) := dAt (x := (1005, .newarray .int, 2)) DX11_init_10 19 rfl
theorem dX11_init_1007 : decode cX11_init 1007 = .ok (.putfield 127, 3) := dAt (x := (1007, .putfield 127, 3)) DX11_init_10 20 rfl
theorem dX11_init_1010 : decode cX11_init 1010 = .ok (.aload_n 0, 1) := dAt (x := (1010, .aload_n 0, 1)) DX11_init_10 21 rfl
theorem dX11_init_1011 : decode cX11_init 1011 = .ok (.sipush 256, 3) := dAt (x := (1011, .sipush 256, 3)) DX11_init_10 22 rfl
theorem dX11_init_1014 : decode cX11_init 1014 = .ok (.newarray .boolean, 2) := dAt (x := (1014, .newarray .boolean, 2)) DX11_init_10 23 rfl
theorem dX11_init_1016 : decode cX11_init 1016 = .ok (.putfield 130, 3) := dAt (x := (1016, .putfield 130, 3)) DX11_init_10 24 rfl
theorem dX11_init_1019 : decode cX11_init 1019 = .ok (.aload_n 0, 1) := dAt (x := (1019, .aload_n 0, 1)) DX11_init_10 25 rfl
theorem dX11_init_1020 : decode cX11_init 1020 = .ok (.sipush 256, 3) := dAt (x := (1020, .sipush 256, 3)) DX11_init_10 26 rfl
theorem dX11_init_1023 : decode cX11_init 1023 = .ok (.newarray .long, 2) := dAt (x := (1023, .newarray .long, 2)) DX11_init_10 27 rfl
theorem dX11_init_1025 : decode cX11_init 1025 = .ok (.putfield 133, 3) := dAt (x := (1025, .putfield 133, 3)) DX11_init_10 28 rfl
theorem dX11_init_1028 : decode cX11_init 1028 = .ok (.aload_n 0, 1) := dAt (x := (1028, .aload_n 0, 1)) DX11_init_10 29 rfl
theorem dX11_init_1029 : decode cX11_init 1029 = .ok (.sipush 256, 3) := dAt (x := (1029, .sipush 256, 3)) DX11_init_10 30 rfl
theorem dX11_init_1032 : decode cX11_init 1032 = .ok (.newarray .long, 2) := dAt (x := (1032, .newarray .long, 2)) DX11_init_10 31 rfl
theorem dX11_init_1034 : decode cX11_init 1034 = .ok (.putfield 136, 3) := dAt (x := (1034, .putfield 136, 3)) DX11_init_10 32 rfl
theorem dX11_init_1037 : decode cX11_init 1037 = .ok (.aload_n 0, 1) := dAt (x := (1037, .aload_n 0, 1)) DX11_init_10 33 rfl
theorem dX11_init_1038 : decode cX11_init 1038 = .ok (.iconst (-1), 1) := dAt (x := (1038, .iconst (-1), 1)) DX11_init_10 34 rfl
theorem dX11_init_1039 : decode cX11_init 1039 = .ok (.putfield 139, 3) := dAt (x := (1039, .putfield 139, 3)) DX11_init_10 35 rfl
theorem dX11_init_1042 : decode cX11_init 1042 = .ok (.aload_n 0, 1) := dAt (x := (1042, .aload_n 0, 1)) DX11_init_10 36 rfl
theorem dX11_init_1043 : decode cX11_init 1043 = .ok (.bipush 72, 2) := dAt (x := (1043, .bipush 72, 2)) DX11_init_10 37 rfl
theorem dX11_init_1045 : decode cX11_init 1045 = .ok (.newarray .int, 2) := dAt (x := (1045, .newarray .int, 2)) DX11_init_10 38 rfl
theorem dX11_init_1047 : decode cX11_init 1047 = .ok (.putfield 142, 3) := dAt (x := (1047, .putfield 142, 3)) DX11_init_10 39 rfl
theorem dX11_init_1050 : decode cX11_init 1050 = .ok (.aload_n 0, 1) := dAt (x := (1050, .aload_n 0, 1)) DX11_init_10 40 rfl
theorem dX11_init_1051 : decode cX11_init 1051 = .ok (.bipush 24, 2) := dAt (x := (1051, .bipush 24, 2)) DX11_init_10 41 rfl
theorem dX11_init_1053 : decode cX11_init 1053 = .ok (.newarray .boolean, 2) := dAt (x := (1053, .newarray .boolean, 2)) DX11_init_10 42 rfl
theorem dX11_init_1055 : decode cX11_init 1055 = .ok (.putfield 145, 3) := dAt (x := (1055, .putfield 145, 3)) DX11_init_10 43 rfl
theorem dX11_init_1058 : decode cX11_init 1058 = .ok (.aload_n 0, 1) := dAt (x := (1058, .aload_n 0, 1)) DX11_init_10 44 rfl
theorem dX11_init_1059 : decode cX11_init 1059 = .ok (.sipush 220, 3) := dAt (x := (1059, .sipush 220, 3)) DX11_init_10 45 rfl
theorem dX11_init_1062 : decode cX11_init 1062 = .ok (.newarray .int, 2) := dAt (x := (1062, .newarray .int, 2)) DX11_init_10 46 rfl
theorem dX11_init_1064 : decode cX11_init 1064 = .ok (.putfield 148, 3) := dAt (x := (1064, .putfield 148, 3)) DX11_init_10 47 rfl
theorem dX11_init_1067 : decode cX11_init 1067 = .ok (.aload_n 0, 1) := dAt (x := (1067, .aload_n 0, 1)) DX11_init_10 48 rfl
theorem dX11_init_1068 : decode cX11_init 1068 = .ok (.bipush 11, 2) := dAt (x := (1068, .bipush 11, 2)) DX11_init_10 49 rfl
theorem dX11_init_1070 : decode cX11_init 1070 = .ok (.newarray .int, 2) := dAt (x := (1070, .newarray .int, 2)) DX11_init_10 50 rfl
theorem dX11_init_1072 : decode cX11_init 1072 = .ok (.putfield 151, 3) := dAt (x := (1072, .putfield 151, 3)) DX11_init_10 51 rfl
theorem dX11_init_1075 : decode cX11_init 1075 = .ok (.aload_n 0, 1) := dAt (x := (1075, .aload_n 0, 1)) DX11_init_10 52 rfl
theorem dX11_init_1076 : decode cX11_init 1076 = .ok (.invokevirtual 154, 3) := dAt (x := (1076, .invokevirtual 154, 3)) DX11_init_10 53 rfl
theorem dX11_init_1079 : decode cX11_init 1079 = .ok (.aload_n 0, 1) := dAt (x := (1079, .aload_n 0, 1)) DX11_init_10 54 rfl
theorem dX11_init_1080 : decode cX11_init 1080 = .ok (.invokevirtual 157, 3) := dAt (x := (1080, .invokevirtual 157, 3)) DX11_init_10 55 rfl
theorem dX11_init_1083 : decode cX11_init 1083 = .ok (.return_, 1) := dAt (x := (1083, .return_, 1)) DX11_init_10 56 rfl
def lDX11_thrown_0 : List (Nat × Instr × Nat) := [(0, .aload_n 0, 1), (1, .getfield 160, 3), (4, .ireturn, 1)]
theorem DX11_thrown_0 : dAll cX11_thrown lDX11_thrown_0 = true := by decide +kernel
theorem dX11_thrown_0 : decode cX11_thrown 0 = .ok (.aload_n 0, 1) := dAt (x := (0, .aload_n 0, 1)) DX11_thrown_0 0 rfl
theorem dX11_thrown_1 : decode cX11_thrown 1 = .ok (.getfield 160, 3) := dAt (x := (1, .getfield 160, 3)) DX11_thrown_0 1 rfl
theorem dX11_thrown_4 : decode cX11_thrown 4 = .ok (.ireturn, 1) := dAt (x := (4, .ireturn, 1)) DX11_thrown_0 2 rfl
def lDX11_feed_0 : List (Nat × Instr × Nat) := [(0, .aload_n 0, 1), (1, .iconst 0, 1), (2, .putfield 160, 3), (5, .aload_n 0, 1), (6, .getfield 163, 3), (9, .bipush 20, 2), (11, .iadd, 1), (12, .sipush 700, 3), (15, .if_icmp .le 5, 3), (18, .iconst (-1), 1), (19, .ireturn, 1), (20, .iconst 0, 1), (21, .istore 6, 2), (23, .iload 6, 2), (25, .bipush 20, 2), (27, .if_icmp .ge 86, 3), (30, .iload 6, 2), (32, .iconst 4, 1), (33, .if_icmp .ge 7, 3), (36, .iload_n 1, 1), (37, .goto 39, 3), (40, .iload 6, 2), (42, .bipush 8, 2), (44, .if_icmp .ge 7, 3), (47, .iload_n 2, 1), (48, .goto 28, 3), (51, .iload 6, 2), (53, .bipush 12, 2), (55, .if_icmp .ge 7, 3), (58, .iload_n 3, 1), (59, .goto 17, 3), (62, .iload 6, 2), (64, .bipush 16, 2), (66, .if_icmp .ge 8, 3), (69, .iload 4, 2), (71, .goto 5, 3), (74, .iload 5, 2), (76, .istore 7, 2), (78, .aload_n 0, 1), (79, .getfield 7, 3), (82, .aload_n 0, 1), (83, .getfield 163, 3), (86, .iload 6, 2), (88, .iadd, 1), (89, .iload 7, 2), (91, .bipush 24, 2), (93, .bipush 8, 2), (95, .iload 6, 2), (97, .iconst 4, 1), (98, .irem, 1), (99, .imul, 1), (100, .isub, 1), (101, .ishr, 1), (102, .sipush 255, 3), (105, .iand, 1), (106, .iastore, 1), (107, .iinc 6 1, 3), (110, .goto (-87), 3), (113, .aload_n 0, 1), (114, .dup, 1)]
theorem DX11_feed_0 : dAll cX11_feed lDX11_feed_0 = true := by decide +kernel
theorem dX11_feed_0 : decode cX11_feed 0 = .ok (.aload_n 0, 1) := dAt (x := (0, .aload_n 0, 1)) DX11_feed_0 0 rfl
theorem dX11_feed_1 : decode cX11_feed 1 = .ok (.iconst 0, 1) := dAt (x := (1, .iconst 0, 1)) DX11_feed_0 1 rfl
theorem dX11_feed_2 : decode cX11_feed 2 = .ok (.putfield 160, 3) := dAt (x := (2, .putfield 160, 3)) DX11_feed_0 2 rfl
theorem dX11_feed_5 : decode cX11_feed 5 = .ok (.aload_n 0, 1) := dAt (x := (5, .aload_n 0, 1)) DX11_feed_0 3 rfl
theorem dX11_feed_6 : decode cX11_feed 6 = .ok (.getfield 163, 3) := dAt (x := (6, .getfield 163, 3)) DX11_feed_0 4 rfl
theorem dX11_feed_9 : decode cX11_feed 9 = .ok (.bipush 20, 2) := dAt (x := (9, .bipush 20, 2)) DX11_feed_0 5 rfl
theorem dX11_feed_11 : decode cX11_feed 11 = .ok (.iadd, 1) := dAt (x := (11, .iadd, 1)) DX11_feed_0 6 rfl
theorem dX11_feed_12 : decode cX11_feed 12 = .ok (.sipush 700, 3) := dAt (x := (12, .sipush 700, 3)) DX11_feed_0 7 rfl
theorem dX11_feed_15 : decode cX11_feed 15 = .ok (.if_icmp .le 5, 3) := dAt (x := (15, .if_icmp .le 5, 3)) DX11_feed_0 8 rfl
theorem dX11_feed_18 : decode cX11_feed 18 = .ok (.iconst (-1), 1) := dAt (x := (18, .iconst (-1), 1)) DX11_feed_0 9 rfl
theorem dX11_feed_19 : decode cX11_feed 19 = .ok (.ireturn, 1) := dAt (x := (19, .ireturn, 1)) DX11_feed_0 10 rfl
theorem dX11_feed_20 : decode cX11_feed 20 = .ok (.iconst 0, 1) := dAt (x := (20, .iconst 0, 1)) DX11_feed_0 11 rfl
theorem dX11_feed_21 : decode cX11_feed 21 = .ok (.istore 6, 2) := dAt (x := (21, .istore 6, 2)) DX11_feed_0 12 rfl
theorem dX11_feed_23 : decode cX11_feed 23 = .ok (.iload 6, 2) := dAt (x := (23, .iload 6, 2)) DX11_feed_0 13 rfl
theorem dX11_feed_25 : decode cX11_feed 25 = .ok (.bipush 20, 2) := dAt (x := (25, .bipush 20, 2)) DX11_feed_0 14 rfl
theorem dX11_feed_27 : decode cX11_feed 27 = .ok (.if_icmp .ge 86, 3) := dAt (x := (27, .if_icmp .ge 86, 3)) DX11_feed_0 15 rfl
theorem dX11_feed_30 : decode cX11_feed 30 = .ok (.iload 6, 2) := dAt (x := (30, .iload 6, 2)) DX11_feed_0 16 rfl
theorem dX11_feed_32 : decode cX11_feed 32 = .ok (.iconst 4, 1) := dAt (x := (32, .iconst 4, 1)) DX11_feed_0 17 rfl
theorem dX11_feed_33 : decode cX11_feed 33 = .ok (.if_icmp .ge 7, 3) := dAt (x := (33, .if_icmp .ge 7, 3)) DX11_feed_0 18 rfl
theorem dX11_feed_36 : decode cX11_feed 36 = .ok (.iload_n 1, 1) := dAt (x := (36, .iload_n 1, 1)) DX11_feed_0 19 rfl
theorem dX11_feed_37 : decode cX11_feed 37 = .ok (.goto 39, 3) := dAt (x := (37, .goto 39, 3)) DX11_feed_0 20 rfl
theorem dX11_feed_40 : decode cX11_feed 40 = .ok (.iload 6, 2) := dAt (x := (40, .iload 6, 2)) DX11_feed_0 21 rfl
theorem dX11_feed_42 : decode cX11_feed 42 = .ok (.bipush 8, 2) := dAt (x := (42, .bipush 8, 2)) DX11_feed_0 22 rfl
theorem dX11_feed_44 : decode cX11_feed 44 = .ok (.if_icmp .ge 7, 3) := dAt (x := (44, .if_icmp .ge 7, 3)) DX11_feed_0 23 rfl
theorem dX11_feed_47 : decode cX11_feed 47 = .ok (.iload_n 2, 1) := dAt (x := (47, .iload_n 2, 1)) DX11_feed_0 24 rfl
theorem dX11_feed_48 : decode cX11_feed 48 = .ok (.goto 28, 3) := dAt (x := (48, .goto 28, 3)) DX11_feed_0 25 rfl
theorem dX11_feed_51 : decode cX11_feed 51 = .ok (.iload 6, 2) := dAt (x := (51, .iload 6, 2)) DX11_feed_0 26 rfl
theorem dX11_feed_53 : decode cX11_feed 53 = .ok (.bipush 12, 2) := dAt (x := (53, .bipush 12, 2)) DX11_feed_0 27 rfl
theorem dX11_feed_55 : decode cX11_feed 55 = .ok (.if_icmp .ge 7, 3) := dAt (x := (55, .if_icmp .ge 7, 3)) DX11_feed_0 28 rfl
theorem dX11_feed_58 : decode cX11_feed 58 = .ok (.iload_n 3, 1) := dAt (x := (58, .iload_n 3, 1)) DX11_feed_0 29 rfl
theorem dX11_feed_59 : decode cX11_feed 59 = .ok (.goto 17, 3) := dAt (x := (59, .goto 17, 3)) DX11_feed_0 30 rfl
theorem dX11_feed_62 : decode cX11_feed 62 = .ok (.iload 6, 2) := dAt (x := (62, .iload 6, 2)) DX11_feed_0 31 rfl
theorem dX11_feed_64 : decode cX11_feed 64 = .ok (.bipush 16, 2) := dAt (x := (64, .bipush 16, 2)) DX11_feed_0 32 rfl
theorem dX11_feed_66 : decode cX11_feed 66 = .ok (.if_icmp .ge 8, 3) := dAt (x := (66, .if_icmp .ge 8, 3)) DX11_feed_0 33 rfl
theorem dX11_feed_69 : decode cX11_feed 69 = .ok (.iload 4, 2) := dAt (x := (69, .iload 4, 2)) DX11_feed_0 34 rfl
theorem dX11_feed_71 : decode cX11_feed 71 = .ok (.goto 5, 3) := dAt (x := (71, .goto 5, 3)) DX11_feed_0 35 rfl
theorem dX11_feed_74 : decode cX11_feed 74 = .ok (.iload 5, 2) := dAt (x := (74, .iload 5, 2)) DX11_feed_0 36 rfl
theorem dX11_feed_76 : decode cX11_feed 76 = .ok (.istore 7, 2) := dAt (x := (76, .istore 7, 2)) DX11_feed_0 37 rfl
theorem dX11_feed_78 : decode cX11_feed 78 = .ok (.aload_n 0, 1) := dAt (x := (78, .aload_n 0, 1)) DX11_feed_0 38 rfl
theorem dX11_feed_79 : decode cX11_feed 79 = .ok (.getfield 7, 3) := dAt (x := (79, .getfield 7, 3)) DX11_feed_0 39 rfl
theorem dX11_feed_82 : decode cX11_feed 82 = .ok (.aload_n 0, 1) := dAt (x := (82, .aload_n 0, 1)) DX11_feed_0 40 rfl
theorem dX11_feed_83 : decode cX11_feed 83 = .ok (.getfield 163, 3) := dAt (x := (83, .getfield 163, 3)) DX11_feed_0 41 rfl
theorem dX11_feed_86 : decode cX11_feed 86 = .ok (.iload 6, 2) := dAt (x := (86, .iload 6, 2)) DX11_feed_0 42 rfl
theorem dX11_feed_88 : decode cX11_feed 88 = .ok (.iadd, 1) := dAt (x := (88, .iadd, 1)) DX11_feed_0 43 rfl
theorem dX11_feed_89 : decode cX11_feed 89 = .ok (.iload 7, 2) := dAt (x := (89, .iload 7, 2)) DX11_feed_0 44 rfl
theorem dX11_feed_91 : decode cX11_feed 91 = .ok (.bipush 24, 2) := dAt (x := (91, .bipush 24, 2)) DX11_feed_0 45 rfl
theorem dX11_feed_93 : decode cX11_feed 93 = .ok (.bipush 8, 2) := dAt (x := (93, .bipush 8, 2)) DX11_feed_0 46 rfl
theorem dX11_feed_95 : decode cX11_feed 95 = .ok (.iload 6, 2) := dAt (x := (95, .iload 6, 2)) DX11_feed_0 47 rfl
theorem dX11_feed_97 : decode cX11_feed 97 = .ok (.iconst 4, 1) := dAt (x := (97, .iconst 4, 1)) DX11_feed_0 48 rfl
theorem dX11_feed_98 : decode cX11_feed 98 = .ok (.irem, 1) := dAt (x := (98, .irem, 1)) DX11_feed_0 49 rfl
theorem dX11_feed_99 : decode cX11_feed 99 = .ok (.imul, 1) := dAt (x := (99, .imul, 1)) DX11_feed_0 50 rfl
theorem dX11_feed_100 : decode cX11_feed 100 = .ok (.isub, 1) := dAt (x := (100, .isub, 1)) DX11_feed_0 51 rfl
theorem dX11_feed_101 : decode cX11_feed 101 = .ok (.ishr, 1) := dAt (x := (101, .ishr, 1)) DX11_feed_0 52 rfl
theorem dX11_feed_102 : decode cX11_feed 102 = .ok (.sipush 255, 3) := dAt (x := (102, .sipush 255, 3)) DX11_feed_0 53 rfl
theorem dX11_feed_105 : decode cX11_feed 105 = .ok (.iand, 1) := dAt (x := (105, .iand, 1)) DX11_feed_0 54 rfl
theorem dX11_feed_106 : decode cX11_feed 106 = .ok (.iastore, 1) := dAt (x := (106, .iastore, 1)) DX11_feed_0 55 rfl
theorem dX11_feed_107 : decode cX11_feed 107 = .ok (.iinc 6 1, 3) := dAt (x := (107, .iinc 6 1, 3)) DX11_feed_0 56 rfl
theorem dX11_feed_110 : decode cX11_feed 110 = .ok (.goto (-87), 3) := dAt (x := (110, .goto (-87), 3)) DX11_feed_0 57 rfl
theorem dX11_feed_113 : decode cX11_feed 113 = .ok (.aload_n 0, 1) := dAt (x := (113, .aload_n 0, 1)) DX11_feed_0 58 rfl
theorem dX11_feed_114 : decode cX11_feed 114 = .ok (.dup, 1) := dAt (x := (114, .dup, 1)) DX11_feed_0 59 rfl
def lDX11_feed_1 : List (Nat × Instr × Nat) := [(115, .getfield 163, 3), (118, .bipush 20, 2), (120, .iadd, 1), (121, .putfield 163, 3), (124, .aload_n 0, 1), (125, .getfield 163, 3), (128, .ireturn, 1)]
theorem DX11_feed_1 : dAll cX11_feed lDX11_feed_1 = true := by decide +kernel
theorem dX11_feed_115 : decode cX11_feed 115 = .ok (.getfield 163, 3) := dAt (x := (115, .getfield 163, 3)) DX11_feed_1 0 rfl
theorem dX11_feed_118 : decode cX11_feed 118 = .ok (.bipush 20, 2) := dAt (x := (118, .bipush 20, 2)) DX11_feed_1 1 rfl
theorem dX11_feed_120 : decode cX11_feed 120 = .ok (.iadd, 1) := dAt (x := (120, .iadd, 1)) DX11_feed_1 2 rfl
theorem dX11_feed_121 : decode cX11_feed 121 = .ok (.putfield 163, 3) := dAt (x := (121, .putfield 163, 3)) DX11_feed_1 3 rfl
theorem dX11_feed_124 : decode cX11_feed 124 = .ok (.aload_n 0, 1) := dAt (x := (124, .aload_n 0, 1)) DX11_feed_1 4 rfl
theorem dX11_feed_125 : decode cX11_feed 125 = .ok (.getfield 163, 3) := dAt (x := (125, .getfield 163, 3)) DX11_feed_1 5 rfl
theorem dX11_feed_128 : decode cX11_feed 128 = .ok (.ireturn, 1) := dAt (x := (128, .ireturn, 1)) DX11_feed_1 6 rfl
def lDX11_isIn_0 : List (Nat × Instr × Nat) := [(0, .iload_n 0, 1), (1, .iload_n 1, 1), (2, .if_icmp .lt 12, 3), (5, .iload_n 0, 1), (6, .iload_n 2, 1), (7, .if_icmp .gt 7, 3), (10, .iconst 1, 1), (11, .goto 4, 3), (14, .iconst 0, 1), (15, .ireturn, 1)]
theorem DX11_isIn_0 : dAll cX11_isIn lDX11_isIn_0 = true := by decide +kernel
theorem dX11_isIn_0 : decode cX11_isIn 0 = .ok (.iload_n 0, 1) := dAt (x := (0, .iload_n 0, 1)) DX11_isIn_0 0 rfl
theorem dX11_isIn_1 : decode cX11_isIn 1 = .ok (.iload_n 1, 1) := dAt (x := (1, .iload_n 1, 1)) DX11_isIn_0 1 rfl
theorem dX11_isIn_2 : decode cX11_isIn 2 = .ok (.if_icmp .lt 12, 3) := dAt (x := (2, .if_icmp .lt 12, 3)) DX11_isIn_0 2 rfl
theorem dX11_isIn_5 : decode cX11_isIn 5 = .ok (.iload_n 0, 1) := dAt (x := (5, .iload_n 0, 1)) DX11_isIn_0 3 rfl
theorem dX11_isIn_6 : decode cX11_isIn 6 = .ok (.iload_n 2, 1) := dAt (x := (6, .iload_n 2, 1)) DX11_isIn_0 4 rfl
theorem dX11_isIn_7 : decode cX11_isIn 7 = .ok (.if_icmp .gt 7, 3) := dAt (x := (7, .if_icmp .gt 7, 3)) DX11_isIn_0 5 rfl
theorem dX11_isIn_10 : decode cX11_isIn 10 = .ok (.iconst 1, 1) := dAt (x := (10, .iconst 1, 1)) DX11_isIn_0 6 rfl
theorem dX11_isIn_11 : decode cX11_isIn 11 = .ok (.goto 4, 3) := dAt (x := (11, .goto 4, 3)) DX11_isIn_0 7 rfl
theorem dX11_isIn_14 : decode cX11_isIn 14 = .ok (.iconst 0, 1) := dAt (x := (14, .iconst 0, 1)) DX11_isIn_0 8 rfl
theorem dX11_isIn_15 : decode cX11_isIn 15 = .ok (.ireturn, 1) := dAt (x := (15, .ireturn, 1)) DX11_isIn_0 9 rfl
def lDX11_isOf_0 : List (Nat × Instr × Nat) := [(0, .iload_n 0, 1), (1, .iload_n 1, 1), (2, .ishr, 1), (3, .iconst 1, 1), (4, .iand, 1), (5, .iconst 1, 1), (6, .if_icmp .ne 7, 3), (9, .iconst 1, 1), (10, .goto 4, 3), (13, .iconst 0, 1), (14, .ireturn, 1)]
theorem DX11_isOf_0 : dAll cX11_isOf lDX11_isOf_0 = true := by decide +kernel
theorem dX11_isOf_0 : decode cX11_isOf 0 = .ok (.iload_n 0, 1) := dAt (x := (0, .iload_n 0, 1)) DX11_isOf_0 0 rfl
theorem dX11_isOf_1 : decode cX11_isOf 1 = .ok (.iload_n 1, 1) := dAt (x := (1, .iload_n 1, 1)) DX11_isOf_0 1 rfl
theorem dX11_isOf_2 : decode cX11_isOf 2 = .ok (.ishr, 1) := dAt (x := (2, .ishr, 1)) DX11_isOf_0 2 rfl
theorem dX11_isOf_3 : decode cX11_isOf 3 = .ok (.iconst 1, 1) := dAt (x := (3, .iconst 1, 1)) DX11_isOf_0 3 rfl
theorem dX11_isOf_4 : decode cX11_isOf 4 = .ok (.iand, 1) := dAt (x := (4, .iand, 1)) DX11_isOf_0 4 rfl
theorem dX11_isOf_5 : decode cX11_isOf 5 = .ok (.iconst 1, 1) := dAt (x := (5, .iconst 1, 1)) DX11_isOf_0 5 rfl
theorem dX11_isOf_6 : decode cX11_isOf 6 = .ok (.if_icmp .ne 7, 3) := dAt (x := (6, .if_icmp .ne 7, 3)) DX11_isOf_0 6 rfl
theorem dX11_isOf_9 : decode cX11_isOf 9 = .ok (.iconst 1, 1) := dAt (x := (9, .iconst 1, 1)) DX11_isOf_0 7 rfl
theorem dX11_isOf_10 : decode cX11_isOf 10 = .ok (.goto 4, 3) := dAt (x := (10, .goto 4, 3)) DX11_isOf_0 8 rfl
theorem dX11_isOf_13 : decode cX11_isOf 13 = .ok (.iconst 0, 1) := dAt (x := (13, .iconst 0, 1)) DX11_isOf_0 9 rfl
theorem dX11_isOf_14 : decode cX11_isOf 14 = .ok (.ireturn, 1) := dAt (x := (14, .ireturn, 1)) DX11_isOf_0 10 rfl
def lDX11_wrong_0 : List (Nat × Instr × Nat) := [(0, .aload_n 0, 1), (1, .iload_n 1, 1), (2, .putfield 166, 3), (5, .aload_n 0, 1), (6, .aload_n 0, 1), (7, .getfield 169, 3), (10, .putfield 16, 3), (13, .iconst 0, 1), (14, .ireturn, 1)]
theorem DX11_wrong_0 : dAll cX11_wrong lDX11_wrong_0 = true := by decide +kernel
theorem dX11_wrong_0 : decode cX11_wrong 0 = .ok (.aload_n 0, 1) := dAt (x := (0, .aload_n 0, 1)) DX11_wrong_0 0 rfl
theorem dX11_wrong_1 : decode cX11_wrong 1 = .ok (.iload_n 1, 1) := dAt (x := (1, .iload_n 1, 1)) DX11_wrong_0 1 rfl
theorem dX11_wrong_2 : decode cX11_wrong 2 = .ok (.putfield 166, 3) := dAt (x := (2, .putfield 166, 3)) DX11_wrong_0 2 rfl
theorem dX11_wrong_5 : decode cX11_wrong 5 = .ok (.aload_n 0, 1) := dAt (x := (5, .aload_n 0, 1)) DX11_wrong_0 3 rfl
theorem dX11_wrong_6 : decode cX11_wrong 6 = .ok (.aload_n 0, 1) := dAt (x := (6, .aload_n 0, 1)) DX11_wrong_0 4 rfl
theorem dX11_wrong_7 : decode cX11_wrong 7 = .ok (.getfield 169, 3) := dAt (x := (7, .getfield 169, 3)) DX11_wrong_0 5 rfl
theorem dX11_wrong_10 : decode cX11_wrong 10 = .ok (.putfield 16, 3) := dAt (x := (10, .putfield 16, 3)) DX11_wrong_0 6 rfl
theorem dX11_wrong_13 : decode cX11_wrong 13 = .ok (.iconst 0, 1) := dAt (x := (13, .iconst 0, 1)) DX11_wrong_0 7 rfl
theorem dX11_wrong_14 : decode cX11_wrong 14 = .ok (.ireturn, 1) := dAt (x := (14, .ireturn, 1)) DX11_wrong_0 8 rfl
def lDX11_wordAt_0 : List (Nat × Instr × Nat) := [(0, .iconst 0, 1), (1, .istore_n 3, 1), (2, .iconst 0, 1), (3, .istore 4, 2), (5, .iload 4, 2), (7, .aload_n 0, 1), (8, .getfield 13, 3), (11, .arraylength, 1), (12, .if_icmp .ge 114, 3), (15, .iconst 0, 1), (16, .istore 5, 2), (18, .aload_n 0, 1), (19, .getfield 13, 3), (22, .iload 4, 2), (24, .iload 5, 2), (26, .iadd, 1), (27, .iaload, 1), (28, .bipush 32, 2), (30, .if_icmp .eq 9, 3), (33, .iinc 5 1, 3), (36, .goto (-18), 3), (39, .iload 5, 2), (41, .iload_n 2, 1), (42, .iload_n 1, 1), (43, .isub, 1), (44, .if_icmp .ne 7, 3), (47, .iconst 1, 1), (48, .goto 4, 3), (51, .iconst 0, 1), (52, .istore 6, 2), (54, .iconst 0, 1), (55, .istore 7, 2), (57, .iload 7, 2), (59, .iload 5, 2), (61, .if_icmp .ge 43, 3), (64, .iload 6, 2), (66, .ifCond .eq 38, 3), (69, .aload_n 0, 1), (70, .getfield 13, 3), (73, .iload 4, 2), (75, .iload 7, 2), (77, .iadd, 1), (78, .iaload, 1), (79, .aload_n 0, 1), (80, .getfield 7, 3), (83, .iload_n 1, 1), (84, .iload 7, 2), (86, .iadd, 1), (87, .iaload, 1), (88, .if_icmp .ne 7, 3), (91, .iconst 1, 1), (92, .goto 4, 3), (95, .iconst 0, 1), (96, .istore 6, 2), (98, .iinc 7 1, 3), (101, .goto (-44), 3), (104, .iload 6, 2), (106, .ifCond .eq 5, 3), (109, .iload_n 3, 1), (110, .ireturn, 1)]
theorem DX11_wordAt_0 : dAll cX11_wordAt lDX11_wordAt_0 = true := by decide +kernel
theorem dX11_wordAt_0 : decode cX11_wordAt 0 = .ok (.iconst 0, 1) := dAt (x := (0, .iconst 0, 1)) DX11_wordAt_0 0 rfl
theorem dX11_wordAt_1 : decode cX11_wordAt 1 = .ok (.istore_n 3, 1) := dAt (x := (1, .istore_n 3, 1)) DX11_wordAt_0 1 rfl
theorem dX11_wordAt_2 : decode cX11_wordAt 2 = .ok (.iconst 0, 1) := dAt (x := (2, .iconst 0, 1)) DX11_wordAt_0 2 rfl
theorem dX11_wordAt_3 : decode cX11_wordAt 3 = .ok (.istore 4, 2) := dAt (x := (3, .istore 4, 2)) DX11_wordAt_0 3 rfl
theorem dX11_wordAt_5 : decode cX11_wordAt 5 = .ok (.iload 4, 2) := dAt (x := (5, .iload 4, 2)) DX11_wordAt_0 4 rfl
theorem dX11_wordAt_7 : decode cX11_wordAt 7 = .ok (.aload_n 0, 1) := dAt (x := (7, .aload_n 0, 1)) DX11_wordAt_0 5 rfl
theorem dX11_wordAt_8 : decode cX11_wordAt 8 = .ok (.getfield 13, 3) := dAt (x := (8, .getfield 13, 3)) DX11_wordAt_0 6 rfl
theorem dX11_wordAt_11 : decode cX11_wordAt 11 = .ok (.arraylength, 1) := dAt (x := (11, .arraylength, 1)) DX11_wordAt_0 7 rfl
theorem dX11_wordAt_12 : decode cX11_wordAt 12 = .ok (.if_icmp .ge 114, 3) := dAt (x := (12, .if_icmp .ge 114, 3)) DX11_wordAt_0 8 rfl
theorem dX11_wordAt_15 : decode cX11_wordAt 15 = .ok (.iconst 0, 1) := dAt (x := (15, .iconst 0, 1)) DX11_wordAt_0 9 rfl
theorem dX11_wordAt_16 : decode cX11_wordAt 16 = .ok (.istore 5, 2) := dAt (x := (16, .istore 5, 2)) DX11_wordAt_0 10 rfl
theorem dX11_wordAt_18 : decode cX11_wordAt 18 = .ok (.aload_n 0, 1) := dAt (x := (18, .aload_n 0, 1)) DX11_wordAt_0 11 rfl
theorem dX11_wordAt_19 : decode cX11_wordAt 19 = .ok (.getfield 13, 3) := dAt (x := (19, .getfield 13, 3)) DX11_wordAt_0 12 rfl
theorem dX11_wordAt_22 : decode cX11_wordAt 22 = .ok (.iload 4, 2) := dAt (x := (22, .iload 4, 2)) DX11_wordAt_0 13 rfl
theorem dX11_wordAt_24 : decode cX11_wordAt 24 = .ok (.iload 5, 2) := dAt (x := (24, .iload 5, 2)) DX11_wordAt_0 14 rfl
theorem dX11_wordAt_26 : decode cX11_wordAt 26 = .ok (.iadd, 1) := dAt (x := (26, .iadd, 1)) DX11_wordAt_0 15 rfl
theorem dX11_wordAt_27 : decode cX11_wordAt 27 = .ok (.iaload, 1) := dAt (x := (27, .iaload, 1)) DX11_wordAt_0 16 rfl
theorem dX11_wordAt_28 : decode cX11_wordAt 28 = .ok (.bipush 32, 2) := dAt (x := (28, .bipush 32, 2)) DX11_wordAt_0 17 rfl
theorem dX11_wordAt_30 : decode cX11_wordAt 30 = .ok (.if_icmp .eq 9, 3) := dAt (x := (30, .if_icmp .eq 9, 3)) DX11_wordAt_0 18 rfl
theorem dX11_wordAt_33 : decode cX11_wordAt 33 = .ok (.iinc 5 1, 3) := dAt (x := (33, .iinc 5 1, 3)) DX11_wordAt_0 19 rfl
theorem dX11_wordAt_36 : decode cX11_wordAt 36 = .ok (.goto (-18), 3) := dAt (x := (36, .goto (-18), 3)) DX11_wordAt_0 20 rfl
theorem dX11_wordAt_39 : decode cX11_wordAt 39 = .ok (.iload 5, 2) := dAt (x := (39, .iload 5, 2)) DX11_wordAt_0 21 rfl
theorem dX11_wordAt_41 : decode cX11_wordAt 41 = .ok (.iload_n 2, 1) := dAt (x := (41, .iload_n 2, 1)) DX11_wordAt_0 22 rfl
theorem dX11_wordAt_42 : decode cX11_wordAt 42 = .ok (.iload_n 1, 1) := dAt (x := (42, .iload_n 1, 1)) DX11_wordAt_0 23 rfl
theorem dX11_wordAt_43 : decode cX11_wordAt 43 = .ok (.isub, 1) := dAt (x := (43, .isub, 1)) DX11_wordAt_0 24 rfl
theorem dX11_wordAt_44 : decode cX11_wordAt 44 = .ok (.if_icmp .ne 7, 3) := dAt (x := (44, .if_icmp .ne 7, 3)) DX11_wordAt_0 25 rfl
theorem dX11_wordAt_47 : decode cX11_wordAt 47 = .ok (.iconst 1, 1) := dAt (x := (47, .iconst 1, 1)) DX11_wordAt_0 26 rfl
theorem dX11_wordAt_48 : decode cX11_wordAt 48 = .ok (.goto 4, 3) := dAt (x := (48, .goto 4, 3)) DX11_wordAt_0 27 rfl
theorem dX11_wordAt_51 : decode cX11_wordAt 51 = .ok (.iconst 0, 1) := dAt (x := (51, .iconst 0, 1)) DX11_wordAt_0 28 rfl
theorem dX11_wordAt_52 : decode cX11_wordAt 52 = .ok (.istore 6, 2) := dAt (x := (52, .istore 6, 2)) DX11_wordAt_0 29 rfl
theorem dX11_wordAt_54 : decode cX11_wordAt 54 = .ok (.iconst 0, 1) := dAt (x := (54, .iconst 0, 1)) DX11_wordAt_0 30 rfl
theorem dX11_wordAt_55 : decode cX11_wordAt 55 = .ok (.istore 7, 2) := dAt (x := (55, .istore 7, 2)) DX11_wordAt_0 31 rfl
theorem dX11_wordAt_57 : decode cX11_wordAt 57 = .ok (.iload 7, 2) := dAt (x := (57, .iload 7, 2)) DX11_wordAt_0 32 rfl
theorem dX11_wordAt_59 : decode cX11_wordAt 59 = .ok (.iload 5, 2) := dAt (x := (59, .iload 5, 2)) DX11_wordAt_0 33 rfl
theorem dX11_wordAt_61 : decode cX11_wordAt 61 = .ok (.if_icmp .ge 43, 3) := dAt (x := (61, .if_icmp .ge 43, 3)) DX11_wordAt_0 34 rfl
theorem dX11_wordAt_64 : decode cX11_wordAt 64 = .ok (.iload 6, 2) := dAt (x := (64, .iload 6, 2)) DX11_wordAt_0 35 rfl
theorem dX11_wordAt_66 : decode cX11_wordAt 66 = .ok (.ifCond .eq 38, 3) := dAt (x := (66, .ifCond .eq 38, 3)) DX11_wordAt_0 36 rfl
theorem dX11_wordAt_69 : decode cX11_wordAt 69 = .ok (.aload_n 0, 1) := dAt (x := (69, .aload_n 0, 1)) DX11_wordAt_0 37 rfl
theorem dX11_wordAt_70 : decode cX11_wordAt 70 = .ok (.getfield 13, 3) := dAt (x := (70, .getfield 13, 3)) DX11_wordAt_0 38 rfl
theorem dX11_wordAt_73 : decode cX11_wordAt 73 = .ok (.iload 4, 2) := dAt (x := (73, .iload 4, 2)) DX11_wordAt_0 39 rfl
theorem dX11_wordAt_75 : decode cX11_wordAt 75 = .ok (.iload 7, 2) := dAt (x := (75, .iload 7, 2)) DX11_wordAt_0 40 rfl
theorem dX11_wordAt_77 : decode cX11_wordAt 77 = .ok (.iadd, 1) := dAt (x := (77, .iadd, 1)) DX11_wordAt_0 41 rfl
theorem dX11_wordAt_78 : decode cX11_wordAt 78 = .ok (.iaload, 1) := dAt (x := (78, .iaload, 1)) DX11_wordAt_0 42 rfl
theorem dX11_wordAt_79 : decode cX11_wordAt 79 = .ok (.aload_n 0, 1) := dAt (x := (79, .aload_n 0, 1)) DX11_wordAt_0 43 rfl
theorem dX11_wordAt_80 : decode cX11_wordAt 80 = .ok (.getfield 7, 3) := dAt (x := (80, .getfield 7, 3)) DX11_wordAt_0 44 rfl
theorem dX11_wordAt_83 : decode cX11_wordAt 83 = .ok (.iload_n 1, 1) := dAt (x := (83, .iload_n 1, 1)) DX11_wordAt_0 45 rfl
theorem dX11_wordAt_84 : decode cX11_wordAt 84 = .ok (.iload 7, 2) := dAt (x := (84, .iload 7, 2)) DX11_wordAt_0 46 rfl
theorem dX11_wordAt_86 : decode cX11_wordAt 86 = .ok (.iadd, 1) := dAt (x := (86, .iadd, 1)) DX11_wordAt_0 47 rfl
theorem dX11_wordAt_87 : decode cX11_wordAt 87 = .ok (.iaload, 1) := dAt (x := (87, .iaload, 1)) DX11_wordAt_0 48 rfl
theorem dX11_wordAt_88 : decode cX11_wordAt 88 = .ok (.if_icmp .ne 7, 3) := dAt (x := (88, .if_icmp .ne 7, 3)) DX11_wordAt_0 49 rfl
theorem dX11_wordAt_91 : decode cX11_wordAt 91 = .ok (.iconst 1, 1) := dAt (x := (91, .iconst 1, 1)) DX11_wordAt_0 50 rfl
theorem dX11_wordAt_92 : decode cX11_wordAt 92 = .ok (.goto 4, 3) := dAt (x := (92, .goto 4, 3)) DX11_wordAt_0 51 rfl
theorem dX11_wordAt_95 : decode cX11_wordAt 95 = .ok (.iconst 0, 1) := dAt (x := (95, .iconst 0, 1)) DX11_wordAt_0 52 rfl
theorem dX11_wordAt_96 : decode cX11_wordAt 96 = .ok (.istore 6, 2) := dAt (x := (96, .istore 6, 2)) DX11_wordAt_0 53 rfl
theorem dX11_wordAt_98 : decode cX11_wordAt 98 = .ok (.iinc 7 1, 3) := dAt (x := (98, .iinc 7 1, 3)) DX11_wordAt_0 54 rfl
theorem dX11_wordAt_101 : decode cX11_wordAt 101 = .ok (.goto (-44), 3) := dAt (x := (101, .goto (-44), 3)) DX11_wordAt_0 55 rfl
theorem dX11_wordAt_104 : decode cX11_wordAt 104 = .ok (.iload 6, 2) := dAt (x := (104, .iload 6, 2)) DX11_wordAt_0 56 rfl
theorem dX11_wordAt_106 : decode cX11_wordAt 106 = .ok (.ifCond .eq 5, 3) := dAt (x := (106, .ifCond .eq 5, 3)) DX11_wordAt_0 57 rfl
theorem dX11_wordAt_109 : decode cX11_wordAt 109 = .ok (.iload_n 3, 1) := dAt (x := (109, .iload_n 3, 1)) DX11_wordAt_0 58 rfl
theorem dX11_wordAt_110 : decode cX11_wordAt 110 = .ok (.ireturn, 1) := dAt (x := (110, .ireturn, 1)) DX11_wordAt_0 59 rfl
def lDX11_wordAt_1 : List (Nat × Instr × Nat) := [(111, .iload 4, 2), (113, .iload 5, 2), (115, .iconst 1, 1), (116, .iadd, 1), (117, .iadd, 1), (118, .istore 4, 2), (120, .iinc 3 1, 3), (123, .goto (-118), 3), (126, .iconst (-1), 1), (127, .ireturn, 1)]
theorem DX11_wordAt_1 : dAll cX11_wordAt lDX11_wordAt_1 = true := by decide +kernel
theorem dX11_wordAt_111 : decode cX11_wordAt 111 = .ok (.iload 4, 2) := dAt (x := (111, .iload 4, 2)) DX11_wordAt_1 0 rfl
theorem dX11_wordAt_113 : decode cX11_wordAt 113 = .ok (.iload 5, 2) := dAt (x := (113, .iload 5, 2)) DX11_wordAt_1 1 rfl
theorem dX11_wordAt_115 : decode cX11_wordAt 115 = .ok (.iconst 1, 1) := dAt (x := (115, .iconst 1, 1)) DX11_wordAt_1 2 rfl
theorem dX11_wordAt_116 : decode cX11_wordAt 116 = .ok (.iadd, 1) := dAt (x := (116, .iadd, 1)) DX11_wordAt_1 3 rfl
theorem dX11_wordAt_117 : decode cX11_wordAt 117 = .ok (.iadd, 1) := dAt (x := (117, .iadd, 1)) DX11_wordAt_1 4 rfl
theorem dX11_wordAt_118 : decode cX11_wordAt 118 = .ok (.istore 4, 2) := dAt (x := (118, .istore 4, 2)) DX11_wordAt_1 5 rfl
theorem dX11_wordAt_120 : decode cX11_wordAt 120 = .ok (.iinc 3 1, 3) := dAt (x := (120, .iinc 3 1, 3)) DX11_wordAt_1 6 rfl
theorem dX11_wordAt_123 : decode cX11_wordAt 123 = .ok (.goto (-118), 3) := dAt (x := (123, .goto (-118), 3)) DX11_wordAt_1 7 rfl
theorem dX11_wordAt_126 : decode cX11_wordAt 126 = .ok (.iconst (-1), 1) := dAt (x := (126, .iconst (-1), 1)) DX11_wordAt_1 8 rfl
theorem dX11_wordAt_127 : decode cX11_wordAt 127 = .ok (.ireturn, 1) := dAt (x := (127, .ireturn, 1)) DX11_wordAt_1 9 rfl
def lDX11_isSmall_0 : List (Nat × Instr × Nat) := [(0, .iload_n 1, 1), (1, .aload_n 0, 1), (2, .getfield 172, 3), (5, .if_icmp .ge 29, 3), (8, .aload_n 0, 1), (9, .getfield 7, 3), (12, .iload_n 1, 1), (13, .iaload, 1), (14, .bipush 97, 2), (16, .if_icmp .lt 18, 3), (19, .aload_n 0, 1), (20, .getfield 7, 3), (23, .iload_n 1, 1), (24, .iaload, 1), (25, .bipush 122, 2), (27, .if_icmp .gt 7, 3), (30, .iconst 1, 1), (31, .goto 4, 3), (34, .iconst 0, 1), (35, .ireturn, 1)]
theorem DX11_isSmall_0 : dAll cX11_isSmall lDX11_isSmall_0 = true := by decide +kernel
theorem dX11_isSmall_0 : decode cX11_isSmall 0 = .ok (.iload_n 1, 1) := dAt (x := (0, .iload_n 1, 1)) DX11_isSmall_0 0 rfl
theorem dX11_isSmall_1 : decode cX11_isSmall 1 = .ok (.aload_n 0, 1) := dAt (x := (1, .aload_n 0, 1)) DX11_isSmall_0 1 rfl
theorem dX11_isSmall_2 : decode cX11_isSmall 2 = .ok (.getfield 172, 3) := dAt (x := (2, .getfield 172, 3)) DX11_isSmall_0 2 rfl
theorem dX11_isSmall_5 : decode cX11_isSmall 5 = .ok (.if_icmp .ge 29, 3) := dAt (x := (5, .if_icmp .ge 29, 3)) DX11_isSmall_0 3 rfl
theorem dX11_isSmall_8 : decode cX11_isSmall 8 = .ok (.aload_n 0, 1) := dAt (x := (8, .aload_n 0, 1)) DX11_isSmall_0 4 rfl
theorem dX11_isSmall_9 : decode cX11_isSmall 9 = .ok (.getfield 7, 3) := dAt (x := (9, .getfield 7, 3)) DX11_isSmall_0 5 rfl
theorem dX11_isSmall_12 : decode cX11_isSmall 12 = .ok (.iload_n 1, 1) := dAt (x := (12, .iload_n 1, 1)) DX11_isSmall_0 6 rfl
theorem dX11_isSmall_13 : decode cX11_isSmall 13 = .ok (.iaload, 1) := dAt (x := (13, .iaload, 1)) DX11_isSmall_0 7 rfl
theorem dX11_isSmall_14 : decode cX11_isSmall 14 = .ok (.bipush 97, 2) := dAt (x := (14, .bipush 97, 2)) DX11_isSmall_0 8 rfl
theorem dX11_isSmall_16 : decode cX11_isSmall 16 = .ok (.if_icmp .lt 18, 3) := dAt (x := (16, .if_icmp .lt 18, 3)) DX11_isSmall_0 9 rfl
theorem dX11_isSmall_19 : decode cX11_isSmall 19 = .ok (.aload_n 0, 1) := dAt (x := (19, .aload_n 0, 1)) DX11_isSmall_0 10 rfl
theorem dX11_isSmall_20 : decode cX11_isSmall 20 = .ok (.getfield 7, 3) := dAt (x := (20, .getfield 7, 3)) DX11_isSmall_0 11 rfl
theorem dX11_isSmall_23 : decode cX11_isSmall 23 = .ok (.iload_n 1, 1) := dAt (x := (23, .iload_n 1, 1)) DX11_isSmall_0 12 rfl
theorem dX11_isSmall_24 : decode cX11_isSmall 24 = .ok (.iaload, 1) := dAt (x := (24, .iaload, 1)) DX11_isSmall_0 13 rfl
theorem dX11_isSmall_25 : decode cX11_isSmall 25 = .ok (.bipush 122, 2) := dAt (x := (25, .bipush 122, 2)) DX11_isSmall_0 14 rfl
theorem dX11_isSmall_27 : decode cX11_isSmall 27 = .ok (.if_icmp .gt 7, 3) := dAt (x := (27, .if_icmp .gt 7, 3)) DX11_isSmall_0 15 rfl
theorem dX11_isSmall_30 : decode cX11_isSmall 30 = .ok (.iconst 1, 1) := dAt (x := (30, .iconst 1, 1)) DX11_isSmall_0 16 rfl
theorem dX11_isSmall_31 : decode cX11_isSmall 31 = .ok (.goto 4, 3) := dAt (x := (31, .goto 4, 3)) DX11_isSmall_0 17 rfl
theorem dX11_isSmall_34 : decode cX11_isSmall 34 = .ok (.iconst 0, 1) := dAt (x := (34, .iconst 0, 1)) DX11_isSmall_0 18 rfl
theorem dX11_isSmall_35 : decode cX11_isSmall 35 = .ok (.ireturn, 1) := dAt (x := (35, .ireturn, 1)) DX11_isSmall_0 19 rfl
def lDX11_isDigit_0 : List (Nat × Instr × Nat) := [(0, .iload_n 1, 1), (1, .aload_n 0, 1), (2, .getfield 172, 3), (5, .if_icmp .ge 29, 3), (8, .aload_n 0, 1), (9, .getfield 7, 3), (12, .iload_n 1, 1), (13, .iaload, 1), (14, .bipush 48, 2), (16, .if_icmp .lt 18, 3), (19, .aload_n 0, 1), (20, .getfield 7, 3), (23, .iload_n 1, 1), (24, .iaload, 1), (25, .bipush 57, 2), (27, .if_icmp .gt 7, 3), (30, .iconst 1, 1), (31, .goto 4, 3), (34, .iconst 0, 1), (35, .ireturn, 1)]
theorem DX11_isDigit_0 : dAll cX11_isDigit lDX11_isDigit_0 = true := by decide +kernel
theorem dX11_isDigit_0 : decode cX11_isDigit 0 = .ok (.iload_n 1, 1) := dAt (x := (0, .iload_n 1, 1)) DX11_isDigit_0 0 rfl
theorem dX11_isDigit_1 : decode cX11_isDigit 1 = .ok (.aload_n 0, 1) := dAt (x := (1, .aload_n 0, 1)) DX11_isDigit_0 1 rfl
theorem dX11_isDigit_2 : decode cX11_isDigit 2 = .ok (.getfield 172, 3) := dAt (x := (2, .getfield 172, 3)) DX11_isDigit_0 2 rfl
theorem dX11_isDigit_5 : decode cX11_isDigit 5 = .ok (.if_icmp .ge 29, 3) := dAt (x := (5, .if_icmp .ge 29, 3)) DX11_isDigit_0 3 rfl
theorem dX11_isDigit_8 : decode cX11_isDigit 8 = .ok (.aload_n 0, 1) := dAt (x := (8, .aload_n 0, 1)) DX11_isDigit_0 4 rfl
theorem dX11_isDigit_9 : decode cX11_isDigit 9 = .ok (.getfield 7, 3) := dAt (x := (9, .getfield 7, 3)) DX11_isDigit_0 5 rfl
theorem dX11_isDigit_12 : decode cX11_isDigit 12 = .ok (.iload_n 1, 1) := dAt (x := (12, .iload_n 1, 1)) DX11_isDigit_0 6 rfl
theorem dX11_isDigit_13 : decode cX11_isDigit 13 = .ok (.iaload, 1) := dAt (x := (13, .iaload, 1)) DX11_isDigit_0 7 rfl
theorem dX11_isDigit_14 : decode cX11_isDigit 14 = .ok (.bipush 48, 2) := dAt (x := (14, .bipush 48, 2)) DX11_isDigit_0 8 rfl
theorem dX11_isDigit_16 : decode cX11_isDigit 16 = .ok (.if_icmp .lt 18, 3) := dAt (x := (16, .if_icmp .lt 18, 3)) DX11_isDigit_0 9 rfl
theorem dX11_isDigit_19 : decode cX11_isDigit 19 = .ok (.aload_n 0, 1) := dAt (x := (19, .aload_n 0, 1)) DX11_isDigit_0 10 rfl
theorem dX11_isDigit_20 : decode cX11_isDigit 20 = .ok (.getfield 7, 3) := dAt (x := (20, .getfield 7, 3)) DX11_isDigit_0 11 rfl
theorem dX11_isDigit_23 : decode cX11_isDigit 23 = .ok (.iload_n 1, 1) := dAt (x := (23, .iload_n 1, 1)) DX11_isDigit_0 12 rfl
theorem dX11_isDigit_24 : decode cX11_isDigit 24 = .ok (.iaload, 1) := dAt (x := (24, .iaload, 1)) DX11_isDigit_0 13 rfl
theorem dX11_isDigit_25 : decode cX11_isDigit 25 = .ok (.bipush 57, 2) := dAt (x := (25, .bipush 57, 2)) DX11_isDigit_0 14 rfl
theorem dX11_isDigit_27 : decode cX11_isDigit 27 = .ok (.if_icmp .gt 7, 3) := dAt (x := (27, .if_icmp .gt 7, 3)) DX11_isDigit_0 15 rfl
theorem dX11_isDigit_30 : decode cX11_isDigit 30 = .ok (.iconst 1, 1) := dAt (x := (30, .iconst 1, 1)) DX11_isDigit_0 16 rfl
theorem dX11_isDigit_31 : decode cX11_isDigit 31 = .ok (.goto 4, 3) := dAt (x := (31, .goto 4, 3)) DX11_isDigit_0 17 rfl
theorem dX11_isDigit_34 : decode cX11_isDigit 34 = .ok (.iconst 0, 1) := dAt (x := (34, .iconst 0, 1)) DX11_isDigit_0 18 rfl
theorem dX11_isDigit_35 : decode cX11_isDigit 35 = .ok (.ireturn, 1) := dAt (x := (35, .ireturn, 1)) DX11_isDigit_0 19 rfl
def lDX11_token_0 : List (Nat × Instr × Nat) := [(0, .aload_n 0, 1), (1, .getfield 175, 3), (4, .aload_n 0, 1), (5, .getfield 172, 3), (8, .if_icmp .ge 44, 3), (11, .aload_n 0, 1), (12, .getfield 7, 3), (15, .aload_n 0, 1), (16, .getfield 175, 3), (19, .iaload, 1), (20, .bipush 10, 2), (22, .if_icmp .eq 17, 3), (25, .aload_n 0, 1), (26, .getfield 7, 3), (29, .aload_n 0, 1), (30, .getfield 175, 3), (33, .iaload, 1), (34, .bipush 32, 2), (36, .if_icmp .ne 16, 3), (39, .aload_n 0, 1), (40, .dup, 1), (41, .getfield 175, 3), (44, .iconst 1, 1), (45, .iadd, 1), (46, .putfield 175, 3), (49, .goto (-49), 3), (52, .aload_n 0, 1), (53, .aload_n 0, 1), (54, .getfield 175, 3), (57, .putfield 169, 3), (60, .aload_n 0, 1), (61, .getfield 175, 3), (64, .aload_n 0, 1), (65, .getfield 172, 3), (68, .if_icmp .ne 11, 3), (71, .aload_n 0, 1), (72, .iconst 0, 1), (73, .putfield 178, 3), (76, .goto 205, 3), (79, .aload_n 0, 1), (80, .aload_n 0, 1), (81, .getfield 175, 3), (84, .invokevirtual 181, 3), (87, .ifCond .eq 105, 3), (90, .aload_n 0, 1), (91, .aload_n 0, 1), (92, .getfield 175, 3), (95, .invokevirtual 181, 3), (98, .ifCond .eq 16, 3), (101, .aload_n 0, 1), (102, .dup, 1), (103, .getfield 175, 3), (106, .iconst 1, 1), (107, .iadd, 1), (108, .putfield 175, 3), (111, .goto (-21), 3), (114, .aload_n 0, 1), (115, .aload_n 0, 1), (116, .aload_n 0, 1), (117, .getfield 169, 3)]
theorem DX11_token_0 : dAll cX11_token lDX11_token_0 = true := by decide +kernel
theorem dX11_token_0 : decode cX11_token 0 = .ok (.aload_n 0, 1) := dAt (x := (0, .aload_n 0, 1)) DX11_token_0 0 rfl
theorem dX11_token_1 : decode cX11_token 1 = .ok (.getfield 175, 3) := dAt (x := (1, .getfield 175, 3)) DX11_token_0 1 rfl
theorem dX11_token_4 : decode cX11_token 4 = .ok (.aload_n 0, 1) := dAt (x := (4, .aload_n 0, 1)) DX11_token_0 2 rfl
theorem dX11_token_5 : decode cX11_token 5 = .ok (.getfield 172, 3) := dAt (x := (5, .getfield 172, 3)) DX11_token_0 3 rfl
theorem dX11_token_8 : decode cX11_token 8 = .ok (.if_icmp .ge 44, 3) := dAt (x := (8, .if_icmp .ge 44, 3)) DX11_token_0 4 rfl
theorem dX11_token_11 : decode cX11_token 11 = .ok (.aload_n 0, 1) := dAt (x := (11, .aload_n 0, 1)) DX11_token_0 5 rfl
theorem dX11_token_12 : decode cX11_token 12 = .ok (.getfield 7, 3) := dAt (x := (12, .getfield 7, 3)) DX11_token_0 6 rfl
theorem dX11_token_15 : decode cX11_token 15 = .ok (.aload_n 0, 1) := dAt (x := (15, .aload_n 0, 1)) DX11_token_0 7 rfl
theorem dX11_token_16 : decode cX11_token 16 = .ok (.getfield 175, 3) := dAt (x := (16, .getfield 175, 3)) DX11_token_0 8 rfl
theorem dX11_token_19 : decode cX11_token 19 = .ok (.iaload, 1) := dAt (x := (19, .iaload, 1)) DX11_token_0 9 rfl
theorem dX11_token_20 : decode cX11_token 20 = .ok (.bipush 10, 2) := dAt (x := (20, .bipush 10, 2)) DX11_token_0 10 rfl
theorem dX11_token_22 : decode cX11_token 22 = .ok (.if_icmp .eq 17, 3) := dAt (x := (22, .if_icmp .eq 17, 3)) DX11_token_0 11 rfl
theorem dX11_token_25 : decode cX11_token 25 = .ok (.aload_n 0, 1) := dAt (x := (25, .aload_n 0, 1)) DX11_token_0 12 rfl
theorem dX11_token_26 : decode cX11_token 26 = .ok (.getfield 7, 3) := dAt (x := (26, .getfield 7, 3)) DX11_token_0 13 rfl
theorem dX11_token_29 : decode cX11_token 29 = .ok (.aload_n 0, 1) := dAt (x := (29, .aload_n 0, 1)) DX11_token_0 14 rfl
theorem dX11_token_30 : decode cX11_token 30 = .ok (.getfield 175, 3) := dAt (x := (30, .getfield 175, 3)) DX11_token_0 15 rfl
theorem dX11_token_33 : decode cX11_token 33 = .ok (.iaload, 1) := dAt (x := (33, .iaload, 1)) DX11_token_0 16 rfl
theorem dX11_token_34 : decode cX11_token 34 = .ok (.bipush 32, 2) := dAt (x := (34, .bipush 32, 2)) DX11_token_0 17 rfl
theorem dX11_token_36 : decode cX11_token 36 = .ok (.if_icmp .ne 16, 3) := dAt (x := (36, .if_icmp .ne 16, 3)) DX11_token_0 18 rfl
theorem dX11_token_39 : decode cX11_token 39 = .ok (.aload_n 0, 1) := dAt (x := (39, .aload_n 0, 1)) DX11_token_0 19 rfl
theorem dX11_token_40 : decode cX11_token 40 = .ok (.dup, 1) := dAt (x := (40, .dup, 1)) DX11_token_0 20 rfl
theorem dX11_token_41 : decode cX11_token 41 = .ok (.getfield 175, 3) := dAt (x := (41, .getfield 175, 3)) DX11_token_0 21 rfl
theorem dX11_token_44 : decode cX11_token 44 = .ok (.iconst 1, 1) := dAt (x := (44, .iconst 1, 1)) DX11_token_0 22 rfl
theorem dX11_token_45 : decode cX11_token 45 = .ok (.iadd, 1) := dAt (x := (45, .iadd, 1)) DX11_token_0 23 rfl
theorem dX11_token_46 : decode cX11_token 46 = .ok (.putfield 175, 3) := dAt (x := (46, .putfield 175, 3)) DX11_token_0 24 rfl
theorem dX11_token_49 : decode cX11_token 49 = .ok (.goto (-49), 3) := dAt (x := (49, .goto (-49), 3)) DX11_token_0 25 rfl
theorem dX11_token_52 : decode cX11_token 52 = .ok (.aload_n 0, 1) := dAt (x := (52, .aload_n 0, 1)) DX11_token_0 26 rfl
theorem dX11_token_53 : decode cX11_token 53 = .ok (.aload_n 0, 1) := dAt (x := (53, .aload_n 0, 1)) DX11_token_0 27 rfl
theorem dX11_token_54 : decode cX11_token 54 = .ok (.getfield 175, 3) := dAt (x := (54, .getfield 175, 3)) DX11_token_0 28 rfl
theorem dX11_token_57 : decode cX11_token 57 = .ok (.putfield 169, 3) := dAt (x := (57, .putfield 169, 3)) DX11_token_0 29 rfl
theorem dX11_token_60 : decode cX11_token 60 = .ok (.aload_n 0, 1) := dAt (x := (60, .aload_n 0, 1)) DX11_token_0 30 rfl
theorem dX11_token_61 : decode cX11_token 61 = .ok (.getfield 175, 3) := dAt (x := (61, .getfield 175, 3)) DX11_token_0 31 rfl
theorem dX11_token_64 : decode cX11_token 64 = .ok (.aload_n 0, 1) := dAt (x := (64, .aload_n 0, 1)) DX11_token_0 32 rfl
theorem dX11_token_65 : decode cX11_token 65 = .ok (.getfield 172, 3) := dAt (x := (65, .getfield 172, 3)) DX11_token_0 33 rfl
theorem dX11_token_68 : decode cX11_token 68 = .ok (.if_icmp .ne 11, 3) := dAt (x := (68, .if_icmp .ne 11, 3)) DX11_token_0 34 rfl
theorem dX11_token_71 : decode cX11_token 71 = .ok (.aload_n 0, 1) := dAt (x := (71, .aload_n 0, 1)) DX11_token_0 35 rfl
theorem dX11_token_72 : decode cX11_token 72 = .ok (.iconst 0, 1) := dAt (x := (72, .iconst 0, 1)) DX11_token_0 36 rfl
theorem dX11_token_73 : decode cX11_token 73 = .ok (.putfield 178, 3) := dAt (x := (73, .putfield 178, 3)) DX11_token_0 37 rfl
theorem dX11_token_76 : decode cX11_token 76 = .ok (.goto 205, 3) := dAt (x := (76, .goto 205, 3)) DX11_token_0 38 rfl
theorem dX11_token_79 : decode cX11_token 79 = .ok (.aload_n 0, 1) := dAt (x := (79, .aload_n 0, 1)) DX11_token_0 39 rfl
theorem dX11_token_80 : decode cX11_token 80 = .ok (.aload_n 0, 1) := dAt (x := (80, .aload_n 0, 1)) DX11_token_0 40 rfl
theorem dX11_token_81 : decode cX11_token 81 = .ok (.getfield 175, 3) := dAt (x := (81, .getfield 175, 3)) DX11_token_0 41 rfl
theorem dX11_token_84 : decode cX11_token 84 = .ok (.invokevirtual 181, 3) := dAt (x := (84, .invokevirtual 181, 3)) DX11_token_0 42 rfl
theorem dX11_token_87 : decode cX11_token 87 = .ok (.ifCond .eq 105, 3) := dAt (x := (87, .ifCond .eq 105, 3)) DX11_token_0 43 rfl
theorem dX11_token_90 : decode cX11_token 90 = .ok (.aload_n 0, 1) := dAt (x := (90, .aload_n 0, 1)) DX11_token_0 44 rfl
theorem dX11_token_91 : decode cX11_token 91 = .ok (.aload_n 0, 1) := dAt (x := (91, .aload_n 0, 1)) DX11_token_0 45 rfl
theorem dX11_token_92 : decode cX11_token 92 = .ok (.getfield 175, 3) := dAt (x := (92, .getfield 175, 3)) DX11_token_0 46 rfl
theorem dX11_token_95 : decode cX11_token 95 = .ok (.invokevirtual 181, 3) := dAt (x := (95, .invokevirtual 181, 3)) DX11_token_0 47 rfl
theorem dX11_token_98 : decode cX11_token 98 = .ok (.ifCond .eq 16, 3) := dAt (x := (98, .ifCond .eq 16, 3)) DX11_token_0 48 rfl
theorem dX11_token_101 : decode cX11_token 101 = .ok (.aload_n 0, 1) := dAt (x := (101, .aload_n 0, 1)) DX11_token_0 49 rfl
theorem dX11_token_102 : decode cX11_token 102 = .ok (.dup, 1) := dAt (x := (102, .dup, 1)) DX11_token_0 50 rfl
theorem dX11_token_103 : decode cX11_token 103 = .ok (.getfield 175, 3) := dAt (x := (103, .getfield 175, 3)) DX11_token_0 51 rfl
theorem dX11_token_106 : decode cX11_token 106 = .ok (.iconst 1, 1) := dAt (x := (106, .iconst 1, 1)) DX11_token_0 52 rfl
theorem dX11_token_107 : decode cX11_token 107 = .ok (.iadd, 1) := dAt (x := (107, .iadd, 1)) DX11_token_0 53 rfl
theorem dX11_token_108 : decode cX11_token 108 = .ok (.putfield 175, 3) := dAt (x := (108, .putfield 175, 3)) DX11_token_0 54 rfl
theorem dX11_token_111 : decode cX11_token 111 = .ok (.goto (-21), 3) := dAt (x := (111, .goto (-21), 3)) DX11_token_0 55 rfl
theorem dX11_token_114 : decode cX11_token 114 = .ok (.aload_n 0, 1) := dAt (x := (114, .aload_n 0, 1)) DX11_token_0 56 rfl
theorem dX11_token_115 : decode cX11_token 115 = .ok (.aload_n 0, 1) := dAt (x := (115, .aload_n 0, 1)) DX11_token_0 57 rfl
theorem dX11_token_116 : decode cX11_token 116 = .ok (.aload_n 0, 1) := dAt (x := (116, .aload_n 0, 1)) DX11_token_0 58 rfl
theorem dX11_token_117 : decode cX11_token 117 = .ok (.getfield 169, 3) := dAt (x := (117, .getfield 169, 3)) DX11_token_0 59 rfl
def lDX11_token_1 : List (Nat × Instr × Nat) := [(120, .aload_n 0, 1), (121, .getfield 175, 3), (124, .invokevirtual 185, 3), (127, .putfield 189, 3), (130, .aload_n 0, 1), (131, .aload_n 0, 1), (132, .getfield 189, 3), (135, .ifCond .lt 7, 3), (138, .iconst 1, 1), (139, .goto 23, 3), (142, .aload_n 0, 1), (143, .getfield 175, 3), (146, .aload_n 0, 1), (147, .getfield 169, 3), (150, .isub, 1), (151, .bipush 6, 2), (153, .if_icmp .le 8, 3), (156, .bipush 6, 2), (158, .goto 4, 3), (161, .iconst 2, 1), (162, .putfield 178, 3), (165, .aload_n 0, 1), (166, .getfield 178, 3), (169, .iconst 2, 1), (170, .if_icmp .ne 111, 3), (173, .aload_n 0, 1), (174, .aload_n 0, 1), (175, .aload_n 0, 1), (176, .getfield 169, 3), (179, .aload_n 0, 1), (180, .getfield 175, 3), (183, .invokevirtual 192, 3), (186, .putfield 189, 3), (189, .goto 92, 3), (192, .aload_n 0, 1), (193, .aload_n 0, 1), (194, .getfield 175, 3), (197, .invokevirtual 195, 3), (200, .ifCond .eq 77, 3), (203, .aload_n 0, 1), (204, .iconst 3, 1), (205, .putfield 178, 3), (208, .aload_n 0, 1), (209, .iconst 0, 1), (210, .putfield 189, 3), (213, .aload_n 0, 1), (214, .aload_n 0, 1), (215, .getfield 175, 3), (218, .invokevirtual 195, 3), (221, .ifCond .eq 60, 3), (224, .aload_n 0, 1), (225, .aload_n 0, 1), (226, .getfield 189, 3), (229, .ldc 198, 2), (231, .if_icmp .le 10, 3), (234, .aload_n 0, 1), (235, .getfield 189, 3), (238, .goto 23, 3), (241, .bipush 10, 2), (243, .aload_n 0, 1)]
theorem DX11_token_1 : dAll cX11_token lDX11_token_1 = true := by decide +kernel
theorem dX11_token_120 : decode cX11_token 120 = .ok (.aload_n 0, 1) := dAt (x := (120, .aload_n 0, 1)) DX11_token_1 0 rfl
theorem dX11_token_121 : decode cX11_token 121 = .ok (.getfield 175, 3) := dAt (x := (121, .getfield 175, 3)) DX11_token_1 1 rfl
theorem dX11_token_124 : decode cX11_token 124 = .ok (.invokevirtual 185, 3) := dAt (x := (124, .invokevirtual 185, 3)) DX11_token_1 2 rfl
theorem dX11_token_127 : decode cX11_token 127 = .ok (.putfield 189, 3) := dAt (x := (127, .putfield 189, 3)) DX11_token_1 3 rfl
theorem dX11_token_130 : decode cX11_token 130 = .ok (.aload_n 0, 1) := dAt (x := (130, .aload_n 0, 1)) DX11_token_1 4 rfl
theorem dX11_token_131 : decode cX11_token 131 = .ok (.aload_n 0, 1) := dAt (x := (131, .aload_n 0, 1)) DX11_token_1 5 rfl
theorem dX11_token_132 : decode cX11_token 132 = .ok (.getfield 189, 3) := dAt (x := (132, .getfield 189, 3)) DX11_token_1 6 rfl
theorem dX11_token_135 : decode cX11_token 135 = .ok (.ifCond .lt 7, 3) := dAt (x := (135, .ifCond .lt 7, 3)) DX11_token_1 7 rfl
theorem dX11_token_138 : decode cX11_token 138 = .ok (.iconst 1, 1) := dAt (x := (138, .iconst 1, 1)) DX11_token_1 8 rfl
theorem dX11_token_139 : decode cX11_token 139 = .ok (.goto 23, 3) := dAt (x := (139, .goto 23, 3)) DX11_token_1 9 rfl
theorem dX11_token_142 : decode cX11_token 142 = .ok (.aload_n 0, 1) := dAt (x := (142, .aload_n 0, 1)) DX11_token_1 10 rfl
theorem dX11_token_143 : decode cX11_token 143 = .ok (.getfield 175, 3) := dAt (x := (143, .getfield 175, 3)) DX11_token_1 11 rfl
theorem dX11_token_146 : decode cX11_token 146 = .ok (.aload_n 0, 1) := dAt (x := (146, .aload_n 0, 1)) DX11_token_1 12 rfl
theorem dX11_token_147 : decode cX11_token 147 = .ok (.getfield 169, 3) := dAt (x := (147, .getfield 169, 3)) DX11_token_1 13 rfl
theorem dX11_token_150 : decode cX11_token 150 = .ok (.isub, 1) := dAt (x := (150, .isub, 1)) DX11_token_1 14 rfl
theorem dX11_token_151 : decode cX11_token 151 = .ok (.bipush 6, 2) := dAt (x := (151, .bipush 6, 2)) DX11_token_1 15 rfl
theorem dX11_token_153 : decode cX11_token 153 = .ok (.if_icmp .le 8, 3) := dAt (x := (153, .if_icmp .le 8, 3)) DX11_token_1 16 rfl
theorem dX11_token_156 : decode cX11_token 156 = .ok (.bipush 6, 2) := dAt (x := (156, .bipush 6, 2)) DX11_token_1 17 rfl
theorem dX11_token_158 : decode cX11_token 158 = .ok (.goto 4, 3) := dAt (x := (158, .goto 4, 3)) DX11_token_1 18 rfl
theorem dX11_token_161 : decode cX11_token 161 = .ok (.iconst 2, 1) := dAt (x := (161, .iconst 2, 1)) DX11_token_1 19 rfl
theorem dX11_token_162 : decode cX11_token 162 = .ok (.putfield 178, 3) := dAt (x := (162, .putfield 178, 3)) DX11_token_1 20 rfl
theorem dX11_token_165 : decode cX11_token 165 = .ok (.aload_n 0, 1) := dAt (x := (165, .aload_n 0, 1)) DX11_token_1 21 rfl
theorem dX11_token_166 : decode cX11_token 166 = .ok (.getfield 178, 3) := dAt (x := (166, .getfield 178, 3)) DX11_token_1 22 rfl
theorem dX11_token_169 : decode cX11_token 169 = .ok (.iconst 2, 1) := dAt (x := (169, .iconst 2, 1)) DX11_token_1 23 rfl
theorem dX11_token_170 : decode cX11_token 170 = .ok (.if_icmp .ne 111, 3) := dAt (x := (170, .if_icmp .ne 111, 3)) DX11_token_1 24 rfl
theorem dX11_token_173 : decode cX11_token 173 = .ok (.aload_n 0, 1) := dAt (x := (173, .aload_n 0, 1)) DX11_token_1 25 rfl
theorem dX11_token_174 : decode cX11_token 174 = .ok (.aload_n 0, 1) := dAt (x := (174, .aload_n 0, 1)) DX11_token_1 26 rfl
theorem dX11_token_175 : decode cX11_token 175 = .ok (.aload_n 0, 1) := dAt (x := (175, .aload_n 0, 1)) DX11_token_1 27 rfl
theorem dX11_token_176 : decode cX11_token 176 = .ok (.getfield 169, 3) := dAt (x := (176, .getfield 169, 3)) DX11_token_1 28 rfl
theorem dX11_token_179 : decode cX11_token 179 = .ok (.aload_n 0, 1) := dAt (x := (179, .aload_n 0, 1)) DX11_token_1 29 rfl
theorem dX11_token_180 : decode cX11_token 180 = .ok (.getfield 175, 3) := dAt (x := (180, .getfield 175, 3)) DX11_token_1 30 rfl
theorem dX11_token_183 : decode cX11_token 183 = .ok (.invokevirtual 192, 3) := dAt (x := (183, .invokevirtual 192, 3)) DX11_token_1 31 rfl
theorem dX11_token_186 : decode cX11_token 186 = .ok (.putfield 189, 3) := dAt (x := (186, .putfield 189, 3)) DX11_token_1 32 rfl
theorem dX11_token_189 : decode cX11_token 189 = .ok (.goto 92, 3) := dAt (x := (189, .goto 92, 3)) DX11_token_1 33 rfl
theorem dX11_token_192 : decode cX11_token 192 = .ok (.aload_n 0, 1) := dAt (x := (192, .aload_n 0, 1)) DX11_token_1 34 rfl
theorem dX11_token_193 : decode cX11_token 193 = .ok (.aload_n 0, 1) := dAt (x := (193, .aload_n 0, 1)) DX11_token_1 35 rfl
theorem dX11_token_194 : decode cX11_token 194 = .ok (.getfield 175, 3) := dAt (x := (194, .getfield 175, 3)) DX11_token_1 36 rfl
theorem dX11_token_197 : decode cX11_token 197 = .ok (.invokevirtual 195, 3) := dAt (x := (197, .invokevirtual 195, 3)) DX11_token_1 37 rfl
theorem dX11_token_200 : decode cX11_token 200 = .ok (.ifCond .eq 77, 3) := dAt (x := (200, .ifCond .eq 77, 3)) DX11_token_1 38 rfl
theorem dX11_token_203 : decode cX11_token 203 = .ok (.aload_n 0, 1) := dAt (x := (203, .aload_n 0, 1)) DX11_token_1 39 rfl
theorem dX11_token_204 : decode cX11_token 204 = .ok (.iconst 3, 1) := dAt (x := (204, .iconst 3, 1)) DX11_token_1 40 rfl
theorem dX11_token_205 : decode cX11_token 205 = .ok (.putfield 178, 3) := dAt (x := (205, .putfield 178, 3)) DX11_token_1 41 rfl
theorem dX11_token_208 : decode cX11_token 208 = .ok (.aload_n 0, 1) := dAt (x := (208, .aload_n 0, 1)) DX11_token_1 42 rfl
theorem dX11_token_209 : decode cX11_token 209 = .ok (.iconst 0, 1) := dAt (x := (209, .iconst 0, 1)) DX11_token_1 43 rfl
theorem dX11_token_210 : decode cX11_token 210 = .ok (.putfield 189, 3) := dAt (x := (210, .putfield 189, 3)) DX11_token_1 44 rfl
theorem dX11_token_213 : decode cX11_token 213 = .ok (.aload_n 0, 1) := dAt (x := (213, .aload_n 0, 1)) DX11_token_1 45 rfl
theorem dX11_token_214 : decode cX11_token 214 = .ok (.aload_n 0, 1) := dAt (x := (214, .aload_n 0, 1)) DX11_token_1 46 rfl
theorem dX11_token_215 : decode cX11_token 215 = .ok (.getfield 175, 3) := dAt (x := (215, .getfield 175, 3)) DX11_token_1 47 rfl
theorem dX11_token_218 : decode cX11_token 218 = .ok (.invokevirtual 195, 3) := dAt (x := (218, .invokevirtual 195, 3)) DX11_token_1 48 rfl
theorem dX11_token_221 : decode cX11_token 221 = .ok (.ifCond .eq 60, 3) := dAt (x := (221, .ifCond .eq 60, 3)) DX11_token_1 49 rfl
theorem dX11_token_224 : decode cX11_token 224 = .ok (.aload_n 0, 1) := dAt (x := (224, .aload_n 0, 1)) DX11_token_1 50 rfl
theorem dX11_token_225 : decode cX11_token 225 = .ok (.aload_n 0, 1) := dAt (x := (225, .aload_n 0, 1)) DX11_token_1 51 rfl
theorem dX11_token_226 : decode cX11_token 226 = .ok (.getfield 189, 3) := dAt (x := (226, .getfield 189, 3)) DX11_token_1 52 rfl
theorem dX11_token_229 : decode cX11_token 229 = .ok (.ldc 198, 2) := dAt (x := (229, .ldc 198, 2)) DX11_token_1 53 rfl
theorem dX11_token_231 : decode cX11_token 231 = .ok (.if_icmp .le 10, 3) := dAt (x := (231, .if_icmp .le 10, 3)) DX11_token_1 54 rfl
theorem dX11_token_234 : decode cX11_token 234 = .ok (.aload_n 0, 1) := dAt (x := (234, .aload_n 0, 1)) DX11_token_1 55 rfl
theorem dX11_token_235 : decode cX11_token 235 = .ok (.getfield 189, 3) := dAt (x := (235, .getfield 189, 3)) DX11_token_1 56 rfl
theorem dX11_token_238 : decode cX11_token 238 = .ok (.goto 23, 3) := dAt (x := (238, .goto 23, 3)) DX11_token_1 57 rfl
theorem dX11_token_241 : decode cX11_token 241 = .ok (.bipush 10, 2) := dAt (x := (241, .bipush 10, 2)) DX11_token_1 58 rfl
theorem dX11_token_243 : decode cX11_token 243 = .ok (.aload_n 0, 1) := dAt (x := (243, .aload_n 0, 1)) DX11_token_1 59 rfl
def lDX11_token_2 : List (Nat × Instr × Nat) := [(244, .getfield 189, 3), (247, .imul, 1), (248, .aload_n 0, 1), (249, .getfield 7, 3), (252, .aload_n 0, 1), (253, .getfield 175, 3), (256, .iaload, 1), (257, .iadd, 1), (258, .bipush 48, 2), (260, .isub, 1), (261, .putfield 189, 3), (264, .aload_n 0, 1), (265, .dup, 1), (266, .getfield 175, 3), (269, .iconst 1, 1), (270, .iadd, 1), (271, .putfield 175, 3), (274, .goto (-61), 3), (277, .aload_n 0, 1), (278, .invokevirtual 199, 3), (281, .return_, 1)]
theorem DX11_token_2 : dAll cX11_token lDX11_token_2 = true := by decide +kernel
theorem dX11_token_244 : decode cX11_token 244 = .ok (.getfield 189, 3) := dAt (x := (244, .getfield 189, 3)) DX11_token_2 0 rfl
theorem dX11_token_247 : decode cX11_token 247 = .ok (.imul, 1) := dAt (x := (247, .imul, 1)) DX11_token_2 1 rfl
theorem dX11_token_248 : decode cX11_token 248 = .ok (.aload_n 0, 1) := dAt (x := (248, .aload_n 0, 1)) DX11_token_2 2 rfl
theorem dX11_token_249 : decode cX11_token 249 = .ok (.getfield 7, 3) := dAt (x := (249, .getfield 7, 3)) DX11_token_2 3 rfl
theorem dX11_token_252 : decode cX11_token 252 = .ok (.aload_n 0, 1) := dAt (x := (252, .aload_n 0, 1)) DX11_token_2 4 rfl
theorem dX11_token_253 : decode cX11_token 253 = .ok (.getfield 175, 3) := dAt (x := (253, .getfield 175, 3)) DX11_token_2 5 rfl
theorem dX11_token_256 : decode cX11_token 256 = .ok (.iaload, 1) := dAt (x := (256, .iaload, 1)) DX11_token_2 6 rfl
theorem dX11_token_257 : decode cX11_token 257 = .ok (.iadd, 1) := dAt (x := (257, .iadd, 1)) DX11_token_2 7 rfl
theorem dX11_token_258 : decode cX11_token 258 = .ok (.bipush 48, 2) := dAt (x := (258, .bipush 48, 2)) DX11_token_2 8 rfl
theorem dX11_token_260 : decode cX11_token 260 = .ok (.isub, 1) := dAt (x := (260, .isub, 1)) DX11_token_2 9 rfl
theorem dX11_token_261 : decode cX11_token 261 = .ok (.putfield 189, 3) := dAt (x := (261, .putfield 189, 3)) DX11_token_2 10 rfl
theorem dX11_token_264 : decode cX11_token 264 = .ok (.aload_n 0, 1) := dAt (x := (264, .aload_n 0, 1)) DX11_token_2 11 rfl
theorem dX11_token_265 : decode cX11_token 265 = .ok (.dup, 1) := dAt (x := (265, .dup, 1)) DX11_token_2 12 rfl
theorem dX11_token_266 : decode cX11_token 266 = .ok (.getfield 175, 3) := dAt (x := (266, .getfield 175, 3)) DX11_token_2 13 rfl
theorem dX11_token_269 : decode cX11_token 269 = .ok (.iconst 1, 1) := dAt (x := (269, .iconst 1, 1)) DX11_token_2 14 rfl
theorem dX11_token_270 : decode cX11_token 270 = .ok (.iadd, 1) := dAt (x := (270, .iadd, 1)) DX11_token_2 15 rfl
theorem dX11_token_271 : decode cX11_token 271 = .ok (.putfield 175, 3) := dAt (x := (271, .putfield 175, 3)) DX11_token_2 16 rfl
theorem dX11_token_274 : decode cX11_token 274 = .ok (.goto (-61), 3) := dAt (x := (274, .goto (-61), 3)) DX11_token_2 17 rfl
theorem dX11_token_277 : decode cX11_token 277 = .ok (.aload_n 0, 1) := dAt (x := (277, .aload_n 0, 1)) DX11_token_2 18 rfl
theorem dX11_token_278 : decode cX11_token 278 = .ok (.invokevirtual 199, 3) := dAt (x := (278, .invokevirtual 199, 3)) DX11_token_2 19 rfl
theorem dX11_token_281 : decode cX11_token 281 = .ok (.return_, 1) := dAt (x := (281, .return_, 1)) DX11_token_2 20 rfl
def lDX11_signToken_0 : List (Nat × Instr × Nat) := [(0, .aload_n 0, 1), (1, .aload_n 0, 1), (2, .getfield 7, 3), (5, .aload_n 0, 1), (6, .getfield 175, 3), (9, .iaload, 1), (10, .putfield 189, 3), (13, .aload_n 0, 1), (14, .dup, 1), (15, .getfield 175, 3), (18, .iconst 1, 1), (19, .iadd, 1), (20, .putfield 175, 3), (23, .aload_n 0, 1), (24, .getfield 189, 3), (27, .bipush 60, 2), (29, .if_icmp .eq 21, 3), (32, .aload_n 0, 1), (33, .getfield 189, 3), (36, .bipush 62, 2), (38, .if_icmp .eq 12, 3), (41, .aload_n 0, 1), (42, .getfield 189, 3), (45, .bipush 61, 2), (47, .if_icmp .ne 151, 3), (50, .aload_n 0, 1), (51, .getfield 175, 3), (54, .aload_n 0, 1), (55, .getfield 172, 3), (58, .if_icmp .ge 15, 3), (61, .aload_n 0, 1), (62, .getfield 7, 3), (65, .aload_n 0, 1), (66, .getfield 175, 3), (69, .iaload, 1), (70, .goto 4, 3), (73, .iconst 0, 1), (74, .istore_n 1, 1), (75, .aload_n 0, 1), (76, .getfield 189, 3), (79, .bipush 61, 2), (81, .if_icmp .eq 13, 3), (84, .iload_n 1, 1), (85, .bipush 61, 2), (87, .if_icmp .ne 7, 3), (90, .iconst 1, 1), (91, .goto 4, 3), (94, .iconst 0, 1), (95, .istore_n 2, 1), (96, .aload_n 0, 1), (97, .getfield 189, 3), (100, .bipush 60, 2), (102, .if_icmp .ne 13, 3), (105, .iload_n 1, 1), (106, .bipush 62, 2), (108, .if_icmp .ne 7, 3), (111, .iconst 1, 1), (112, .goto 4, 3), (115, .iconst 0, 1), (116, .istore_n 3, 1)]
theorem DX11_signToken_0 : dAll cX11_signToken lDX11_signToken_0 = true := by decide +kernel
theorem dX11_signToken_0 : decode cX11_signToken 0 = .ok (.aload_n 0, 1) := dAt (x := (0, .aload_n 0, 1)) DX11_signToken_0 0 rfl
theorem dX11_signToken_1 : decode cX11_signToken 1 = .ok (.aload_n 0, 1) := dAt (x := (1, .aload_n 0, 1)) DX11_signToken_0 1 rfl
theorem dX11_signToken_2 : decode cX11_signToken 2 = .ok (.getfield 7, 3) := dAt (x := (2, .getfield 7, 3)) DX11_signToken_0 2 rfl
theorem dX11_signToken_5 : decode cX11_signToken 5 = .ok (.aload_n 0, 1) := dAt (x := (5, .aload_n 0, 1)) DX11_signToken_0 3 rfl
theorem dX11_signToken_6 : decode cX11_signToken 6 = .ok (.getfield 175, 3) := dAt (x := (6, .getfield 175, 3)) DX11_signToken_0 4 rfl
theorem dX11_signToken_9 : decode cX11_signToken 9 = .ok (.iaload, 1) := dAt (x := (9, .iaload, 1)) DX11_signToken_0 5 rfl
theorem dX11_signToken_10 : decode cX11_signToken 10 = .ok (.putfield 189, 3) := dAt (x := (10, .putfield 189, 3)) DX11_signToken_0 6 rfl
theorem dX11_signToken_13 : decode cX11_signToken 13 = .ok (.aload_n 0, 1) := dAt (x := (13, .aload_n 0, 1)) DX11_signToken_0 7 rfl
theorem dX11_signToken_14 : decode cX11_signToken 14 = .ok (.dup, 1) := dAt (x := (14, .dup, 1)) DX11_signToken_0 8 rfl
theorem dX11_signToken_15 : decode cX11_signToken 15 = .ok (.getfield 175, 3) := dAt (x := (15, .getfield 175, 3)) DX11_signToken_0 9 rfl
theorem dX11_signToken_18 : decode cX11_signToken 18 = .ok (.iconst 1, 1) := dAt (x := (18, .iconst 1, 1)) DX11_signToken_0 10 rfl
theorem dX11_signToken_19 : decode cX11_signToken 19 = .ok (.iadd, 1) := dAt (x := (19, .iadd, 1)) DX11_signToken_0 11 rfl
theorem dX11_signToken_20 : decode cX11_signToken 20 = .ok (.putfield 175, 3) := dAt (x := (20, .putfield 175, 3)) DX11_signToken_0 12 rfl
theorem dX11_signToken_23 : decode cX11_signToken 23 = .ok (.aload_n 0, 1) := dAt (x := (23, .aload_n 0, 1)) DX11_signToken_0 13 rfl
theorem dX11_signToken_24 : decode cX11_signToken 24 = .ok (.getfield 189, 3) := dAt (x := (24, .getfield 189, 3)) DX11_signToken_0 14 rfl
theorem dX11_signToken_27 : decode cX11_signToken 27 = .ok (.bipush 60, 2) := dAt (x := (27, .bipush 60, 2)) DX11_signToken_0 15 rfl
theorem dX11_signToken_29 : decode cX11_signToken 29 = .ok (.if_icmp .eq 21, 3) := dAt (x := (29, .if_icmp .eq 21, 3)) DX11_signToken_0 16 rfl
theorem dX11_signToken_32 : decode cX11_signToken 32 = .ok (.aload_n 0, 1) := dAt (x := (32, .aload_n 0, 1)) DX11_signToken_0 17 rfl
theorem dX11_signToken_33 : decode cX11_signToken 33 = .ok (.getfield 189, 3) := dAt (x := (33, .getfield 189, 3)) DX11_signToken_0 18 rfl
theorem dX11_signToken_36 : decode cX11_signToken 36 = .ok (.bipush 62, 2) := dAt (x := (36, .bipush 62, 2)) DX11_signToken_0 19 rfl
theorem dX11_signToken_38 : decode cX11_signToken 38 = .ok (.if_icmp .eq 12, 3) := dAt (x := (38, .if_icmp .eq 12, 3)) DX11_signToken_0 20 rfl
theorem dX11_signToken_41 : decode cX11_signToken 41 = .ok (.aload_n 0, 1) := dAt (x := (41, .aload_n 0, 1)) DX11_signToken_0 21 rfl
theorem dX11_signToken_42 : decode cX11_signToken 42 = .ok (.getfield 189, 3) := dAt (x := (42, .getfield 189, 3)) DX11_signToken_0 22 rfl
theorem dX11_signToken_45 : decode cX11_signToken 45 = .ok (.bipush 61, 2) := dAt (x := (45, .bipush 61, 2)) DX11_signToken_0 23 rfl
theorem dX11_signToken_47 : decode cX11_signToken 47 = .ok (.if_icmp .ne 151, 3) := dAt (x := (47, .if_icmp .ne 151, 3)) DX11_signToken_0 24 rfl
theorem dX11_signToken_50 : decode cX11_signToken 50 = .ok (.aload_n 0, 1) := dAt (x := (50, .aload_n 0, 1)) DX11_signToken_0 25 rfl
theorem dX11_signToken_51 : decode cX11_signToken 51 = .ok (.getfield 175, 3) := dAt (x := (51, .getfield 175, 3)) DX11_signToken_0 26 rfl
theorem dX11_signToken_54 : decode cX11_signToken 54 = .ok (.aload_n 0, 1) := dAt (x := (54, .aload_n 0, 1)) DX11_signToken_0 27 rfl
theorem dX11_signToken_55 : decode cX11_signToken 55 = .ok (.getfield 172, 3) := dAt (x := (55, .getfield 172, 3)) DX11_signToken_0 28 rfl
theorem dX11_signToken_58 : decode cX11_signToken 58 = .ok (.if_icmp .ge 15, 3) := dAt (x := (58, .if_icmp .ge 15, 3)) DX11_signToken_0 29 rfl
theorem dX11_signToken_61 : decode cX11_signToken 61 = .ok (.aload_n 0, 1) := dAt (x := (61, .aload_n 0, 1)) DX11_signToken_0 30 rfl
theorem dX11_signToken_62 : decode cX11_signToken 62 = .ok (.getfield 7, 3) := dAt (x := (62, .getfield 7, 3)) DX11_signToken_0 31 rfl
theorem dX11_signToken_65 : decode cX11_signToken 65 = .ok (.aload_n 0, 1) := dAt (x := (65, .aload_n 0, 1)) DX11_signToken_0 32 rfl
theorem dX11_signToken_66 : decode cX11_signToken 66 = .ok (.getfield 175, 3) := dAt (x := (66, .getfield 175, 3)) DX11_signToken_0 33 rfl
theorem dX11_signToken_69 : decode cX11_signToken 69 = .ok (.iaload, 1) := dAt (x := (69, .iaload, 1)) DX11_signToken_0 34 rfl
theorem dX11_signToken_70 : decode cX11_signToken 70 = .ok (.goto 4, 3) := dAt (x := (70, .goto 4, 3)) DX11_signToken_0 35 rfl
theorem dX11_signToken_73 : decode cX11_signToken 73 = .ok (.iconst 0, 1) := dAt (x := (73, .iconst 0, 1)) DX11_signToken_0 36 rfl
theorem dX11_signToken_74 : decode cX11_signToken 74 = .ok (.istore_n 1, 1) := dAt (x := (74, .istore_n 1, 1)) DX11_signToken_0 37 rfl
theorem dX11_signToken_75 : decode cX11_signToken 75 = .ok (.aload_n 0, 1) := dAt (x := (75, .aload_n 0, 1)) DX11_signToken_0 38 rfl
theorem dX11_signToken_76 : decode cX11_signToken 76 = .ok (.getfield 189, 3) := dAt (x := (76, .getfield 189, 3)) DX11_signToken_0 39 rfl
theorem dX11_signToken_79 : decode cX11_signToken 79 = .ok (.bipush 61, 2) := dAt (x := (79, .bipush 61, 2)) DX11_signToken_0 40 rfl
theorem dX11_signToken_81 : decode cX11_signToken 81 = .ok (.if_icmp .eq 13, 3) := dAt (x := (81, .if_icmp .eq 13, 3)) DX11_signToken_0 41 rfl
theorem dX11_signToken_84 : decode cX11_signToken 84 = .ok (.iload_n 1, 1) := dAt (x := (84, .iload_n 1, 1)) DX11_signToken_0 42 rfl
theorem dX11_signToken_85 : decode cX11_signToken 85 = .ok (.bipush 61, 2) := dAt (x := (85, .bipush 61, 2)) DX11_signToken_0 43 rfl
theorem dX11_signToken_87 : decode cX11_signToken 87 = .ok (.if_icmp .ne 7, 3) := dAt (x := (87, .if_icmp .ne 7, 3)) DX11_signToken_0 44 rfl
theorem dX11_signToken_90 : decode cX11_signToken 90 = .ok (.iconst 1, 1) := dAt (x := (90, .iconst 1, 1)) DX11_signToken_0 45 rfl
theorem dX11_signToken_91 : decode cX11_signToken 91 = .ok (.goto 4, 3) := dAt (x := (91, .goto 4, 3)) DX11_signToken_0 46 rfl
theorem dX11_signToken_94 : decode cX11_signToken 94 = .ok (.iconst 0, 1) := dAt (x := (94, .iconst 0, 1)) DX11_signToken_0 47 rfl
theorem dX11_signToken_95 : decode cX11_signToken 95 = .ok (.istore_n 2, 1) := dAt (x := (95, .istore_n 2, 1)) DX11_signToken_0 48 rfl
theorem dX11_signToken_96 : decode cX11_signToken 96 = .ok (.aload_n 0, 1) := dAt (x := (96, .aload_n 0, 1)) DX11_signToken_0 49 rfl
theorem dX11_signToken_97 : decode cX11_signToken 97 = .ok (.getfield 189, 3) := dAt (x := (97, .getfield 189, 3)) DX11_signToken_0 50 rfl
theorem dX11_signToken_100 : decode cX11_signToken 100 = .ok (.bipush 60, 2) := dAt (x := (100, .bipush 60, 2)) DX11_signToken_0 51 rfl
theorem dX11_signToken_102 : decode cX11_signToken 102 = .ok (.if_icmp .ne 13, 3) := dAt (x := (102, .if_icmp .ne 13, 3)) DX11_signToken_0 52 rfl
theorem dX11_signToken_105 : decode cX11_signToken 105 = .ok (.iload_n 1, 1) := dAt (x := (105, .iload_n 1, 1)) DX11_signToken_0 53 rfl
theorem dX11_signToken_106 : decode cX11_signToken 106 = .ok (.bipush 62, 2) := dAt (x := (106, .bipush 62, 2)) DX11_signToken_0 54 rfl
theorem dX11_signToken_108 : decode cX11_signToken 108 = .ok (.if_icmp .ne 7, 3) := dAt (x := (108, .if_icmp .ne 7, 3)) DX11_signToken_0 55 rfl
theorem dX11_signToken_111 : decode cX11_signToken 111 = .ok (.iconst 1, 1) := dAt (x := (111, .iconst 1, 1)) DX11_signToken_0 56 rfl
theorem dX11_signToken_112 : decode cX11_signToken 112 = .ok (.goto 4, 3) := dAt (x := (112, .goto 4, 3)) DX11_signToken_0 57 rfl
theorem dX11_signToken_115 : decode cX11_signToken 115 = .ok (.iconst 0, 1) := dAt (x := (115, .iconst 0, 1)) DX11_signToken_0 58 rfl
theorem dX11_signToken_116 : decode cX11_signToken 116 = .ok (.istore_n 3, 1) := dAt (x := (116, .istore_n 3, 1)) DX11_signToken_0 59 rfl
def lDX11_signToken_1 : List (Nat × Instr × Nat) := [(117, .iload_n 2, 1), (118, .ifCond .ne 7, 3), (121, .iload_n 3, 1), (122, .ifCond .eq 13, 3), (125, .aload_n 0, 1), (126, .dup, 1), (127, .getfield 175, 3), (130, .iconst 1, 1), (131, .iadd, 1), (132, .putfield 175, 3), (135, .aload_n 0, 1), (136, .iconst 5, 1), (137, .putfield 178, 3), (140, .aload_n 0, 1), (141, .aload_n 0, 1), (142, .getfield 189, 3), (145, .bipush 61, 2), (147, .if_icmp .ne 7, 3), (150, .iconst 2, 1), (151, .goto 41, 3), (154, .aload_n 0, 1), (155, .getfield 189, 3), (158, .bipush 60, 2), (160, .if_icmp .ne 23, 3), (163, .iload_n 2, 1), (164, .ifCond .eq 7, 3), (167, .iconst 1, 1), (168, .goto 24, 3), (171, .iload_n 3, 1), (172, .ifCond .eq 7, 3), (175, .iconst 3, 1), (176, .goto 16, 3), (179, .iconst 0, 1), (180, .goto 12, 3), (183, .iload_n 2, 1), (184, .ifCond .eq 7, 3), (187, .iconst 4, 1), (188, .goto 4, 3), (191, .iconst 5, 1), (192, .putfield 189, 3), (195, .goto 95, 3), (198, .aload_n 0, 1), (199, .getfield 189, 3), (202, .bipush 59, 2), (204, .if_icmp .eq 66, 3), (207, .aload_n 0, 1), (208, .getfield 189, 3), (211, .bipush 40, 2), (213, .if_icmp .eq 57, 3), (216, .aload_n 0, 1), (217, .getfield 189, 3), (220, .bipush 41, 2), (222, .if_icmp .eq 48, 3), (225, .aload_n 0, 1), (226, .getfield 189, 3), (229, .bipush 43, 2), (231, .if_icmp .eq 39, 3), (234, .aload_n 0, 1), (235, .getfield 189, 3), (238, .bipush 45, 2)]
theorem DX11_signToken_1 : dAll cX11_signToken lDX11_signToken_1 = true := by decide +kernel
theorem dX11_signToken_117 : decode cX11_signToken 117 = .ok (.iload_n 2, 1) := dAt (x := (117, .iload_n 2, 1)) DX11_signToken_1 0 rfl
theorem dX11_signToken_118 : decode cX11_signToken 118 = .ok (.ifCond .ne 7, 3) := dAt (x := (118, .ifCond .ne 7, 3)) DX11_signToken_1 1 rfl
theorem dX11_signToken_121 : decode cX11_signToken 121 = .ok (.iload_n 3, 1) := dAt (x := (121, .iload_n 3, 1)) DX11_signToken_1 2 rfl
theorem dX11_signToken_122 : decode cX11_signToken 122 = .ok (.ifCond .eq 13, 3) := dAt (x := (122, .ifCond .eq 13, 3)) DX11_signToken_1 3 rfl
theorem dX11_signToken_125 : decode cX11_signToken 125 = .ok (.aload_n 0, 1) := dAt (x := (125, .aload_n 0, 1)) DX11_signToken_1 4 rfl
theorem dX11_signToken_126 : decode cX11_signToken 126 = .ok (.dup, 1) := dAt (x := (126, .dup, 1)) DX11_signToken_1 5 rfl
theorem dX11_signToken_127 : decode cX11_signToken 127 = .ok (.getfield 175, 3) := dAt (x := (127, .getfield 175, 3)) DX11_signToken_1 6 rfl
theorem dX11_signToken_130 : decode cX11_signToken 130 = .ok (.iconst 1, 1) := dAt (x := (130, .iconst 1, 1)) DX11_signToken_1 7 rfl
theorem dX11_signToken_131 : decode cX11_signToken 131 = .ok (.iadd, 1) := dAt (x := (131, .iadd, 1)) DX11_signToken_1 8 rfl
theorem dX11_signToken_132 : decode cX11_signToken 132 = .ok (.putfield 175, 3) := dAt (x := (132, .putfield 175, 3)) DX11_signToken_1 9 rfl
theorem dX11_signToken_135 : decode cX11_signToken 135 = .ok (.aload_n 0, 1) := dAt (x := (135, .aload_n 0, 1)) DX11_signToken_1 10 rfl
theorem dX11_signToken_136 : decode cX11_signToken 136 = .ok (.iconst 5, 1) := dAt (x := (136, .iconst 5, 1)) DX11_signToken_1 11 rfl
theorem dX11_signToken_137 : decode cX11_signToken 137 = .ok (.putfield 178, 3) := dAt (x := (137, .putfield 178, 3)) DX11_signToken_1 12 rfl
theorem dX11_signToken_140 : decode cX11_signToken 140 = .ok (.aload_n 0, 1) := dAt (x := (140, .aload_n 0, 1)) DX11_signToken_1 13 rfl
theorem dX11_signToken_141 : decode cX11_signToken 141 = .ok (.aload_n 0, 1) := dAt (x := (141, .aload_n 0, 1)) DX11_signToken_1 14 rfl
theorem dX11_signToken_142 : decode cX11_signToken 142 = .ok (.getfield 189, 3) := dAt (x := (142, .getfield 189, 3)) DX11_signToken_1 15 rfl
theorem dX11_signToken_145 : decode cX11_signToken 145 = .ok (.bipush 61, 2) := dAt (x := (145, .bipush 61, 2)) DX11_signToken_1 16 rfl
theorem dX11_signToken_147 : decode cX11_signToken 147 = .ok (.if_icmp .ne 7, 3) := dAt (x := (147, .if_icmp .ne 7, 3)) DX11_signToken_1 17 rfl
theorem dX11_signToken_150 : decode cX11_signToken 150 = .ok (.iconst 2, 1) := dAt (x := (150, .iconst 2, 1)) DX11_signToken_1 18 rfl
theorem dX11_signToken_151 : decode cX11_signToken 151 = .ok (.goto 41, 3) := dAt (x := (151, .goto 41, 3)) DX11_signToken_1 19 rfl
theorem dX11_signToken_154 : decode cX11_signToken 154 = .ok (.aload_n 0, 1) := dAt (x := (154, .aload_n 0, 1)) DX11_signToken_1 20 rfl
theorem dX11_signToken_155 : decode cX11_signToken 155 = .ok (.getfield 189, 3) := dAt (x := (155, .getfield 189, 3)) DX11_signToken_1 21 rfl
theorem dX11_signToken_158 : decode cX11_signToken 158 = .ok (.bipush 60, 2) := dAt (x := (158, .bipush 60, 2)) DX11_signToken_1 22 rfl
theorem dX11_signToken_160 : decode cX11_signToken 160 = .ok (.if_icmp .ne 23, 3) := dAt (x := (160, .if_icmp .ne 23, 3)) DX11_signToken_1 23 rfl
theorem dX11_signToken_163 : decode cX11_signToken 163 = .ok (.iload_n 2, 1) := dAt (x := (163, .iload_n 2, 1)) DX11_signToken_1 24 rfl
theorem dX11_signToken_164 : decode cX11_signToken 164 = .ok (.ifCond .eq 7, 3) := dAt (x := (164, .ifCond .eq 7, 3)) DX11_signToken_1 25 rfl
theorem dX11_signToken_167 : decode cX11_signToken 167 = .ok (.iconst 1, 1) := dAt (x := (167, .iconst 1, 1)) DX11_signToken_1 26 rfl
theorem dX11_signToken_168 : decode cX11_signToken 168 = .ok (.goto 24, 3) := dAt (x := (168, .goto 24, 3)) DX11_signToken_1 27 rfl
theorem dX11_signToken_171 : decode cX11_signToken 171 = .ok (.iload_n 3, 1) := dAt (x := (171, .iload_n 3, 1)) DX11_signToken_1 28 rfl
theorem dX11_signToken_172 : decode cX11_signToken 172 = .ok (.ifCond .eq 7, 3) := dAt (x := (172, .ifCond .eq 7, 3)) DX11_signToken_1 29 rfl
theorem dX11_signToken_175 : decode cX11_signToken 175 = .ok (.iconst 3, 1) := dAt (x := (175, .iconst 3, 1)) DX11_signToken_1 30 rfl
theorem dX11_signToken_176 : decode cX11_signToken 176 = .ok (.goto 16, 3) := dAt (x := (176, .goto 16, 3)) DX11_signToken_1 31 rfl
theorem dX11_signToken_179 : decode cX11_signToken 179 = .ok (.iconst 0, 1) := dAt (x := (179, .iconst 0, 1)) DX11_signToken_1 32 rfl
theorem dX11_signToken_180 : decode cX11_signToken 180 = .ok (.goto 12, 3) := dAt (x := (180, .goto 12, 3)) DX11_signToken_1 33 rfl
theorem dX11_signToken_183 : decode cX11_signToken 183 = .ok (.iload_n 2, 1) := dAt (x := (183, .iload_n 2, 1)) DX11_signToken_1 34 rfl
theorem dX11_signToken_184 : decode cX11_signToken 184 = .ok (.ifCond .eq 7, 3) := dAt (x := (184, .ifCond .eq 7, 3)) DX11_signToken_1 35 rfl
theorem dX11_signToken_187 : decode cX11_signToken 187 = .ok (.iconst 4, 1) := dAt (x := (187, .iconst 4, 1)) DX11_signToken_1 36 rfl
theorem dX11_signToken_188 : decode cX11_signToken 188 = .ok (.goto 4, 3) := dAt (x := (188, .goto 4, 3)) DX11_signToken_1 37 rfl
theorem dX11_signToken_191 : decode cX11_signToken 191 = .ok (.iconst 5, 1) := dAt (x := (191, .iconst 5, 1)) DX11_signToken_1 38 rfl
theorem dX11_signToken_192 : decode cX11_signToken 192 = .ok (.putfield 189, 3) := dAt (x := (192, .putfield 189, 3)) DX11_signToken_1 39 rfl
theorem dX11_signToken_195 : decode cX11_signToken 195 = .ok (.goto 95, 3) := dAt (x := (195, .goto 95, 3)) DX11_signToken_1 40 rfl
theorem dX11_signToken_198 : decode cX11_signToken 198 = .ok (.aload_n 0, 1) := dAt (x := (198, .aload_n 0, 1)) DX11_signToken_1 41 rfl
theorem dX11_signToken_199 : decode cX11_signToken 199 = .ok (.getfield 189, 3) := dAt (x := (199, .getfield 189, 3)) DX11_signToken_1 42 rfl
theorem dX11_signToken_202 : decode cX11_signToken 202 = .ok (.bipush 59, 2) := dAt (x := (202, .bipush 59, 2)) DX11_signToken_1 43 rfl
theorem dX11_signToken_204 : decode cX11_signToken 204 = .ok (.if_icmp .eq 66, 3) := dAt (x := (204, .if_icmp .eq 66, 3)) DX11_signToken_1 44 rfl
theorem dX11_signToken_207 : decode cX11_signToken 207 = .ok (.aload_n 0, 1) := dAt (x := (207, .aload_n 0, 1)) DX11_signToken_1 45 rfl
theorem dX11_signToken_208 : decode cX11_signToken 208 = .ok (.getfield 189, 3) := dAt (x := (208, .getfield 189, 3)) DX11_signToken_1 46 rfl
theorem dX11_signToken_211 : decode cX11_signToken 211 = .ok (.bipush 40, 2) := dAt (x := (211, .bipush 40, 2)) DX11_signToken_1 47 rfl
theorem dX11_signToken_213 : decode cX11_signToken 213 = .ok (.if_icmp .eq 57, 3) := dAt (x := (213, .if_icmp .eq 57, 3)) DX11_signToken_1 48 rfl
theorem dX11_signToken_216 : decode cX11_signToken 216 = .ok (.aload_n 0, 1) := dAt (x := (216, .aload_n 0, 1)) DX11_signToken_1 49 rfl
theorem dX11_signToken_217 : decode cX11_signToken 217 = .ok (.getfield 189, 3) := dAt (x := (217, .getfield 189, 3)) DX11_signToken_1 50 rfl
theorem dX11_signToken_220 : decode cX11_signToken 220 = .ok (.bipush 41, 2) := dAt (x := (220, .bipush 41, 2)) DX11_signToken_1 51 rfl
theorem dX11_signToken_222 : decode cX11_signToken 222 = .ok (.if_icmp .eq 48, 3) := dAt (x := (222, .if_icmp .eq 48, 3)) DX11_signToken_1 52 rfl
theorem dX11_signToken_225 : decode cX11_signToken 225 = .ok (.aload_n 0, 1) := dAt (x := (225, .aload_n 0, 1)) DX11_signToken_1 53 rfl
theorem dX11_signToken_226 : decode cX11_signToken 226 = .ok (.getfield 189, 3) := dAt (x := (226, .getfield 189, 3)) DX11_signToken_1 54 rfl
theorem dX11_signToken_229 : decode cX11_signToken 229 = .ok (.bipush 43, 2) := dAt (x := (229, .bipush 43, 2)) DX11_signToken_1 55 rfl
theorem dX11_signToken_231 : decode cX11_signToken 231 = .ok (.if_icmp .eq 39, 3) := dAt (x := (231, .if_icmp .eq 39, 3)) DX11_signToken_1 56 rfl
theorem dX11_signToken_234 : decode cX11_signToken 234 = .ok (.aload_n 0, 1) := dAt (x := (234, .aload_n 0, 1)) DX11_signToken_1 57 rfl
theorem dX11_signToken_235 : decode cX11_signToken 235 = .ok (.getfield 189, 3) := dAt (x := (235, .getfield 189, 3)) DX11_signToken_1 58 rfl
theorem dX11_signToken_238 : decode cX11_signToken 238 = .ok (.bipush 45, 2) := dAt (x := (238, .bipush 45, 2)) DX11_signToken_1 59 rfl
def lDX11_signToken_2 : List (Nat × Instr × Nat) := [(240, .if_icmp .eq 30, 3), (243, .aload_n 0, 1), (244, .getfield 189, 3), (247, .bipush 42, 2), (249, .if_icmp .eq 21, 3), (252, .aload_n 0, 1), (253, .getfield 189, 3), (256, .bipush 47, 2), (258, .if_icmp .eq 12, 3), (261, .aload_n 0, 1), (262, .getfield 189, 3), (265, .bipush 37, 2), (267, .if_icmp .ne 7, 3), (270, .iconst 1, 1), (271, .goto 4, 3), (274, .iconst 0, 1), (275, .istore_n 1, 1), (276, .aload_n 0, 1), (277, .iload_n 1, 1), (278, .ifCond .eq 7, 3), (281, .iconst 4, 1), (282, .goto 5, 3), (285, .bipush 6, 2), (287, .putfield 178, 3), (290, .return_, 1)]
theorem DX11_signToken_2 : dAll cX11_signToken lDX11_signToken_2 = true := by decide +kernel
theorem dX11_signToken_240 : decode cX11_signToken 240 = .ok (.if_icmp .eq 30, 3) := dAt (x := (240, .if_icmp .eq 30, 3)) DX11_signToken_2 0 rfl
theorem dX11_signToken_243 : decode cX11_signToken 243 = .ok (.aload_n 0, 1) := dAt (x := (243, .aload_n 0, 1)) DX11_signToken_2 1 rfl
theorem dX11_signToken_244 : decode cX11_signToken 244 = .ok (.getfield 189, 3) := dAt (x := (244, .getfield 189, 3)) DX11_signToken_2 2 rfl
theorem dX11_signToken_247 : decode cX11_signToken 247 = .ok (.bipush 42, 2) := dAt (x := (247, .bipush 42, 2)) DX11_signToken_2 3 rfl
theorem dX11_signToken_249 : decode cX11_signToken 249 = .ok (.if_icmp .eq 21, 3) := dAt (x := (249, .if_icmp .eq 21, 3)) DX11_signToken_2 4 rfl
theorem dX11_signToken_252 : decode cX11_signToken 252 = .ok (.aload_n 0, 1) := dAt (x := (252, .aload_n 0, 1)) DX11_signToken_2 5 rfl
theorem dX11_signToken_253 : decode cX11_signToken 253 = .ok (.getfield 189, 3) := dAt (x := (253, .getfield 189, 3)) DX11_signToken_2 6 rfl
theorem dX11_signToken_256 : decode cX11_signToken 256 = .ok (.bipush 47, 2) := dAt (x := (256, .bipush 47, 2)) DX11_signToken_2 7 rfl
theorem dX11_signToken_258 : decode cX11_signToken 258 = .ok (.if_icmp .eq 12, 3) := dAt (x := (258, .if_icmp .eq 12, 3)) DX11_signToken_2 8 rfl
theorem dX11_signToken_261 : decode cX11_signToken 261 = .ok (.aload_n 0, 1) := dAt (x := (261, .aload_n 0, 1)) DX11_signToken_2 9 rfl
theorem dX11_signToken_262 : decode cX11_signToken 262 = .ok (.getfield 189, 3) := dAt (x := (262, .getfield 189, 3)) DX11_signToken_2 10 rfl
theorem dX11_signToken_265 : decode cX11_signToken 265 = .ok (.bipush 37, 2) := dAt (x := (265, .bipush 37, 2)) DX11_signToken_2 11 rfl
theorem dX11_signToken_267 : decode cX11_signToken 267 = .ok (.if_icmp .ne 7, 3) := dAt (x := (267, .if_icmp .ne 7, 3)) DX11_signToken_2 12 rfl
theorem dX11_signToken_270 : decode cX11_signToken 270 = .ok (.iconst 1, 1) := dAt (x := (270, .iconst 1, 1)) DX11_signToken_2 13 rfl
theorem dX11_signToken_271 : decode cX11_signToken 271 = .ok (.goto 4, 3) := dAt (x := (271, .goto 4, 3)) DX11_signToken_2 14 rfl
theorem dX11_signToken_274 : decode cX11_signToken 274 = .ok (.iconst 0, 1) := dAt (x := (274, .iconst 0, 1)) DX11_signToken_2 15 rfl
theorem dX11_signToken_275 : decode cX11_signToken 275 = .ok (.istore_n 1, 1) := dAt (x := (275, .istore_n 1, 1)) DX11_signToken_2 16 rfl
theorem dX11_signToken_276 : decode cX11_signToken 276 = .ok (.aload_n 0, 1) := dAt (x := (276, .aload_n 0, 1)) DX11_signToken_2 17 rfl
theorem dX11_signToken_277 : decode cX11_signToken 277 = .ok (.iload_n 1, 1) := dAt (x := (277, .iload_n 1, 1)) DX11_signToken_2 18 rfl
theorem dX11_signToken_278 : decode cX11_signToken 278 = .ok (.ifCond .eq 7, 3) := dAt (x := (278, .ifCond .eq 7, 3)) DX11_signToken_2 19 rfl
theorem dX11_signToken_281 : decode cX11_signToken 281 = .ok (.iconst 4, 1) := dAt (x := (281, .iconst 4, 1)) DX11_signToken_2 20 rfl
theorem dX11_signToken_282 : decode cX11_signToken 282 = .ok (.goto 5, 3) := dAt (x := (282, .goto 5, 3)) DX11_signToken_2 21 rfl
theorem dX11_signToken_285 : decode cX11_signToken 285 = .ok (.bipush 6, 2) := dAt (x := (285, .bipush 6, 2)) DX11_signToken_2 22 rfl
theorem dX11_signToken_287 : decode cX11_signToken 287 = .ok (.putfield 178, 3) := dAt (x := (287, .putfield 178, 3)) DX11_signToken_2 23 rfl
theorem dX11_signToken_290 : decode cX11_signToken 290 = .ok (.return_, 1) := dAt (x := (290, .return_, 1)) DX11_signToken_2 24 rfl
def lDX11_packed_0 : List (Nat × Instr × Nat) := [(0, .iconst 0, 1), (1, .istore_n 3, 1), (2, .iload_n 1, 1), (3, .istore 4, 2), (5, .iload 4, 2), (7, .iload_n 1, 1), (8, .bipush 6, 2), (10, .iadd, 1), (11, .if_icmp .ge 34, 3), (14, .iload_n 3, 1), (15, .iconst 5, 1), (16, .ishl, 1), (17, .iload 4, 2), (19, .iload_n 2, 1), (20, .if_icmp .ge 16, 3), (23, .aload_n 0, 1), (24, .getfield 7, 3), (27, .iload 4, 2), (29, .iaload, 1), (30, .bipush 96, 2), (32, .isub, 1), (33, .goto 4, 3), (36, .iconst 0, 1), (37, .ior, 1), (38, .istore_n 3, 1), (39, .iinc 4 1, 3), (42, .goto (-37), 3), (45, .iload_n 3, 1), (46, .ireturn, 1)]
theorem DX11_packed_0 : dAll cX11_packed lDX11_packed_0 = true := by decide +kernel
theorem dX11_packed_0 : decode cX11_packed 0 = .ok (.iconst 0, 1) := dAt (x := (0, .iconst 0, 1)) DX11_packed_0 0 rfl
theorem dX11_packed_1 : decode cX11_packed 1 = .ok (.istore_n 3, 1) := dAt (x := (1, .istore_n 3, 1)) DX11_packed_0 1 rfl
theorem dX11_packed_2 : decode cX11_packed 2 = .ok (.iload_n 1, 1) := dAt (x := (2, .iload_n 1, 1)) DX11_packed_0 2 rfl
theorem dX11_packed_3 : decode cX11_packed 3 = .ok (.istore 4, 2) := dAt (x := (3, .istore 4, 2)) DX11_packed_0 3 rfl
theorem dX11_packed_5 : decode cX11_packed 5 = .ok (.iload 4, 2) := dAt (x := (5, .iload 4, 2)) DX11_packed_0 4 rfl
theorem dX11_packed_7 : decode cX11_packed 7 = .ok (.iload_n 1, 1) := dAt (x := (7, .iload_n 1, 1)) DX11_packed_0 5 rfl
theorem dX11_packed_8 : decode cX11_packed 8 = .ok (.bipush 6, 2) := dAt (x := (8, .bipush 6, 2)) DX11_packed_0 6 rfl
theorem dX11_packed_10 : decode cX11_packed 10 = .ok (.iadd, 1) := dAt (x := (10, .iadd, 1)) DX11_packed_0 7 rfl
theorem dX11_packed_11 : decode cX11_packed 11 = .ok (.if_icmp .ge 34, 3) := dAt (x := (11, .if_icmp .ge 34, 3)) DX11_packed_0 8 rfl
theorem dX11_packed_14 : decode cX11_packed 14 = .ok (.iload_n 3, 1) := dAt (x := (14, .iload_n 3, 1)) DX11_packed_0 9 rfl
theorem dX11_packed_15 : decode cX11_packed 15 = .ok (.iconst 5, 1) := dAt (x := (15, .iconst 5, 1)) DX11_packed_0 10 rfl
theorem dX11_packed_16 : decode cX11_packed 16 = .ok (.ishl, 1) := dAt (x := (16, .ishl, 1)) DX11_packed_0 11 rfl
theorem dX11_packed_17 : decode cX11_packed 17 = .ok (.iload 4, 2) := dAt (x := (17, .iload 4, 2)) DX11_packed_0 12 rfl
theorem dX11_packed_19 : decode cX11_packed 19 = .ok (.iload_n 2, 1) := dAt (x := (19, .iload_n 2, 1)) DX11_packed_0 13 rfl
theorem dX11_packed_20 : decode cX11_packed 20 = .ok (.if_icmp .ge 16, 3) := dAt (x := (20, .if_icmp .ge 16, 3)) DX11_packed_0 14 rfl
theorem dX11_packed_23 : decode cX11_packed 23 = .ok (.aload_n 0, 1) := dAt (x := (23, .aload_n 0, 1)) DX11_packed_0 15 rfl
theorem dX11_packed_24 : decode cX11_packed 24 = .ok (.getfield 7, 3) := dAt (x := (24, .getfield 7, 3)) DX11_packed_0 16 rfl
theorem dX11_packed_27 : decode cX11_packed 27 = .ok (.iload 4, 2) := dAt (x := (27, .iload 4, 2)) DX11_packed_0 17 rfl
theorem dX11_packed_29 : decode cX11_packed 29 = .ok (.iaload, 1) := dAt (x := (29, .iaload, 1)) DX11_packed_0 18 rfl
theorem dX11_packed_30 : decode cX11_packed 30 = .ok (.bipush 96, 2) := dAt (x := (30, .bipush 96, 2)) DX11_packed_0 19 rfl
theorem dX11_packed_32 : decode cX11_packed 32 = .ok (.isub, 1) := dAt (x := (32, .isub, 1)) DX11_packed_0 20 rfl
theorem dX11_packed_33 : decode cX11_packed 33 = .ok (.goto 4, 3) := dAt (x := (33, .goto 4, 3)) DX11_packed_0 21 rfl
theorem dX11_packed_36 : decode cX11_packed 36 = .ok (.iconst 0, 1) := dAt (x := (36, .iconst 0, 1)) DX11_packed_0 22 rfl
theorem dX11_packed_37 : decode cX11_packed 37 = .ok (.ior, 1) := dAt (x := (37, .ior, 1)) DX11_packed_0 23 rfl
theorem dX11_packed_38 : decode cX11_packed 38 = .ok (.istore_n 3, 1) := dAt (x := (38, .istore_n 3, 1)) DX11_packed_0 24 rfl
theorem dX11_packed_39 : decode cX11_packed 39 = .ok (.iinc 4 1, 3) := dAt (x := (39, .iinc 4 1, 3)) DX11_packed_0 25 rfl
theorem dX11_packed_42 : decode cX11_packed 42 = .ok (.goto (-37), 3) := dAt (x := (42, .goto (-37), 3)) DX11_packed_0 26 rfl
theorem dX11_packed_45 : decode cX11_packed 45 = .ok (.iload_n 3, 1) := dAt (x := (45, .iload_n 3, 1)) DX11_packed_0 27 rfl
theorem dX11_packed_46 : decode cX11_packed 46 = .ok (.ireturn, 1) := dAt (x := (46, .ireturn, 1)) DX11_packed_0 28 rfl
def lDX11_isKey_0 : List (Nat × Instr × Nat) := [(0, .aload_n 0, 1), (1, .getfield 178, 3), (4, .iconst 1, 1), (5, .if_icmp .ne 15, 3), (8, .aload_n 0, 1), (9, .getfield 189, 3), (12, .iload_n 1, 1), (13, .if_icmp .ne 7, 3), (16, .iconst 1, 1), (17, .goto 4, 3), (20, .iconst 0, 1), (21, .ireturn, 1)]
theorem DX11_isKey_0 : dAll cX11_isKey lDX11_isKey_0 = true := by decide +kernel
theorem dX11_isKey_0 : decode cX11_isKey 0 = .ok (.aload_n 0, 1) := dAt (x := (0, .aload_n 0, 1)) DX11_isKey_0 0 rfl
theorem dX11_isKey_1 : decode cX11_isKey 1 = .ok (.getfield 178, 3) := dAt (x := (1, .getfield 178, 3)) DX11_isKey_0 1 rfl
theorem dX11_isKey_4 : decode cX11_isKey 4 = .ok (.iconst 1, 1) := dAt (x := (4, .iconst 1, 1)) DX11_isKey_0 2 rfl
theorem dX11_isKey_5 : decode cX11_isKey 5 = .ok (.if_icmp .ne 15, 3) := dAt (x := (5, .if_icmp .ne 15, 3)) DX11_isKey_0 3 rfl
theorem dX11_isKey_8 : decode cX11_isKey 8 = .ok (.aload_n 0, 1) := dAt (x := (8, .aload_n 0, 1)) DX11_isKey_0 4 rfl
theorem dX11_isKey_9 : decode cX11_isKey 9 = .ok (.getfield 189, 3) := dAt (x := (9, .getfield 189, 3)) DX11_isKey_0 5 rfl
theorem dX11_isKey_12 : decode cX11_isKey 12 = .ok (.iload_n 1, 1) := dAt (x := (12, .iload_n 1, 1)) DX11_isKey_0 6 rfl
theorem dX11_isKey_13 : decode cX11_isKey 13 = .ok (.if_icmp .ne 7, 3) := dAt (x := (13, .if_icmp .ne 7, 3)) DX11_isKey_0 7 rfl
theorem dX11_isKey_16 : decode cX11_isKey 16 = .ok (.iconst 1, 1) := dAt (x := (16, .iconst 1, 1)) DX11_isKey_0 8 rfl
theorem dX11_isKey_17 : decode cX11_isKey 17 = .ok (.goto 4, 3) := dAt (x := (17, .goto 4, 3)) DX11_isKey_0 9 rfl
theorem dX11_isKey_20 : decode cX11_isKey 20 = .ok (.iconst 0, 1) := dAt (x := (20, .iconst 0, 1)) DX11_isKey_0 10 rfl
theorem dX11_isKey_21 : decode cX11_isKey 21 = .ok (.ireturn, 1) := dAt (x := (21, .ireturn, 1)) DX11_isKey_0 11 rfl
def lDX11_isSign_0 : List (Nat × Instr × Nat) := [(0, .aload_n 0, 1), (1, .getfield 178, 3), (4, .iconst 4, 1), (5, .if_icmp .ne 15, 3), (8, .aload_n 0, 1), (9, .getfield 189, 3), (12, .iload_n 1, 1), (13, .if_icmp .ne 7, 3), (16, .iconst 1, 1), (17, .goto 4, 3), (20, .iconst 0, 1), (21, .ireturn, 1)]
theorem DX11_isSign_0 : dAll cX11_isSign lDX11_isSign_0 = true := by decide +kernel
theorem dX11_isSign_0 : decode cX11_isSign 0 = .ok (.aload_n 0, 1) := dAt (x := (0, .aload_n 0, 1)) DX11_isSign_0 0 rfl
theorem dX11_isSign_1 : decode cX11_isSign 1 = .ok (.getfield 178, 3) := dAt (x := (1, .getfield 178, 3)) DX11_isSign_0 1 rfl
theorem dX11_isSign_4 : decode cX11_isSign 4 = .ok (.iconst 4, 1) := dAt (x := (4, .iconst 4, 1)) DX11_isSign_0 2 rfl
theorem dX11_isSign_5 : decode cX11_isSign 5 = .ok (.if_icmp .ne 15, 3) := dAt (x := (5, .if_icmp .ne 15, 3)) DX11_isSign_0 3 rfl
theorem dX11_isSign_8 : decode cX11_isSign 8 = .ok (.aload_n 0, 1) := dAt (x := (8, .aload_n 0, 1)) DX11_isSign_0 4 rfl
theorem dX11_isSign_9 : decode cX11_isSign 9 = .ok (.getfield 189, 3) := dAt (x := (9, .getfield 189, 3)) DX11_isSign_0 5 rfl
theorem dX11_isSign_12 : decode cX11_isSign 12 = .ok (.iload_n 1, 1) := dAt (x := (12, .iload_n 1, 1)) DX11_isSign_0 6 rfl
theorem dX11_isSign_13 : decode cX11_isSign 13 = .ok (.if_icmp .ne 7, 3) := dAt (x := (13, .if_icmp .ne 7, 3)) DX11_isSign_0 7 rfl
theorem dX11_isSign_16 : decode cX11_isSign 16 = .ok (.iconst 1, 1) := dAt (x := (16, .iconst 1, 1)) DX11_isSign_0 8 rfl
theorem dX11_isSign_17 : decode cX11_isSign 17 = .ok (.goto 4, 3) := dAt (x := (17, .goto 4, 3)) DX11_isSign_0 9 rfl
theorem dX11_isSign_20 : decode cX11_isSign 20 = .ok (.iconst 0, 1) := dAt (x := (20, .iconst 0, 1)) DX11_isSign_0 10 rfl
theorem dX11_isSign_21 : decode cX11_isSign 21 = .ok (.ireturn, 1) := dAt (x := (21, .ireturn, 1)) DX11_isSign_0 11 rfl
def lDX11_number_0 : List (Nat × Instr × Nat) := [(0, .aload_n 0, 1), (1, .getfield 178, 3), (4, .iconst 3, 1), (5, .if_icmp .eq 9, 3), (8, .aload_n 0, 1), (9, .iconst 1, 1), (10, .invokevirtual 202, 3), (13, .ireturn, 1), (14, .aload_n 0, 1), (15, .getfield 189, 3), (18, .iload_n 1, 1), (19, .iload_n 2, 1), (20, .invokestatic 205, 3), (23, .ifCond .ne 9, 3), (26, .aload_n 0, 1), (27, .iconst 2, 1), (28, .invokevirtual 202, 3), (31, .ireturn, 1), (32, .aload_n 0, 1), (33, .aload_n 0, 1), (34, .getfield 189, 3), (37, .putfield 209, 3), (40, .aload_n 0, 1), (41, .invokevirtual 212, 3), (44, .iconst 1, 1), (45, .ireturn, 1)]
theorem DX11_number_0 : dAll cX11_number lDX11_number_0 = true := by decide +kernel
theorem dX11_number_0 : decode cX11_number 0 = .ok (.aload_n 0, 1) := dAt (x := (0, .aload_n 0, 1)) DX11_number_0 0 rfl
theorem dX11_number_1 : decode cX11_number 1 = .ok (.getfield 178, 3) := dAt (x := (1, .getfield 178, 3)) DX11_number_0 1 rfl
theorem dX11_number_4 : decode cX11_number 4 = .ok (.iconst 3, 1) := dAt (x := (4, .iconst 3, 1)) DX11_number_0 2 rfl
theorem dX11_number_5 : decode cX11_number 5 = .ok (.if_icmp .eq 9, 3) := dAt (x := (5, .if_icmp .eq 9, 3)) DX11_number_0 3 rfl
theorem dX11_number_8 : decode cX11_number 8 = .ok (.aload_n 0, 1) := dAt (x := (8, .aload_n 0, 1)) DX11_number_0 4 rfl
theorem dX11_number_9 : decode cX11_number 9 = .ok (.iconst 1, 1) := dAt (x := (9, .iconst 1, 1)) DX11_number_0 5 rfl
theorem dX11_number_10 : decode cX11_number 10 = .ok (.invokevirtual 202, 3) := dAt (x := (10, .invokevirtual 202, 3)) DX11_number_0 6 rfl
theorem dX11_number_13 : decode cX11_number 13 = .ok (.ireturn, 1) := dAt (x := (13, .ireturn, 1)) DX11_number_0 7 rfl
theorem dX11_number_14 : decode cX11_number 14 = .ok (.aload_n 0, 1) := dAt (x := (14, .aload_n 0, 1)) DX11_number_0 8 rfl
theorem dX11_number_15 : decode cX11_number 15 = .ok (.getfield 189, 3) := dAt (x := (15, .getfield 189, 3)) DX11_number_0 9 rfl
theorem dX11_number_18 : decode cX11_number 18 = .ok (.iload_n 1, 1) := dAt (x := (18, .iload_n 1, 1)) DX11_number_0 10 rfl
theorem dX11_number_19 : decode cX11_number 19 = .ok (.iload_n 2, 1) := dAt (x := (19, .iload_n 2, 1)) DX11_number_0 11 rfl
theorem dX11_number_20 : decode cX11_number 20 = .ok (.invokestatic 205, 3) := dAt (x := (20, .invokestatic 205, 3)) DX11_number_0 12 rfl
theorem dX11_number_23 : decode cX11_number 23 = .ok (.ifCond .ne 9, 3) := dAt (x := (23, .ifCond .ne 9, 3)) DX11_number_0 13 rfl
theorem dX11_number_26 : decode cX11_number 26 = .ok (.aload_n 0, 1) := dAt (x := (26, .aload_n 0, 1)) DX11_number_0 14 rfl
theorem dX11_number_27 : decode cX11_number 27 = .ok (.iconst 2, 1) := dAt (x := (27, .iconst 2, 1)) DX11_number_0 15 rfl
theorem dX11_number_28 : decode cX11_number 28 = .ok (.invokevirtual 202, 3) := dAt (x := (28, .invokevirtual 202, 3)) DX11_number_0 16 rfl
theorem dX11_number_31 : decode cX11_number 31 = .ok (.ireturn, 1) := dAt (x := (31, .ireturn, 1)) DX11_number_0 17 rfl
theorem dX11_number_32 : decode cX11_number 32 = .ok (.aload_n 0, 1) := dAt (x := (32, .aload_n 0, 1)) DX11_number_0 18 rfl
theorem dX11_number_33 : decode cX11_number 33 = .ok (.aload_n 0, 1) := dAt (x := (33, .aload_n 0, 1)) DX11_number_0 19 rfl
theorem dX11_number_34 : decode cX11_number 34 = .ok (.getfield 189, 3) := dAt (x := (34, .getfield 189, 3)) DX11_number_0 20 rfl
theorem dX11_number_37 : decode cX11_number 37 = .ok (.putfield 209, 3) := dAt (x := (37, .putfield 209, 3)) DX11_number_0 21 rfl
theorem dX11_number_40 : decode cX11_number 40 = .ok (.aload_n 0, 1) := dAt (x := (40, .aload_n 0, 1)) DX11_number_0 22 rfl
theorem dX11_number_41 : decode cX11_number 41 = .ok (.invokevirtual 212, 3) := dAt (x := (41, .invokevirtual 212, 3)) DX11_number_0 23 rfl
theorem dX11_number_44 : decode cX11_number 44 = .ok (.iconst 1, 1) := dAt (x := (44, .iconst 1, 1)) DX11_number_0 24 rfl
theorem dX11_number_45 : decode cX11_number 45 = .ok (.ireturn, 1) := dAt (x := (45, .ireturn, 1)) DX11_number_0 25 rfl
def lDX11_plain_0 : List (Nat × Instr × Nat) := [(0, .aload_n 0, 1), (1, .iconst 0, 1), (2, .putfield 222, 3), (5, .aload_n 0, 1), (6, .iconst 0, 1), (7, .putfield 225, 3), (10, .aload_n 0, 1), (11, .iconst 0, 1), (12, .putfield 228, 3), (15, .aload_n 0, 1), (16, .iconst 0, 1), (17, .putfield 231, 3), (20, .aload_n 0, 1), (21, .iconst 0, 1), (22, .putfield 234, 3), (25, .aload_n 0, 1), (26, .iconst 0, 1), (27, .putfield 237, 3), (30, .iconst 0, 1), (31, .istore_n 1, 1), (32, .iload_n 1, 1), (33, .iconst 2, 1), (34, .if_icmp .ge 25, 3), (37, .aload_n 0, 1), (38, .getfield 20, 3), (41, .iload_n 1, 1), (42, .iconst 0, 1), (43, .bastore, 1), (44, .aload_n 0, 1), (45, .getfield 24, 3), (48, .iconst 2, 1), (49, .iload_n 1, 1), (50, .iadd, 1), (51, .iconst 0, 1), (52, .iastore, 1), (53, .iinc 1 1, 3), (56, .goto (-24), 3), (59, .bipush 8, 2), (61, .istore_n 1, 1), (62, .iload_n 1, 1), (63, .bipush 16, 2), (65, .if_icmp .ge 23, 3), (68, .aload_n 0, 1), (69, .getfield 33, 3), (72, .iload_n 1, 1), (73, .iconst (-1), 1), (74, .iastore, 1), (75, .aload_n 0, 1), (76, .getfield 36, 3), (79, .iload_n 1, 1), (80, .iconst 0, 1), (81, .iastore, 1), (82, .iinc 1 1, 3), (85, .goto (-23), 3), (88, .iconst 3, 1), (89, .istore_n 1, 1), (90, .iload_n 1, 1), (91, .bipush 6, 2), (93, .if_icmp .ge 16, 3), (96, .aload_n 0, 1)]
theorem DX11_plain_0 : dAll cX11_plain lDX11_plain_0 = true := by decide +kernel
theorem dX11_plain_0 : decode cX11_plain 0 = .ok (.aload_n 0, 1) := dAt (x := (0, .aload_n 0, 1)) DX11_plain_0 0 rfl
theorem dX11_plain_1 : decode cX11_plain 1 = .ok (.iconst 0, 1) := dAt (x := (1, .iconst 0, 1)) DX11_plain_0 1 rfl
theorem dX11_plain_2 : decode cX11_plain 2 = .ok (.putfield 222, 3) := dAt (x := (2, .putfield 222, 3)) DX11_plain_0 2 rfl
theorem dX11_plain_5 : decode cX11_plain 5 = .ok (.aload_n 0, 1) := dAt (x := (5, .aload_n 0, 1)) DX11_plain_0 3 rfl
theorem dX11_plain_6 : decode cX11_plain 6 = .ok (.iconst 0, 1) := dAt (x := (6, .iconst 0, 1)) DX11_plain_0 4 rfl
theorem dX11_plain_7 : decode cX11_plain 7 = .ok (.putfield 225, 3) := dAt (x := (7, .putfield 225, 3)) DX11_plain_0 5 rfl
theorem dX11_plain_10 : decode cX11_plain 10 = .ok (.aload_n 0, 1) := dAt (x := (10, .aload_n 0, 1)) DX11_plain_0 6 rfl
theorem dX11_plain_11 : decode cX11_plain 11 = .ok (.iconst 0, 1) := dAt (x := (11, .iconst 0, 1)) DX11_plain_0 7 rfl
theorem dX11_plain_12 : decode cX11_plain 12 = .ok (.putfield 228, 3) := dAt (x := (12, .putfield 228, 3)) DX11_plain_0 8 rfl
theorem dX11_plain_15 : decode cX11_plain 15 = .ok (.aload_n 0, 1) := dAt (x := (15, .aload_n 0, 1)) DX11_plain_0 9 rfl
theorem dX11_plain_16 : decode cX11_plain 16 = .ok (.iconst 0, 1) := dAt (x := (16, .iconst 0, 1)) DX11_plain_0 10 rfl
theorem dX11_plain_17 : decode cX11_plain 17 = .ok (.putfield 231, 3) := dAt (x := (17, .putfield 231, 3)) DX11_plain_0 11 rfl
theorem dX11_plain_20 : decode cX11_plain 20 = .ok (.aload_n 0, 1) := dAt (x := (20, .aload_n 0, 1)) DX11_plain_0 12 rfl
theorem dX11_plain_21 : decode cX11_plain 21 = .ok (.iconst 0, 1) := dAt (x := (21, .iconst 0, 1)) DX11_plain_0 13 rfl
theorem dX11_plain_22 : decode cX11_plain 22 = .ok (.putfield 234, 3) := dAt (x := (22, .putfield 234, 3)) DX11_plain_0 14 rfl
theorem dX11_plain_25 : decode cX11_plain 25 = .ok (.aload_n 0, 1) := dAt (x := (25, .aload_n 0, 1)) DX11_plain_0 15 rfl
theorem dX11_plain_26 : decode cX11_plain 26 = .ok (.iconst 0, 1) := dAt (x := (26, .iconst 0, 1)) DX11_plain_0 16 rfl
theorem dX11_plain_27 : decode cX11_plain 27 = .ok (.putfield 237, 3) := dAt (x := (27, .putfield 237, 3)) DX11_plain_0 17 rfl
theorem dX11_plain_30 : decode cX11_plain 30 = .ok (.iconst 0, 1) := dAt (x := (30, .iconst 0, 1)) DX11_plain_0 18 rfl
theorem dX11_plain_31 : decode cX11_plain 31 = .ok (.istore_n 1, 1) := dAt (x := (31, .istore_n 1, 1)) DX11_plain_0 19 rfl
theorem dX11_plain_32 : decode cX11_plain 32 = .ok (.iload_n 1, 1) := dAt (x := (32, .iload_n 1, 1)) DX11_plain_0 20 rfl
theorem dX11_plain_33 : decode cX11_plain 33 = .ok (.iconst 2, 1) := dAt (x := (33, .iconst 2, 1)) DX11_plain_0 21 rfl
theorem dX11_plain_34 : decode cX11_plain 34 = .ok (.if_icmp .ge 25, 3) := dAt (x := (34, .if_icmp .ge 25, 3)) DX11_plain_0 22 rfl
theorem dX11_plain_37 : decode cX11_plain 37 = .ok (.aload_n 0, 1) := dAt (x := (37, .aload_n 0, 1)) DX11_plain_0 23 rfl
theorem dX11_plain_38 : decode cX11_plain 38 = .ok (.getfield 20, 3) := dAt (x := (38, .getfield 20, 3)) DX11_plain_0 24 rfl
theorem dX11_plain_41 : decode cX11_plain 41 = .ok (.iload_n 1, 1) := dAt (x := (41, .iload_n 1, 1)) DX11_plain_0 25 rfl
theorem dX11_plain_42 : decode cX11_plain 42 = .ok (.iconst 0, 1) := dAt (x := (42, .iconst 0, 1)) DX11_plain_0 26 rfl
theorem dX11_plain_43 : decode cX11_plain 43 = .ok (.bastore, 1) := dAt (x := (43, .bastore, 1)) DX11_plain_0 27 rfl
theorem dX11_plain_44 : decode cX11_plain 44 = .ok (.aload_n 0, 1) := dAt (x := (44, .aload_n 0, 1)) DX11_plain_0 28 rfl
theorem dX11_plain_45 : decode cX11_plain 45 = .ok (.getfield 24, 3) := dAt (x := (45, .getfield 24, 3)) DX11_plain_0 29 rfl
theorem dX11_plain_48 : decode cX11_plain 48 = .ok (.iconst 2, 1) := dAt (x := (48, .iconst 2, 1)) DX11_plain_0 30 rfl
theorem dX11_plain_49 : decode cX11_plain 49 = .ok (.iload_n 1, 1) := dAt (x := (49, .iload_n 1, 1)) DX11_plain_0 31 rfl
theorem dX11_plain_50 : decode cX11_plain 50 = .ok (.iadd, 1) := dAt (x := (50, .iadd, 1)) DX11_plain_0 32 rfl
theorem dX11_plain_51 : decode cX11_plain 51 = .ok (.iconst 0, 1) := dAt (x := (51, .iconst 0, 1)) DX11_plain_0 33 rfl
theorem dX11_plain_52 : decode cX11_plain 52 = .ok (.iastore, 1) := dAt (x := (52, .iastore, 1)) DX11_plain_0 34 rfl
theorem dX11_plain_53 : decode cX11_plain 53 = .ok (.iinc 1 1, 3) := dAt (x := (53, .iinc 1 1, 3)) DX11_plain_0 35 rfl
theorem dX11_plain_56 : decode cX11_plain 56 = .ok (.goto (-24), 3) := dAt (x := (56, .goto (-24), 3)) DX11_plain_0 36 rfl
theorem dX11_plain_59 : decode cX11_plain 59 = .ok (.bipush 8, 2) := dAt (x := (59, .bipush 8, 2)) DX11_plain_0 37 rfl
theorem dX11_plain_61 : decode cX11_plain 61 = .ok (.istore_n 1, 1) := dAt (x := (61, .istore_n 1, 1)) DX11_plain_0 38 rfl
theorem dX11_plain_62 : decode cX11_plain 62 = .ok (.iload_n 1, 1) := dAt (x := (62, .iload_n 1, 1)) DX11_plain_0 39 rfl
theorem dX11_plain_63 : decode cX11_plain 63 = .ok (.bipush 16, 2) := dAt (x := (63, .bipush 16, 2)) DX11_plain_0 40 rfl
theorem dX11_plain_65 : decode cX11_plain 65 = .ok (.if_icmp .ge 23, 3) := dAt (x := (65, .if_icmp .ge 23, 3)) DX11_plain_0 41 rfl
theorem dX11_plain_68 : decode cX11_plain 68 = .ok (.aload_n 0, 1) := dAt (x := (68, .aload_n 0, 1)) DX11_plain_0 42 rfl
theorem dX11_plain_69 : decode cX11_plain 69 = .ok (.getfield 33, 3) := dAt (x := (69, .getfield 33, 3)) DX11_plain_0 43 rfl
theorem dX11_plain_72 : decode cX11_plain 72 = .ok (.iload_n 1, 1) := dAt (x := (72, .iload_n 1, 1)) DX11_plain_0 44 rfl
theorem dX11_plain_73 : decode cX11_plain 73 = .ok (.iconst (-1), 1) := dAt (x := (73, .iconst (-1), 1)) DX11_plain_0 45 rfl
theorem dX11_plain_74 : decode cX11_plain 74 = .ok (.iastore, 1) := dAt (x := (74, .iastore, 1)) DX11_plain_0 46 rfl
theorem dX11_plain_75 : decode cX11_plain 75 = .ok (.aload_n 0, 1) := dAt (x := (75, .aload_n 0, 1)) DX11_plain_0 47 rfl
theorem dX11_plain_76 : decode cX11_plain 76 = .ok (.getfield 36, 3) := dAt (x := (76, .getfield 36, 3)) DX11_plain_0 48 rfl
theorem dX11_plain_79 : decode cX11_plain 79 = .ok (.iload_n 1, 1) := dAt (x := (79, .iload_n 1, 1)) DX11_plain_0 49 rfl
theorem dX11_plain_80 : decode cX11_plain 80 = .ok (.iconst 0, 1) := dAt (x := (80, .iconst 0, 1)) DX11_plain_0 50 rfl
theorem dX11_plain_81 : decode cX11_plain 81 = .ok (.iastore, 1) := dAt (x := (81, .iastore, 1)) DX11_plain_0 51 rfl
theorem dX11_plain_82 : decode cX11_plain 82 = .ok (.iinc 1 1, 3) := dAt (x := (82, .iinc 1 1, 3)) DX11_plain_0 52 rfl
theorem dX11_plain_85 : decode cX11_plain 85 = .ok (.goto (-23), 3) := dAt (x := (85, .goto (-23), 3)) DX11_plain_0 53 rfl
theorem dX11_plain_88 : decode cX11_plain 88 = .ok (.iconst 3, 1) := dAt (x := (88, .iconst 3, 1)) DX11_plain_0 54 rfl
theorem dX11_plain_89 : decode cX11_plain 89 = .ok (.istore_n 1, 1) := dAt (x := (89, .istore_n 1, 1)) DX11_plain_0 55 rfl
theorem dX11_plain_90 : decode cX11_plain 90 = .ok (.iload_n 1, 1) := dAt (x := (90, .iload_n 1, 1)) DX11_plain_0 56 rfl
theorem dX11_plain_91 : decode cX11_plain 91 = .ok (.bipush 6, 2) := dAt (x := (91, .bipush 6, 2)) DX11_plain_0 57 rfl
theorem dX11_plain_93 : decode cX11_plain 93 = .ok (.if_icmp .ge 16, 3) := dAt (x := (93, .if_icmp .ge 16, 3)) DX11_plain_0 58 rfl
theorem dX11_plain_96 : decode cX11_plain 96 = .ok (.aload_n 0, 1) := dAt (x := (96, .aload_n 0, 1)) DX11_plain_0 59 rfl
def lDX11_plain_1 : List (Nat × Instr × Nat) := [(97, .getfield 57, 3), (100, .iload_n 1, 1), (101, .iconst 0, 1), (102, .bastore, 1), (103, .iinc 1 1, 3), (106, .goto (-16), 3), (109, .return_, 1)]
theorem DX11_plain_1 : dAll cX11_plain lDX11_plain_1 = true := by decide +kernel
theorem dX11_plain_97 : decode cX11_plain 97 = .ok (.getfield 57, 3) := dAt (x := (97, .getfield 57, 3)) DX11_plain_1 0 rfl
theorem dX11_plain_100 : decode cX11_plain 100 = .ok (.iload_n 1, 1) := dAt (x := (100, .iload_n 1, 1)) DX11_plain_1 1 rfl
theorem dX11_plain_101 : decode cX11_plain 101 = .ok (.iconst 0, 1) := dAt (x := (101, .iconst 0, 1)) DX11_plain_1 2 rfl
theorem dX11_plain_102 : decode cX11_plain 102 = .ok (.bastore, 1) := dAt (x := (102, .bastore, 1)) DX11_plain_1 3 rfl
theorem dX11_plain_103 : decode cX11_plain 103 = .ok (.iinc 1 1, 3) := dAt (x := (103, .iinc 1 1, 3)) DX11_plain_1 4 rfl
theorem dX11_plain_106 : decode cX11_plain 106 = .ok (.goto (-16), 3) := dAt (x := (106, .goto (-16), 3)) DX11_plain_1 5 rfl
theorem dX11_plain_109 : decode cX11_plain 109 = .ok (.return_, 1) := dAt (x := (109, .return_, 1)) DX11_plain_1 6 rfl
def lDX11_copies_0 : List (Nat × Instr × Nat) := [(0, .iconst 0, 1), (1, .istore_n 2, 1), (2, .iload_n 2, 1), (3, .iload_n 1, 1), (4, .if_icmp .ge 17, 3), (7, .aload_n 0, 1), (8, .iload_n 2, 1), (9, .aload_n 0, 1), (10, .iload_n 1, 1), (11, .iload_n 2, 1), (12, .iadd, 1), (13, .iaload, 1), (14, .iastore, 1), (15, .iinc 2 1, 3), (18, .goto (-16), 3), (21, .return_, 1)]
theorem DX11_copies_0 : dAll cX11_copies lDX11_copies_0 = true := by decide +kernel
theorem dX11_copies_0 : decode cX11_copies 0 = .ok (.iconst 0, 1) := dAt (x := (0, .iconst 0, 1)) DX11_copies_0 0 rfl
theorem dX11_copies_1 : decode cX11_copies 1 = .ok (.istore_n 2, 1) := dAt (x := (1, .istore_n 2, 1)) DX11_copies_0 1 rfl
theorem dX11_copies_2 : decode cX11_copies 2 = .ok (.iload_n 2, 1) := dAt (x := (2, .iload_n 2, 1)) DX11_copies_0 2 rfl
theorem dX11_copies_3 : decode cX11_copies 3 = .ok (.iload_n 1, 1) := dAt (x := (3, .iload_n 1, 1)) DX11_copies_0 3 rfl
theorem dX11_copies_4 : decode cX11_copies 4 = .ok (.if_icmp .ge 17, 3) := dAt (x := (4, .if_icmp .ge 17, 3)) DX11_copies_0 4 rfl
theorem dX11_copies_7 : decode cX11_copies 7 = .ok (.aload_n 0, 1) := dAt (x := (7, .aload_n 0, 1)) DX11_copies_0 5 rfl
theorem dX11_copies_8 : decode cX11_copies 8 = .ok (.iload_n 2, 1) := dAt (x := (8, .iload_n 2, 1)) DX11_copies_0 6 rfl
theorem dX11_copies_9 : decode cX11_copies 9 = .ok (.aload_n 0, 1) := dAt (x := (9, .aload_n 0, 1)) DX11_copies_0 7 rfl
theorem dX11_copies_10 : decode cX11_copies 10 = .ok (.iload_n 1, 1) := dAt (x := (10, .iload_n 1, 1)) DX11_copies_0 8 rfl
theorem dX11_copies_11 : decode cX11_copies 11 = .ok (.iload_n 2, 1) := dAt (x := (11, .iload_n 2, 1)) DX11_copies_0 9 rfl
theorem dX11_copies_12 : decode cX11_copies 12 = .ok (.iadd, 1) := dAt (x := (12, .iadd, 1)) DX11_copies_0 10 rfl
theorem dX11_copies_13 : decode cX11_copies 13 = .ok (.iaload, 1) := dAt (x := (13, .iaload, 1)) DX11_copies_0 11 rfl
theorem dX11_copies_14 : decode cX11_copies 14 = .ok (.iastore, 1) := dAt (x := (14, .iastore, 1)) DX11_copies_0 12 rfl
theorem dX11_copies_15 : decode cX11_copies 15 = .ok (.iinc 2 1, 3) := dAt (x := (15, .iinc 2 1, 3)) DX11_copies_0 13 rfl
theorem dX11_copies_18 : decode cX11_copies 18 = .ok (.goto (-16), 3) := dAt (x := (18, .goto (-16), 3)) DX11_copies_0 14 rfl
theorem dX11_copies_21 : decode cX11_copies 21 = .ok (.return_, 1) := dAt (x := (21, .return_, 1)) DX11_copies_0 15 rfl
def lDX11_keepText_0 : List (Nat × Instr × Nat) := [(0, .aload_n 0, 1), (1, .aload_n 0, 1), (2, .getfield 222, 3), (5, .putfield 240, 3), (8, .aload_n 0, 1), (9, .aload_n 0, 1), (10, .getfield 225, 3), (13, .putfield 243, 3), (16, .aload_n 0, 1), (17, .aload_n 0, 1), (18, .getfield 228, 3), (21, .putfield 246, 3), (24, .aload_n 0, 1), (25, .aload_n 0, 1), (26, .getfield 237, 3), (29, .putfield 249, 3), (32, .aload_n 0, 1), (33, .aload_n 0, 1), (34, .getfield 234, 3), (37, .putfield 252, 3), (40, .aload_n 0, 1), (41, .getfield 24, 3), (44, .iconst 2, 1), (45, .invokestatic 255, 3), (48, .aload_n 0, 1), (49, .getfield 27, 3), (52, .bipush 8, 2), (54, .invokestatic 255, 3), (57, .aload_n 0, 1), (58, .getfield 30, 3), (61, .bipush 8, 2), (63, .invokestatic 255, 3), (66, .aload_n 0, 1), (67, .getfield 33, 3), (70, .bipush 8, 2), (72, .invokestatic 255, 3), (75, .aload_n 0, 1), (76, .getfield 36, 3), (79, .bipush 8, 2), (81, .invokestatic 255, 3), (84, .aload_n 0, 1), (85, .getfield 39, 3), (88, .bipush 16, 2), (90, .invokestatic 255, 3), (93, .aload_n 0, 1), (94, .getfield 42, 3), (97, .bipush 16, 2), (99, .invokestatic 255, 3), (102, .aload_n 0, 1), (103, .getfield 45, 3), (106, .iconst 4, 1), (107, .invokestatic 255, 3), (110, .aload_n 0, 1), (111, .getfield 48, 3), (114, .bipush 64, 2), (116, .invokestatic 255, 3), (119, .aload_n 0, 1), (120, .getfield 51, 3), (123, .bipush 64, 2), (125, .invokestatic 255, 3)]
theorem DX11_keepText_0 : dAll cX11_keepText lDX11_keepText_0 = true := by decide +kernel
theorem dX11_keepText_0 : decode cX11_keepText 0 = .ok (.aload_n 0, 1) := dAt (x := (0, .aload_n 0, 1)) DX11_keepText_0 0 rfl
theorem dX11_keepText_1 : decode cX11_keepText 1 = .ok (.aload_n 0, 1) := dAt (x := (1, .aload_n 0, 1)) DX11_keepText_0 1 rfl
theorem dX11_keepText_2 : decode cX11_keepText 2 = .ok (.getfield 222, 3) := dAt (x := (2, .getfield 222, 3)) DX11_keepText_0 2 rfl
theorem dX11_keepText_5 : decode cX11_keepText 5 = .ok (.putfield 240, 3) := dAt (x := (5, .putfield 240, 3)) DX11_keepText_0 3 rfl
theorem dX11_keepText_8 : decode cX11_keepText 8 = .ok (.aload_n 0, 1) := dAt (x := (8, .aload_n 0, 1)) DX11_keepText_0 4 rfl
theorem dX11_keepText_9 : decode cX11_keepText 9 = .ok (.aload_n 0, 1) := dAt (x := (9, .aload_n 0, 1)) DX11_keepText_0 5 rfl
theorem dX11_keepText_10 : decode cX11_keepText 10 = .ok (.getfield 225, 3) := dAt (x := (10, .getfield 225, 3)) DX11_keepText_0 6 rfl
theorem dX11_keepText_13 : decode cX11_keepText 13 = .ok (.putfield 243, 3) := dAt (x := (13, .putfield 243, 3)) DX11_keepText_0 7 rfl
theorem dX11_keepText_16 : decode cX11_keepText 16 = .ok (.aload_n 0, 1) := dAt (x := (16, .aload_n 0, 1)) DX11_keepText_0 8 rfl
theorem dX11_keepText_17 : decode cX11_keepText 17 = .ok (.aload_n 0, 1) := dAt (x := (17, .aload_n 0, 1)) DX11_keepText_0 9 rfl
theorem dX11_keepText_18 : decode cX11_keepText 18 = .ok (.getfield 228, 3) := dAt (x := (18, .getfield 228, 3)) DX11_keepText_0 10 rfl
theorem dX11_keepText_21 : decode cX11_keepText 21 = .ok (.putfield 246, 3) := dAt (x := (21, .putfield 246, 3)) DX11_keepText_0 11 rfl
theorem dX11_keepText_24 : decode cX11_keepText 24 = .ok (.aload_n 0, 1) := dAt (x := (24, .aload_n 0, 1)) DX11_keepText_0 12 rfl
theorem dX11_keepText_25 : decode cX11_keepText 25 = .ok (.aload_n 0, 1) := dAt (x := (25, .aload_n 0, 1)) DX11_keepText_0 13 rfl
theorem dX11_keepText_26 : decode cX11_keepText 26 = .ok (.getfield 237, 3) := dAt (x := (26, .getfield 237, 3)) DX11_keepText_0 14 rfl
theorem dX11_keepText_29 : decode cX11_keepText 29 = .ok (.putfield 249, 3) := dAt (x := (29, .putfield 249, 3)) DX11_keepText_0 15 rfl
theorem dX11_keepText_32 : decode cX11_keepText 32 = .ok (.aload_n 0, 1) := dAt (x := (32, .aload_n 0, 1)) DX11_keepText_0 16 rfl
theorem dX11_keepText_33 : decode cX11_keepText 33 = .ok (.aload_n 0, 1) := dAt (x := (33, .aload_n 0, 1)) DX11_keepText_0 17 rfl
theorem dX11_keepText_34 : decode cX11_keepText 34 = .ok (.getfield 234, 3) := dAt (x := (34, .getfield 234, 3)) DX11_keepText_0 18 rfl
theorem dX11_keepText_37 : decode cX11_keepText 37 = .ok (.putfield 252, 3) := dAt (x := (37, .putfield 252, 3)) DX11_keepText_0 19 rfl
theorem dX11_keepText_40 : decode cX11_keepText 40 = .ok (.aload_n 0, 1) := dAt (x := (40, .aload_n 0, 1)) DX11_keepText_0 20 rfl
theorem dX11_keepText_41 : decode cX11_keepText 41 = .ok (.getfield 24, 3) := dAt (x := (41, .getfield 24, 3)) DX11_keepText_0 21 rfl
theorem dX11_keepText_44 : decode cX11_keepText 44 = .ok (.iconst 2, 1) := dAt (x := (44, .iconst 2, 1)) DX11_keepText_0 22 rfl
theorem dX11_keepText_45 : decode cX11_keepText 45 = .ok (.invokestatic 255, 3) := dAt (x := (45, .invokestatic 255, 3)) DX11_keepText_0 23 rfl
theorem dX11_keepText_48 : decode cX11_keepText 48 = .ok (.aload_n 0, 1) := dAt (x := (48, .aload_n 0, 1)) DX11_keepText_0 24 rfl
theorem dX11_keepText_49 : decode cX11_keepText 49 = .ok (.getfield 27, 3) := dAt (x := (49, .getfield 27, 3)) DX11_keepText_0 25 rfl
theorem dX11_keepText_52 : decode cX11_keepText 52 = .ok (.bipush 8, 2) := dAt (x := (52, .bipush 8, 2)) DX11_keepText_0 26 rfl
theorem dX11_keepText_54 : decode cX11_keepText 54 = .ok (.invokestatic 255, 3) := dAt (x := (54, .invokestatic 255, 3)) DX11_keepText_0 27 rfl
theorem dX11_keepText_57 : decode cX11_keepText 57 = .ok (.aload_n 0, 1) := dAt (x := (57, .aload_n 0, 1)) DX11_keepText_0 28 rfl
theorem dX11_keepText_58 : decode cX11_keepText 58 = .ok (.getfield 30, 3) := dAt (x := (58, .getfield 30, 3)) DX11_keepText_0 29 rfl
theorem dX11_keepText_61 : decode cX11_keepText 61 = .ok (.bipush 8, 2) := dAt (x := (61, .bipush 8, 2)) DX11_keepText_0 30 rfl
theorem dX11_keepText_63 : decode cX11_keepText 63 = .ok (.invokestatic 255, 3) := dAt (x := (63, .invokestatic 255, 3)) DX11_keepText_0 31 rfl
theorem dX11_keepText_66 : decode cX11_keepText 66 = .ok (.aload_n 0, 1) := dAt (x := (66, .aload_n 0, 1)) DX11_keepText_0 32 rfl
theorem dX11_keepText_67 : decode cX11_keepText 67 = .ok (.getfield 33, 3) := dAt (x := (67, .getfield 33, 3)) DX11_keepText_0 33 rfl
theorem dX11_keepText_70 : decode cX11_keepText 70 = .ok (.bipush 8, 2) := dAt (x := (70, .bipush 8, 2)) DX11_keepText_0 34 rfl
theorem dX11_keepText_72 : decode cX11_keepText 72 = .ok (.invokestatic 255, 3) := dAt (x := (72, .invokestatic 255, 3)) DX11_keepText_0 35 rfl
theorem dX11_keepText_75 : decode cX11_keepText 75 = .ok (.aload_n 0, 1) := dAt (x := (75, .aload_n 0, 1)) DX11_keepText_0 36 rfl
theorem dX11_keepText_76 : decode cX11_keepText 76 = .ok (.getfield 36, 3) := dAt (x := (76, .getfield 36, 3)) DX11_keepText_0 37 rfl
theorem dX11_keepText_79 : decode cX11_keepText 79 = .ok (.bipush 8, 2) := dAt (x := (79, .bipush 8, 2)) DX11_keepText_0 38 rfl
theorem dX11_keepText_81 : decode cX11_keepText 81 = .ok (.invokestatic 255, 3) := dAt (x := (81, .invokestatic 255, 3)) DX11_keepText_0 39 rfl
theorem dX11_keepText_84 : decode cX11_keepText 84 = .ok (.aload_n 0, 1) := dAt (x := (84, .aload_n 0, 1)) DX11_keepText_0 40 rfl
theorem dX11_keepText_85 : decode cX11_keepText 85 = .ok (.getfield 39, 3) := dAt (x := (85, .getfield 39, 3)) DX11_keepText_0 41 rfl
theorem dX11_keepText_88 : decode cX11_keepText 88 = .ok (.bipush 16, 2) := dAt (x := (88, .bipush 16, 2)) DX11_keepText_0 42 rfl
theorem dX11_keepText_90 : decode cX11_keepText 90 = .ok (.invokestatic 255, 3) := dAt (x := (90, .invokestatic 255, 3)) DX11_keepText_0 43 rfl
theorem dX11_keepText_93 : decode cX11_keepText 93 = .ok (.aload_n 0, 1) := dAt (x := (93, .aload_n 0, 1)) DX11_keepText_0 44 rfl
theorem dX11_keepText_94 : decode cX11_keepText 94 = .ok (.getfield 42, 3) := dAt (x := (94, .getfield 42, 3)) DX11_keepText_0 45 rfl
theorem dX11_keepText_97 : decode cX11_keepText 97 = .ok (.bipush 16, 2) := dAt (x := (97, .bipush 16, 2)) DX11_keepText_0 46 rfl
theorem dX11_keepText_99 : decode cX11_keepText 99 = .ok (.invokestatic 255, 3) := dAt (x := (99, .invokestatic 255, 3)) DX11_keepText_0 47 rfl
theorem dX11_keepText_102 : decode cX11_keepText 102 = .ok (.aload_n 0, 1) := dAt (x := (102, .aload_n 0, 1)) DX11_keepText_0 48 rfl
theorem dX11_keepText_103 : decode cX11_keepText 103 = .ok (.getfield 45, 3) := dAt (x := (103, .getfield 45, 3)) DX11_keepText_0 49 rfl
theorem dX11_keepText_106 : decode cX11_keepText 106 = .ok (.iconst 4, 1) := dAt (x := (106, .iconst 4, 1)) DX11_keepText_0 50 rfl
theorem dX11_keepText_107 : decode cX11_keepText 107 = .ok (.invokestatic 255, 3) := dAt (x := (107, .invokestatic 255, 3)) DX11_keepText_0 51 rfl
theorem dX11_keepText_110 : decode cX11_keepText 110 = .ok (.aload_n 0, 1) := dAt (x := (110, .aload_n 0, 1)) DX11_keepText_0 52 rfl
theorem dX11_keepText_111 : decode cX11_keepText 111 = .ok (.getfield 48, 3) := dAt (x := (111, .getfield 48, 3)) DX11_keepText_0 53 rfl
theorem dX11_keepText_114 : decode cX11_keepText 114 = .ok (.bipush 64, 2) := dAt (x := (114, .bipush 64, 2)) DX11_keepText_0 54 rfl
theorem dX11_keepText_116 : decode cX11_keepText 116 = .ok (.invokestatic 255, 3) := dAt (x := (116, .invokestatic 255, 3)) DX11_keepText_0 55 rfl
theorem dX11_keepText_119 : decode cX11_keepText 119 = .ok (.aload_n 0, 1) := dAt (x := (119, .aload_n 0, 1)) DX11_keepText_0 56 rfl
theorem dX11_keepText_120 : decode cX11_keepText 120 = .ok (.getfield 51, 3) := dAt (x := (120, .getfield 51, 3)) DX11_keepText_0 57 rfl
theorem dX11_keepText_123 : decode cX11_keepText 123 = .ok (.bipush 64, 2) := dAt (x := (123, .bipush 64, 2)) DX11_keepText_0 58 rfl
theorem dX11_keepText_125 : decode cX11_keepText 125 = .ok (.invokestatic 255, 3) := dAt (x := (125, .invokestatic 255, 3)) DX11_keepText_0 59 rfl
def lDX11_keepText_1 : List (Nat × Instr × Nat) := [(128, .aload_n 0, 1), (129, .getfield 54, 3), (132, .bipush 64, 2), (134, .invokestatic 255, 3), (137, .iconst 0, 1), (138, .istore_n 1, 1), (139, .iload_n 1, 1), (140, .iconst 3, 1), (141, .if_icmp .ge 23, 3), (144, .aload_n 0, 1), (145, .getfield 57, 3), (148, .iload_n 1, 1), (149, .aload_n 0, 1), (150, .getfield 57, 3), (153, .iconst 3, 1), (154, .iload_n 1, 1), (155, .iadd, 1), (156, .baload, 1), (157, .bastore, 1), (158, .iinc 1 1, 3), (161, .goto (-22), 3), (164, .aload_n 0, 1), (165, .getfield 60, 3), (168, .iconst 3, 1), (169, .invokestatic 255, 3), (172, .aload_n 0, 1), (173, .getfield 63, 3), (176, .iconst 3, 1), (177, .invokestatic 255, 3), (180, .aload_n 0, 1), (181, .getfield 66, 3), (184, .bipush 64, 2), (186, .invokestatic 255, 3), (189, .aload_n 0, 1), (190, .getfield 69, 3), (193, .bipush 64, 2), (195, .invokestatic 255, 3), (198, .aload_n 0, 1), (199, .getfield 72, 3), (202, .bipush 64, 2), (204, .invokestatic 255, 3), (207, .aload_n 0, 1), (208, .invokevirtual 259, 3), (211, .aload_n 0, 1), (212, .invokevirtual 262, 3), (215, .return_, 1)]
theorem DX11_keepText_1 : dAll cX11_keepText lDX11_keepText_1 = true := by decide +kernel
theorem dX11_keepText_128 : decode cX11_keepText 128 = .ok (.aload_n 0, 1) := dAt (x := (128, .aload_n 0, 1)) DX11_keepText_1 0 rfl
theorem dX11_keepText_129 : decode cX11_keepText 129 = .ok (.getfield 54, 3) := dAt (x := (129, .getfield 54, 3)) DX11_keepText_1 1 rfl
theorem dX11_keepText_132 : decode cX11_keepText 132 = .ok (.bipush 64, 2) := dAt (x := (132, .bipush 64, 2)) DX11_keepText_1 2 rfl
theorem dX11_keepText_134 : decode cX11_keepText 134 = .ok (.invokestatic 255, 3) := dAt (x := (134, .invokestatic 255, 3)) DX11_keepText_1 3 rfl
theorem dX11_keepText_137 : decode cX11_keepText 137 = .ok (.iconst 0, 1) := dAt (x := (137, .iconst 0, 1)) DX11_keepText_1 4 rfl
theorem dX11_keepText_138 : decode cX11_keepText 138 = .ok (.istore_n 1, 1) := dAt (x := (138, .istore_n 1, 1)) DX11_keepText_1 5 rfl
theorem dX11_keepText_139 : decode cX11_keepText 139 = .ok (.iload_n 1, 1) := dAt (x := (139, .iload_n 1, 1)) DX11_keepText_1 6 rfl
theorem dX11_keepText_140 : decode cX11_keepText 140 = .ok (.iconst 3, 1) := dAt (x := (140, .iconst 3, 1)) DX11_keepText_1 7 rfl
theorem dX11_keepText_141 : decode cX11_keepText 141 = .ok (.if_icmp .ge 23, 3) := dAt (x := (141, .if_icmp .ge 23, 3)) DX11_keepText_1 8 rfl
theorem dX11_keepText_144 : decode cX11_keepText 144 = .ok (.aload_n 0, 1) := dAt (x := (144, .aload_n 0, 1)) DX11_keepText_1 9 rfl
theorem dX11_keepText_145 : decode cX11_keepText 145 = .ok (.getfield 57, 3) := dAt (x := (145, .getfield 57, 3)) DX11_keepText_1 10 rfl
theorem dX11_keepText_148 : decode cX11_keepText 148 = .ok (.iload_n 1, 1) := dAt (x := (148, .iload_n 1, 1)) DX11_keepText_1 11 rfl
theorem dX11_keepText_149 : decode cX11_keepText 149 = .ok (.aload_n 0, 1) := dAt (x := (149, .aload_n 0, 1)) DX11_keepText_1 12 rfl
theorem dX11_keepText_150 : decode cX11_keepText 150 = .ok (.getfield 57, 3) := dAt (x := (150, .getfield 57, 3)) DX11_keepText_1 13 rfl
theorem dX11_keepText_153 : decode cX11_keepText 153 = .ok (.iconst 3, 1) := dAt (x := (153, .iconst 3, 1)) DX11_keepText_1 14 rfl
theorem dX11_keepText_154 : decode cX11_keepText 154 = .ok (.iload_n 1, 1) := dAt (x := (154, .iload_n 1, 1)) DX11_keepText_1 15 rfl
theorem dX11_keepText_155 : decode cX11_keepText 155 = .ok (.iadd, 1) := dAt (x := (155, .iadd, 1)) DX11_keepText_1 16 rfl
theorem dX11_keepText_156 : decode cX11_keepText 156 = .ok (.baload, 1) := dAt (x := (156, .baload, 1)) DX11_keepText_1 17 rfl
theorem dX11_keepText_157 : decode cX11_keepText 157 = .ok (.bastore, 1) := dAt (x := (157, .bastore, 1)) DX11_keepText_1 18 rfl
theorem dX11_keepText_158 : decode cX11_keepText 158 = .ok (.iinc 1 1, 3) := dAt (x := (158, .iinc 1 1, 3)) DX11_keepText_1 19 rfl
theorem dX11_keepText_161 : decode cX11_keepText 161 = .ok (.goto (-22), 3) := dAt (x := (161, .goto (-22), 3)) DX11_keepText_1 20 rfl
theorem dX11_keepText_164 : decode cX11_keepText 164 = .ok (.aload_n 0, 1) := dAt (x := (164, .aload_n 0, 1)) DX11_keepText_1 21 rfl
theorem dX11_keepText_165 : decode cX11_keepText 165 = .ok (.getfield 60, 3) := dAt (x := (165, .getfield 60, 3)) DX11_keepText_1 22 rfl
theorem dX11_keepText_168 : decode cX11_keepText 168 = .ok (.iconst 3, 1) := dAt (x := (168, .iconst 3, 1)) DX11_keepText_1 23 rfl
theorem dX11_keepText_169 : decode cX11_keepText 169 = .ok (.invokestatic 255, 3) := dAt (x := (169, .invokestatic 255, 3)) DX11_keepText_1 24 rfl
theorem dX11_keepText_172 : decode cX11_keepText 172 = .ok (.aload_n 0, 1) := dAt (x := (172, .aload_n 0, 1)) DX11_keepText_1 25 rfl
theorem dX11_keepText_173 : decode cX11_keepText 173 = .ok (.getfield 63, 3) := dAt (x := (173, .getfield 63, 3)) DX11_keepText_1 26 rfl
theorem dX11_keepText_176 : decode cX11_keepText 176 = .ok (.iconst 3, 1) := dAt (x := (176, .iconst 3, 1)) DX11_keepText_1 27 rfl
theorem dX11_keepText_177 : decode cX11_keepText 177 = .ok (.invokestatic 255, 3) := dAt (x := (177, .invokestatic 255, 3)) DX11_keepText_1 28 rfl
theorem dX11_keepText_180 : decode cX11_keepText 180 = .ok (.aload_n 0, 1) := dAt (x := (180, .aload_n 0, 1)) DX11_keepText_1 29 rfl
theorem dX11_keepText_181 : decode cX11_keepText 181 = .ok (.getfield 66, 3) := dAt (x := (181, .getfield 66, 3)) DX11_keepText_1 30 rfl
theorem dX11_keepText_184 : decode cX11_keepText 184 = .ok (.bipush 64, 2) := dAt (x := (184, .bipush 64, 2)) DX11_keepText_1 31 rfl
theorem dX11_keepText_186 : decode cX11_keepText 186 = .ok (.invokestatic 255, 3) := dAt (x := (186, .invokestatic 255, 3)) DX11_keepText_1 32 rfl
theorem dX11_keepText_189 : decode cX11_keepText 189 = .ok (.aload_n 0, 1) := dAt (x := (189, .aload_n 0, 1)) DX11_keepText_1 33 rfl
theorem dX11_keepText_190 : decode cX11_keepText 190 = .ok (.getfield 69, 3) := dAt (x := (190, .getfield 69, 3)) DX11_keepText_1 34 rfl
theorem dX11_keepText_193 : decode cX11_keepText 193 = .ok (.bipush 64, 2) := dAt (x := (193, .bipush 64, 2)) DX11_keepText_1 35 rfl
theorem dX11_keepText_195 : decode cX11_keepText 195 = .ok (.invokestatic 255, 3) := dAt (x := (195, .invokestatic 255, 3)) DX11_keepText_1 36 rfl
theorem dX11_keepText_198 : decode cX11_keepText 198 = .ok (.aload_n 0, 1) := dAt (x := (198, .aload_n 0, 1)) DX11_keepText_1 37 rfl
theorem dX11_keepText_199 : decode cX11_keepText 199 = .ok (.getfield 72, 3) := dAt (x := (199, .getfield 72, 3)) DX11_keepText_1 38 rfl
theorem dX11_keepText_202 : decode cX11_keepText 202 = .ok (.bipush 64, 2) := dAt (x := (202, .bipush 64, 2)) DX11_keepText_1 39 rfl
theorem dX11_keepText_204 : decode cX11_keepText 204 = .ok (.invokestatic 255, 3) := dAt (x := (204, .invokestatic 255, 3)) DX11_keepText_1 40 rfl
theorem dX11_keepText_207 : decode cX11_keepText 207 = .ok (.aload_n 0, 1) := dAt (x := (207, .aload_n 0, 1)) DX11_keepText_1 41 rfl
theorem dX11_keepText_208 : decode cX11_keepText 208 = .ok (.invokevirtual 259, 3) := dAt (x := (208, .invokevirtual 259, 3)) DX11_keepText_1 42 rfl
theorem dX11_keepText_211 : decode cX11_keepText 211 = .ok (.aload_n 0, 1) := dAt (x := (211, .aload_n 0, 1)) DX11_keepText_1 43 rfl
theorem dX11_keepText_212 : decode cX11_keepText 212 = .ok (.invokevirtual 262, 3) := dAt (x := (212, .invokevirtual 262, 3)) DX11_keepText_1 44 rfl
theorem dX11_keepText_215 : decode cX11_keepText 215 = .ok (.return_, 1) := dAt (x := (215, .return_, 1)) DX11_keepText_1 45 rfl
def lDX11_find_0 : List (Nat × Instr × Nat) := [(0, .iconst 0, 1), (1, .istore 4, 2), (3, .iload 4, 2), (5, .iload_n 2, 1), (6, .if_icmp .ge 22, 3), (9, .aload_n 0, 1), (10, .iload_n 1, 1), (11, .iload 4, 2), (13, .iadd, 1), (14, .iaload, 1), (15, .iload_n 3, 1), (16, .if_icmp .ne 6, 3), (19, .iload 4, 2), (21, .ireturn, 1), (22, .iinc 4 1, 3), (25, .goto (-22), 3), (28, .iconst (-1), 1), (29, .ireturn, 1)]
theorem DX11_find_0 : dAll cX11_find lDX11_find_0 = true := by decide +kernel
theorem dX11_find_0 : decode cX11_find 0 = .ok (.iconst 0, 1) := dAt (x := (0, .iconst 0, 1)) DX11_find_0 0 rfl
theorem dX11_find_1 : decode cX11_find 1 = .ok (.istore 4, 2) := dAt (x := (1, .istore 4, 2)) DX11_find_0 1 rfl
theorem dX11_find_3 : decode cX11_find 3 = .ok (.iload 4, 2) := dAt (x := (3, .iload 4, 2)) DX11_find_0 2 rfl
theorem dX11_find_5 : decode cX11_find 5 = .ok (.iload_n 2, 1) := dAt (x := (5, .iload_n 2, 1)) DX11_find_0 3 rfl
theorem dX11_find_6 : decode cX11_find 6 = .ok (.if_icmp .ge 22, 3) := dAt (x := (6, .if_icmp .ge 22, 3)) DX11_find_0 4 rfl
theorem dX11_find_9 : decode cX11_find 9 = .ok (.aload_n 0, 1) := dAt (x := (9, .aload_n 0, 1)) DX11_find_0 5 rfl
theorem dX11_find_10 : decode cX11_find 10 = .ok (.iload_n 1, 1) := dAt (x := (10, .iload_n 1, 1)) DX11_find_0 6 rfl
theorem dX11_find_11 : decode cX11_find 11 = .ok (.iload 4, 2) := dAt (x := (11, .iload 4, 2)) DX11_find_0 7 rfl
theorem dX11_find_13 : decode cX11_find 13 = .ok (.iadd, 1) := dAt (x := (13, .iadd, 1)) DX11_find_0 8 rfl
theorem dX11_find_14 : decode cX11_find 14 = .ok (.iaload, 1) := dAt (x := (14, .iaload, 1)) DX11_find_0 9 rfl
theorem dX11_find_15 : decode cX11_find 15 = .ok (.iload_n 3, 1) := dAt (x := (15, .iload_n 3, 1)) DX11_find_0 10 rfl
theorem dX11_find_16 : decode cX11_find 16 = .ok (.if_icmp .ne 6, 3) := dAt (x := (16, .if_icmp .ne 6, 3)) DX11_find_0 11 rfl
theorem dX11_find_19 : decode cX11_find 19 = .ok (.iload 4, 2) := dAt (x := (19, .iload 4, 2)) DX11_find_0 12 rfl
theorem dX11_find_21 : decode cX11_find 21 = .ok (.ireturn, 1) := dAt (x := (21, .ireturn, 1)) DX11_find_0 13 rfl
theorem dX11_find_22 : decode cX11_find 22 = .ok (.iinc 4 1, 3) := dAt (x := (22, .iinc 4 1, 3)) DX11_find_0 14 rfl
theorem dX11_find_25 : decode cX11_find 25 = .ok (.goto (-22), 3) := dAt (x := (25, .goto (-22), 3)) DX11_find_0 15 rfl
theorem dX11_find_28 : decode cX11_find 28 = .ok (.iconst (-1), 1) := dAt (x := (28, .iconst (-1), 1)) DX11_find_0 16 rfl
theorem dX11_find_29 : decode cX11_find 29 = .ok (.ireturn, 1) := dAt (x := (29, .ireturn, 1)) DX11_find_0 17 rfl
def lDX11_latchThere_0 : List (Nat × Instr × Nat) := [(0, .aload_n 0, 1), (1, .getfield 178, 3), (4, .iconst 2, 1), (5, .if_icmp .eq 9, 3), (8, .aload_n 0, 1), (9, .iconst 1, 1), (10, .invokevirtual 202, 3), (13, .ireturn, 1), (14, .aload_n 0, 1), (15, .getfield 27, 3), (18, .bipush 8, 2), (20, .aload_n 0, 1), (21, .getfield 222, 3), (24, .aload_n 0, 1), (25, .getfield 189, 3), (28, .invokestatic 265, 3), (31, .istore_n 1, 1), (32, .iload_n 1, 1), (33, .ifCond .ge 9, 3), (36, .aload_n 0, 1), (37, .iconst 4, 1), (38, .invokevirtual 202, 3), (41, .ireturn, 1), (42, .aload_n 0, 1), (43, .invokevirtual 212, 3), (46, .aload_n 0, 1), (47, .iload_n 1, 1), (48, .putfield 209, 3), (51, .iconst 1, 1), (52, .ireturn, 1)]
theorem DX11_latchThere_0 : dAll cX11_latchThere lDX11_latchThere_0 = true := by decide +kernel
theorem dX11_latchThere_0 : decode cX11_latchThere 0 = .ok (.aload_n 0, 1) := dAt (x := (0, .aload_n 0, 1)) DX11_latchThere_0 0 rfl
theorem dX11_latchThere_1 : decode cX11_latchThere 1 = .ok (.getfield 178, 3) := dAt (x := (1, .getfield 178, 3)) DX11_latchThere_0 1 rfl
theorem dX11_latchThere_4 : decode cX11_latchThere 4 = .ok (.iconst 2, 1) := dAt (x := (4, .iconst 2, 1)) DX11_latchThere_0 2 rfl
theorem dX11_latchThere_5 : decode cX11_latchThere 5 = .ok (.if_icmp .eq 9, 3) := dAt (x := (5, .if_icmp .eq 9, 3)) DX11_latchThere_0 3 rfl
theorem dX11_latchThere_8 : decode cX11_latchThere 8 = .ok (.aload_n 0, 1) := dAt (x := (8, .aload_n 0, 1)) DX11_latchThere_0 4 rfl
theorem dX11_latchThere_9 : decode cX11_latchThere 9 = .ok (.iconst 1, 1) := dAt (x := (9, .iconst 1, 1)) DX11_latchThere_0 5 rfl
theorem dX11_latchThere_10 : decode cX11_latchThere 10 = .ok (.invokevirtual 202, 3) := dAt (x := (10, .invokevirtual 202, 3)) DX11_latchThere_0 6 rfl
theorem dX11_latchThere_13 : decode cX11_latchThere 13 = .ok (.ireturn, 1) := dAt (x := (13, .ireturn, 1)) DX11_latchThere_0 7 rfl
theorem dX11_latchThere_14 : decode cX11_latchThere 14 = .ok (.aload_n 0, 1) := dAt (x := (14, .aload_n 0, 1)) DX11_latchThere_0 8 rfl
theorem dX11_latchThere_15 : decode cX11_latchThere 15 = .ok (.getfield 27, 3) := dAt (x := (15, .getfield 27, 3)) DX11_latchThere_0 9 rfl
theorem dX11_latchThere_18 : decode cX11_latchThere 18 = .ok (.bipush 8, 2) := dAt (x := (18, .bipush 8, 2)) DX11_latchThere_0 10 rfl
theorem dX11_latchThere_20 : decode cX11_latchThere 20 = .ok (.aload_n 0, 1) := dAt (x := (20, .aload_n 0, 1)) DX11_latchThere_0 11 rfl
theorem dX11_latchThere_21 : decode cX11_latchThere 21 = .ok (.getfield 222, 3) := dAt (x := (21, .getfield 222, 3)) DX11_latchThere_0 12 rfl
theorem dX11_latchThere_24 : decode cX11_latchThere 24 = .ok (.aload_n 0, 1) := dAt (x := (24, .aload_n 0, 1)) DX11_latchThere_0 13 rfl
theorem dX11_latchThere_25 : decode cX11_latchThere 25 = .ok (.getfield 189, 3) := dAt (x := (25, .getfield 189, 3)) DX11_latchThere_0 14 rfl
theorem dX11_latchThere_28 : decode cX11_latchThere 28 = .ok (.invokestatic 265, 3) := dAt (x := (28, .invokestatic 265, 3)) DX11_latchThere_0 15 rfl
theorem dX11_latchThere_31 : decode cX11_latchThere 31 = .ok (.istore_n 1, 1) := dAt (x := (31, .istore_n 1, 1)) DX11_latchThere_0 16 rfl
theorem dX11_latchThere_32 : decode cX11_latchThere 32 = .ok (.iload_n 1, 1) := dAt (x := (32, .iload_n 1, 1)) DX11_latchThere_0 17 rfl
theorem dX11_latchThere_33 : decode cX11_latchThere 33 = .ok (.ifCond .ge 9, 3) := dAt (x := (33, .ifCond .ge 9, 3)) DX11_latchThere_0 18 rfl
theorem dX11_latchThere_36 : decode cX11_latchThere 36 = .ok (.aload_n 0, 1) := dAt (x := (36, .aload_n 0, 1)) DX11_latchThere_0 19 rfl
theorem dX11_latchThere_37 : decode cX11_latchThere 37 = .ok (.iconst 4, 1) := dAt (x := (37, .iconst 4, 1)) DX11_latchThere_0 20 rfl
theorem dX11_latchThere_38 : decode cX11_latchThere 38 = .ok (.invokevirtual 202, 3) := dAt (x := (38, .invokevirtual 202, 3)) DX11_latchThere_0 21 rfl
theorem dX11_latchThere_41 : decode cX11_latchThere 41 = .ok (.ireturn, 1) := dAt (x := (41, .ireturn, 1)) DX11_latchThere_0 22 rfl
theorem dX11_latchThere_42 : decode cX11_latchThere 42 = .ok (.aload_n 0, 1) := dAt (x := (42, .aload_n 0, 1)) DX11_latchThere_0 23 rfl
theorem dX11_latchThere_43 : decode cX11_latchThere 43 = .ok (.invokevirtual 212, 3) := dAt (x := (43, .invokevirtual 212, 3)) DX11_latchThere_0 24 rfl
theorem dX11_latchThere_46 : decode cX11_latchThere 46 = .ok (.aload_n 0, 1) := dAt (x := (46, .aload_n 0, 1)) DX11_latchThere_0 25 rfl
theorem dX11_latchThere_47 : decode cX11_latchThere 47 = .ok (.iload_n 1, 1) := dAt (x := (47, .iload_n 1, 1)) DX11_latchThere_0 26 rfl
theorem dX11_latchThere_48 : decode cX11_latchThere 48 = .ok (.putfield 209, 3) := dAt (x := (48, .putfield 209, 3)) DX11_latchThere_0 27 rfl
theorem dX11_latchThere_51 : decode cX11_latchThere 51 = .ok (.iconst 1, 1) := dAt (x := (51, .iconst 1, 1)) DX11_latchThere_0 28 rfl
theorem dX11_latchThere_52 : decode cX11_latchThere 52 = .ok (.ireturn, 1) := dAt (x := (52, .ireturn, 1)) DX11_latchThere_0 29 rfl
def lDX11_latchLine_0 : List (Nat × Instr × Nat) := [(0, .aload_n 0, 1), (1, .getfield 222, 3), (4, .bipush 8, 2), (6, .if_icmp .ne 9, 3), (9, .aload_n 0, 1), (10, .iconst 2, 1), (11, .invokevirtual 202, 3), (14, .ireturn, 1), (15, .aload_n 0, 1), (16, .invokevirtual 212, 3), (19, .aload_n 0, 1), (20, .getfield 178, 3), (23, .iconst 2, 1), (24, .if_icmp .eq 9, 3), (27, .aload_n 0, 1), (28, .iconst 1, 1), (29, .invokevirtual 202, 3), (32, .ireturn, 1), (33, .aload_n 0, 1), (34, .getfield 27, 3), (37, .bipush 8, 2), (39, .aload_n 0, 1), (40, .getfield 222, 3), (43, .aload_n 0, 1), (44, .getfield 189, 3), (47, .invokestatic 265, 3), (50, .ifCond .lt 9, 3), (53, .aload_n 0, 1), (54, .iconst 3, 1), (55, .invokevirtual 202, 3), (58, .ireturn, 1), (59, .aload_n 0, 1), (60, .getfield 27, 3), (63, .bipush 8, 2), (65, .aload_n 0, 1), (66, .getfield 222, 3), (69, .iadd, 1), (70, .aload_n 0, 1), (71, .getfield 189, 3), (74, .iastore, 1), (75, .aload_n 0, 1), (76, .invokevirtual 212, 3), (79, .aload_n 0, 1), (80, .iconst 0, 1), (81, .iconst 1, 1), (82, .invokevirtual 218, 3), (85, .ifCond .ne 5, 3), (88, .iconst 0, 1), (89, .ireturn, 1), (90, .aload_n 0, 1), (91, .getfield 30, 3), (94, .bipush 8, 2), (96, .aload_n 0, 1), (97, .getfield 222, 3), (100, .iadd, 1), (101, .aload_n 0, 1), (102, .getfield 209, 3), (105, .iastore, 1), (106, .aload_n 0, 1), (107, .dup, 1)]
theorem DX11_latchLine_0 : dAll cX11_latchLine lDX11_latchLine_0 = true := by decide +kernel
theorem dX11_latchLine_0 : decode cX11_latchLine 0 = .ok (.aload_n 0, 1) := dAt (x := (0, .aload_n 0, 1)) DX11_latchLine_0 0 rfl
theorem dX11_latchLine_1 : decode cX11_latchLine 1 = .ok (.getfield 222, 3) := dAt (x := (1, .getfield 222, 3)) DX11_latchLine_0 1 rfl
theorem dX11_latchLine_4 : decode cX11_latchLine 4 = .ok (.bipush 8, 2) := dAt (x := (4, .bipush 8, 2)) DX11_latchLine_0 2 rfl
theorem dX11_latchLine_6 : decode cX11_latchLine 6 = .ok (.if_icmp .ne 9, 3) := dAt (x := (6, .if_icmp .ne 9, 3)) DX11_latchLine_0 3 rfl
theorem dX11_latchLine_9 : decode cX11_latchLine 9 = .ok (.aload_n 0, 1) := dAt (x := (9, .aload_n 0, 1)) DX11_latchLine_0 4 rfl
theorem dX11_latchLine_10 : decode cX11_latchLine 10 = .ok (.iconst 2, 1) := dAt (x := (10, .iconst 2, 1)) DX11_latchLine_0 5 rfl
theorem dX11_latchLine_11 : decode cX11_latchLine 11 = .ok (.invokevirtual 202, 3) := dAt (x := (11, .invokevirtual 202, 3)) DX11_latchLine_0 6 rfl
theorem dX11_latchLine_14 : decode cX11_latchLine 14 = .ok (.ireturn, 1) := dAt (x := (14, .ireturn, 1)) DX11_latchLine_0 7 rfl
theorem dX11_latchLine_15 : decode cX11_latchLine 15 = .ok (.aload_n 0, 1) := dAt (x := (15, .aload_n 0, 1)) DX11_latchLine_0 8 rfl
theorem dX11_latchLine_16 : decode cX11_latchLine 16 = .ok (.invokevirtual 212, 3) := dAt (x := (16, .invokevirtual 212, 3)) DX11_latchLine_0 9 rfl
theorem dX11_latchLine_19 : decode cX11_latchLine 19 = .ok (.aload_n 0, 1) := dAt (x := (19, .aload_n 0, 1)) DX11_latchLine_0 10 rfl
theorem dX11_latchLine_20 : decode cX11_latchLine 20 = .ok (.getfield 178, 3) := dAt (x := (20, .getfield 178, 3)) DX11_latchLine_0 11 rfl
theorem dX11_latchLine_23 : decode cX11_latchLine 23 = .ok (.iconst 2, 1) := dAt (x := (23, .iconst 2, 1)) DX11_latchLine_0 12 rfl
theorem dX11_latchLine_24 : decode cX11_latchLine 24 = .ok (.if_icmp .eq 9, 3) := dAt (x := (24, .if_icmp .eq 9, 3)) DX11_latchLine_0 13 rfl
theorem dX11_latchLine_27 : decode cX11_latchLine 27 = .ok (.aload_n 0, 1) := dAt (x := (27, .aload_n 0, 1)) DX11_latchLine_0 14 rfl
theorem dX11_latchLine_28 : decode cX11_latchLine 28 = .ok (.iconst 1, 1) := dAt (x := (28, .iconst 1, 1)) DX11_latchLine_0 15 rfl
theorem dX11_latchLine_29 : decode cX11_latchLine 29 = .ok (.invokevirtual 202, 3) := dAt (x := (29, .invokevirtual 202, 3)) DX11_latchLine_0 16 rfl
theorem dX11_latchLine_32 : decode cX11_latchLine 32 = .ok (.ireturn, 1) := dAt (x := (32, .ireturn, 1)) DX11_latchLine_0 17 rfl
theorem dX11_latchLine_33 : decode cX11_latchLine 33 = .ok (.aload_n 0, 1) := dAt (x := (33, .aload_n 0, 1)) DX11_latchLine_0 18 rfl
theorem dX11_latchLine_34 : decode cX11_latchLine 34 = .ok (.getfield 27, 3) := dAt (x := (34, .getfield 27, 3)) DX11_latchLine_0 19 rfl
theorem dX11_latchLine_37 : decode cX11_latchLine 37 = .ok (.bipush 8, 2) := dAt (x := (37, .bipush 8, 2)) DX11_latchLine_0 20 rfl
theorem dX11_latchLine_39 : decode cX11_latchLine 39 = .ok (.aload_n 0, 1) := dAt (x := (39, .aload_n 0, 1)) DX11_latchLine_0 21 rfl
theorem dX11_latchLine_40 : decode cX11_latchLine 40 = .ok (.getfield 222, 3) := dAt (x := (40, .getfield 222, 3)) DX11_latchLine_0 22 rfl
theorem dX11_latchLine_43 : decode cX11_latchLine 43 = .ok (.aload_n 0, 1) := dAt (x := (43, .aload_n 0, 1)) DX11_latchLine_0 23 rfl
theorem dX11_latchLine_44 : decode cX11_latchLine 44 = .ok (.getfield 189, 3) := dAt (x := (44, .getfield 189, 3)) DX11_latchLine_0 24 rfl
theorem dX11_latchLine_47 : decode cX11_latchLine 47 = .ok (.invokestatic 265, 3) := dAt (x := (47, .invokestatic 265, 3)) DX11_latchLine_0 25 rfl
theorem dX11_latchLine_50 : decode cX11_latchLine 50 = .ok (.ifCond .lt 9, 3) := dAt (x := (50, .ifCond .lt 9, 3)) DX11_latchLine_0 26 rfl
theorem dX11_latchLine_53 : decode cX11_latchLine 53 = .ok (.aload_n 0, 1) := dAt (x := (53, .aload_n 0, 1)) DX11_latchLine_0 27 rfl
theorem dX11_latchLine_54 : decode cX11_latchLine 54 = .ok (.iconst 3, 1) := dAt (x := (54, .iconst 3, 1)) DX11_latchLine_0 28 rfl
theorem dX11_latchLine_55 : decode cX11_latchLine 55 = .ok (.invokevirtual 202, 3) := dAt (x := (55, .invokevirtual 202, 3)) DX11_latchLine_0 29 rfl
theorem dX11_latchLine_58 : decode cX11_latchLine 58 = .ok (.ireturn, 1) := dAt (x := (58, .ireturn, 1)) DX11_latchLine_0 30 rfl
theorem dX11_latchLine_59 : decode cX11_latchLine 59 = .ok (.aload_n 0, 1) := dAt (x := (59, .aload_n 0, 1)) DX11_latchLine_0 31 rfl
theorem dX11_latchLine_60 : decode cX11_latchLine 60 = .ok (.getfield 27, 3) := dAt (x := (60, .getfield 27, 3)) DX11_latchLine_0 32 rfl
theorem dX11_latchLine_63 : decode cX11_latchLine 63 = .ok (.bipush 8, 2) := dAt (x := (63, .bipush 8, 2)) DX11_latchLine_0 33 rfl
theorem dX11_latchLine_65 : decode cX11_latchLine 65 = .ok (.aload_n 0, 1) := dAt (x := (65, .aload_n 0, 1)) DX11_latchLine_0 34 rfl
theorem dX11_latchLine_66 : decode cX11_latchLine 66 = .ok (.getfield 222, 3) := dAt (x := (66, .getfield 222, 3)) DX11_latchLine_0 35 rfl
theorem dX11_latchLine_69 : decode cX11_latchLine 69 = .ok (.iadd, 1) := dAt (x := (69, .iadd, 1)) DX11_latchLine_0 36 rfl
theorem dX11_latchLine_70 : decode cX11_latchLine 70 = .ok (.aload_n 0, 1) := dAt (x := (70, .aload_n 0, 1)) DX11_latchLine_0 37 rfl
theorem dX11_latchLine_71 : decode cX11_latchLine 71 = .ok (.getfield 189, 3) := dAt (x := (71, .getfield 189, 3)) DX11_latchLine_0 38 rfl
theorem dX11_latchLine_74 : decode cX11_latchLine 74 = .ok (.iastore, 1) := dAt (x := (74, .iastore, 1)) DX11_latchLine_0 39 rfl
theorem dX11_latchLine_75 : decode cX11_latchLine 75 = .ok (.aload_n 0, 1) := dAt (x := (75, .aload_n 0, 1)) DX11_latchLine_0 40 rfl
theorem dX11_latchLine_76 : decode cX11_latchLine 76 = .ok (.invokevirtual 212, 3) := dAt (x := (76, .invokevirtual 212, 3)) DX11_latchLine_0 41 rfl
theorem dX11_latchLine_79 : decode cX11_latchLine 79 = .ok (.aload_n 0, 1) := dAt (x := (79, .aload_n 0, 1)) DX11_latchLine_0 42 rfl
theorem dX11_latchLine_80 : decode cX11_latchLine 80 = .ok (.iconst 0, 1) := dAt (x := (80, .iconst 0, 1)) DX11_latchLine_0 43 rfl
theorem dX11_latchLine_81 : decode cX11_latchLine 81 = .ok (.iconst 1, 1) := dAt (x := (81, .iconst 1, 1)) DX11_latchLine_0 44 rfl
theorem dX11_latchLine_82 : decode cX11_latchLine 82 = .ok (.invokevirtual 218, 3) := dAt (x := (82, .invokevirtual 218, 3)) DX11_latchLine_0 45 rfl
theorem dX11_latchLine_85 : decode cX11_latchLine 85 = .ok (.ifCond .ne 5, 3) := dAt (x := (85, .ifCond .ne 5, 3)) DX11_latchLine_0 46 rfl
theorem dX11_latchLine_88 : decode cX11_latchLine 88 = .ok (.iconst 0, 1) := dAt (x := (88, .iconst 0, 1)) DX11_latchLine_0 47 rfl
theorem dX11_latchLine_89 : decode cX11_latchLine 89 = .ok (.ireturn, 1) := dAt (x := (89, .ireturn, 1)) DX11_latchLine_0 48 rfl
theorem dX11_latchLine_90 : decode cX11_latchLine 90 = .ok (.aload_n 0, 1) := dAt (x := (90, .aload_n 0, 1)) DX11_latchLine_0 49 rfl
theorem dX11_latchLine_91 : decode cX11_latchLine 91 = .ok (.getfield 30, 3) := dAt (x := (91, .getfield 30, 3)) DX11_latchLine_0 50 rfl
theorem dX11_latchLine_94 : decode cX11_latchLine 94 = .ok (.bipush 8, 2) := dAt (x := (94, .bipush 8, 2)) DX11_latchLine_0 51 rfl
theorem dX11_latchLine_96 : decode cX11_latchLine 96 = .ok (.aload_n 0, 1) := dAt (x := (96, .aload_n 0, 1)) DX11_latchLine_0 52 rfl
theorem dX11_latchLine_97 : decode cX11_latchLine 97 = .ok (.getfield 222, 3) := dAt (x := (97, .getfield 222, 3)) DX11_latchLine_0 53 rfl
theorem dX11_latchLine_100 : decode cX11_latchLine 100 = .ok (.iadd, 1) := dAt (x := (100, .iadd, 1)) DX11_latchLine_0 54 rfl
theorem dX11_latchLine_101 : decode cX11_latchLine 101 = .ok (.aload_n 0, 1) := dAt (x := (101, .aload_n 0, 1)) DX11_latchLine_0 55 rfl
theorem dX11_latchLine_102 : decode cX11_latchLine 102 = .ok (.getfield 209, 3) := dAt (x := (102, .getfield 209, 3)) DX11_latchLine_0 56 rfl
theorem dX11_latchLine_105 : decode cX11_latchLine 105 = .ok (.iastore, 1) := dAt (x := (105, .iastore, 1)) DX11_latchLine_0 57 rfl
theorem dX11_latchLine_106 : decode cX11_latchLine 106 = .ok (.aload_n 0, 1) := dAt (x := (106, .aload_n 0, 1)) DX11_latchLine_0 58 rfl
theorem dX11_latchLine_107 : decode cX11_latchLine 107 = .ok (.dup, 1) := dAt (x := (107, .dup, 1)) DX11_latchLine_0 59 rfl
def lDX11_latchLine_1 : List (Nat × Instr × Nat) := [(108, .getfield 222, 3), (111, .iconst 1, 1), (112, .iadd, 1), (113, .putfield 222, 3), (116, .iconst 1, 1), (117, .ireturn, 1)]
theorem DX11_latchLine_1 : dAll cX11_latchLine lDX11_latchLine_1 = true := by decide +kernel
theorem dX11_latchLine_108 : decode cX11_latchLine 108 = .ok (.getfield 222, 3) := dAt (x := (108, .getfield 222, 3)) DX11_latchLine_1 0 rfl
theorem dX11_latchLine_111 : decode cX11_latchLine 111 = .ok (.iconst 1, 1) := dAt (x := (111, .iconst 1, 1)) DX11_latchLine_1 1 rfl
theorem dX11_latchLine_112 : decode cX11_latchLine 112 = .ok (.iadd, 1) := dAt (x := (112, .iadd, 1)) DX11_latchLine_1 2 rfl
theorem dX11_latchLine_113 : decode cX11_latchLine 113 = .ok (.putfield 222, 3) := dAt (x := (113, .putfield 222, 3)) DX11_latchLine_1 3 rfl
theorem dX11_latchLine_116 : decode cX11_latchLine 116 = .ok (.iconst 1, 1) := dAt (x := (116, .iconst 1, 1)) DX11_latchLine_1 4 rfl
theorem dX11_latchLine_117 : decode cX11_latchLine 117 = .ok (.ireturn, 1) := dAt (x := (117, .ireturn, 1)) DX11_latchLine_1 5 rfl
def lDX11_leanLine_0 : List (Nat × Instr × Nat) := [(0, .aload_n 0, 1), (1, .invokevirtual 212, 3), (4, .aload_n 0, 1), (5, .getfield 169, 3), (8, .istore_n 1, 1), (9, .aload_n 0, 1), (10, .invokevirtual 269, 3), (13, .ifCond .ne 5, 3), (16, .iconst 0, 1), (17, .ireturn, 1), (18, .bipush 8, 2), (20, .aload_n 0, 1), (21, .getfield 209, 3), (24, .iadd, 1), (25, .istore_n 2, 1), (26, .aload_n 0, 1), (27, .getfield 33, 3), (30, .iload_n 2, 1), (31, .iaload, 1), (32, .ifCond .lt 14, 3), (35, .aload_n 0, 1), (36, .iload_n 1, 1), (37, .putfield 169, 3), (40, .aload_n 0, 1), (41, .iconst 3, 1), (42, .invokevirtual 202, 3), (45, .ireturn, 1), (46, .aload_n 0, 1), (47, .aload_n 0, 1), (48, .getfield 209, 3), (51, .invokevirtual 273, 3), (54, .ifCond .ne 5, 3), (57, .iconst 0, 1), (58, .ireturn, 1), (59, .aload_n 0, 1), (60, .getfield 33, 3), (63, .iload_n 2, 1), (64, .aload_n 0, 1), (65, .getfield 234, 3), (68, .iconst 1, 1), (69, .isub, 1), (70, .iastore, 1), (71, .iconst 1, 1), (72, .ireturn, 1)]
theorem DX11_leanLine_0 : dAll cX11_leanLine lDX11_leanLine_0 = true := by decide +kernel
theorem dX11_leanLine_0 : decode cX11_leanLine 0 = .ok (.aload_n 0, 1) := dAt (x := (0, .aload_n 0, 1)) DX11_leanLine_0 0 rfl
theorem dX11_leanLine_1 : decode cX11_leanLine 1 = .ok (.invokevirtual 212, 3) := dAt (x := (1, .invokevirtual 212, 3)) DX11_leanLine_0 1 rfl
theorem dX11_leanLine_4 : decode cX11_leanLine 4 = .ok (.aload_n 0, 1) := dAt (x := (4, .aload_n 0, 1)) DX11_leanLine_0 2 rfl
theorem dX11_leanLine_5 : decode cX11_leanLine 5 = .ok (.getfield 169, 3) := dAt (x := (5, .getfield 169, 3)) DX11_leanLine_0 3 rfl
theorem dX11_leanLine_8 : decode cX11_leanLine 8 = .ok (.istore_n 1, 1) := dAt (x := (8, .istore_n 1, 1)) DX11_leanLine_0 4 rfl
theorem dX11_leanLine_9 : decode cX11_leanLine 9 = .ok (.aload_n 0, 1) := dAt (x := (9, .aload_n 0, 1)) DX11_leanLine_0 5 rfl
theorem dX11_leanLine_10 : decode cX11_leanLine 10 = .ok (.invokevirtual 269, 3) := dAt (x := (10, .invokevirtual 269, 3)) DX11_leanLine_0 6 rfl
theorem dX11_leanLine_13 : decode cX11_leanLine 13 = .ok (.ifCond .ne 5, 3) := dAt (x := (13, .ifCond .ne 5, 3)) DX11_leanLine_0 7 rfl
theorem dX11_leanLine_16 : decode cX11_leanLine 16 = .ok (.iconst 0, 1) := dAt (x := (16, .iconst 0, 1)) DX11_leanLine_0 8 rfl
theorem dX11_leanLine_17 : decode cX11_leanLine 17 = .ok (.ireturn, 1) := dAt (x := (17, .ireturn, 1)) DX11_leanLine_0 9 rfl
theorem dX11_leanLine_18 : decode cX11_leanLine 18 = .ok (.bipush 8, 2) := dAt (x := (18, .bipush 8, 2)) DX11_leanLine_0 10 rfl
theorem dX11_leanLine_20 : decode cX11_leanLine 20 = .ok (.aload_n 0, 1) := dAt (x := (20, .aload_n 0, 1)) DX11_leanLine_0 11 rfl
theorem dX11_leanLine_21 : decode cX11_leanLine 21 = .ok (.getfield 209, 3) := dAt (x := (21, .getfield 209, 3)) DX11_leanLine_0 12 rfl
theorem dX11_leanLine_24 : decode cX11_leanLine 24 = .ok (.iadd, 1) := dAt (x := (24, .iadd, 1)) DX11_leanLine_0 13 rfl
theorem dX11_leanLine_25 : decode cX11_leanLine 25 = .ok (.istore_n 2, 1) := dAt (x := (25, .istore_n 2, 1)) DX11_leanLine_0 14 rfl
theorem dX11_leanLine_26 : decode cX11_leanLine 26 = .ok (.aload_n 0, 1) := dAt (x := (26, .aload_n 0, 1)) DX11_leanLine_0 15 rfl
theorem dX11_leanLine_27 : decode cX11_leanLine 27 = .ok (.getfield 33, 3) := dAt (x := (27, .getfield 33, 3)) DX11_leanLine_0 16 rfl
theorem dX11_leanLine_30 : decode cX11_leanLine 30 = .ok (.iload_n 2, 1) := dAt (x := (30, .iload_n 2, 1)) DX11_leanLine_0 17 rfl
theorem dX11_leanLine_31 : decode cX11_leanLine 31 = .ok (.iaload, 1) := dAt (x := (31, .iaload, 1)) DX11_leanLine_0 18 rfl
theorem dX11_leanLine_32 : decode cX11_leanLine 32 = .ok (.ifCond .lt 14, 3) := dAt (x := (32, .ifCond .lt 14, 3)) DX11_leanLine_0 19 rfl
theorem dX11_leanLine_35 : decode cX11_leanLine 35 = .ok (.aload_n 0, 1) := dAt (x := (35, .aload_n 0, 1)) DX11_leanLine_0 20 rfl
theorem dX11_leanLine_36 : decode cX11_leanLine 36 = .ok (.iload_n 1, 1) := dAt (x := (36, .iload_n 1, 1)) DX11_leanLine_0 21 rfl
theorem dX11_leanLine_37 : decode cX11_leanLine 37 = .ok (.putfield 169, 3) := dAt (x := (37, .putfield 169, 3)) DX11_leanLine_0 22 rfl
theorem dX11_leanLine_40 : decode cX11_leanLine 40 = .ok (.aload_n 0, 1) := dAt (x := (40, .aload_n 0, 1)) DX11_leanLine_0 23 rfl
theorem dX11_leanLine_41 : decode cX11_leanLine 41 = .ok (.iconst 3, 1) := dAt (x := (41, .iconst 3, 1)) DX11_leanLine_0 24 rfl
theorem dX11_leanLine_42 : decode cX11_leanLine 42 = .ok (.invokevirtual 202, 3) := dAt (x := (42, .invokevirtual 202, 3)) DX11_leanLine_0 25 rfl
theorem dX11_leanLine_45 : decode cX11_leanLine 45 = .ok (.ireturn, 1) := dAt (x := (45, .ireturn, 1)) DX11_leanLine_0 26 rfl
theorem dX11_leanLine_46 : decode cX11_leanLine 46 = .ok (.aload_n 0, 1) := dAt (x := (46, .aload_n 0, 1)) DX11_leanLine_0 27 rfl
theorem dX11_leanLine_47 : decode cX11_leanLine 47 = .ok (.aload_n 0, 1) := dAt (x := (47, .aload_n 0, 1)) DX11_leanLine_0 28 rfl
theorem dX11_leanLine_48 : decode cX11_leanLine 48 = .ok (.getfield 209, 3) := dAt (x := (48, .getfield 209, 3)) DX11_leanLine_0 29 rfl
theorem dX11_leanLine_51 : decode cX11_leanLine 51 = .ok (.invokevirtual 273, 3) := dAt (x := (51, .invokevirtual 273, 3)) DX11_leanLine_0 30 rfl
theorem dX11_leanLine_54 : decode cX11_leanLine 54 = .ok (.ifCond .ne 5, 3) := dAt (x := (54, .ifCond .ne 5, 3)) DX11_leanLine_0 31 rfl
theorem dX11_leanLine_57 : decode cX11_leanLine 57 = .ok (.iconst 0, 1) := dAt (x := (57, .iconst 0, 1)) DX11_leanLine_0 32 rfl
theorem dX11_leanLine_58 : decode cX11_leanLine 58 = .ok (.ireturn, 1) := dAt (x := (58, .ireturn, 1)) DX11_leanLine_0 33 rfl
theorem dX11_leanLine_59 : decode cX11_leanLine 59 = .ok (.aload_n 0, 1) := dAt (x := (59, .aload_n 0, 1)) DX11_leanLine_0 34 rfl
theorem dX11_leanLine_60 : decode cX11_leanLine 60 = .ok (.getfield 33, 3) := dAt (x := (60, .getfield 33, 3)) DX11_leanLine_0 35 rfl
theorem dX11_leanLine_63 : decode cX11_leanLine 63 = .ok (.iload_n 2, 1) := dAt (x := (63, .iload_n 2, 1)) DX11_leanLine_0 36 rfl
theorem dX11_leanLine_64 : decode cX11_leanLine 64 = .ok (.aload_n 0, 1) := dAt (x := (64, .aload_n 0, 1)) DX11_leanLine_0 37 rfl
theorem dX11_leanLine_65 : decode cX11_leanLine 65 = .ok (.getfield 234, 3) := dAt (x := (65, .getfield 234, 3)) DX11_leanLine_0 38 rfl
theorem dX11_leanLine_68 : decode cX11_leanLine 68 = .ok (.iconst 1, 1) := dAt (x := (68, .iconst 1, 1)) DX11_leanLine_0 39 rfl
theorem dX11_leanLine_69 : decode cX11_leanLine 69 = .ok (.isub, 1) := dAt (x := (69, .isub, 1)) DX11_leanLine_0 40 rfl
theorem dX11_leanLine_70 : decode cX11_leanLine 70 = .ok (.iastore, 1) := dAt (x := (70, .iastore, 1)) DX11_leanLine_0 41 rfl
theorem dX11_leanLine_71 : decode cX11_leanLine 71 = .ok (.iconst 1, 1) := dAt (x := (71, .iconst 1, 1)) DX11_leanLine_0 42 rfl
theorem dX11_leanLine_72 : decode cX11_leanLine 72 = .ok (.ireturn, 1) := dAt (x := (72, .ireturn, 1)) DX11_leanLine_0 43 rfl
def lDX11_pushLine_0 : List (Nat × Instr × Nat) := [(0, .aload_n 0, 1), (1, .getfield 225, 3), (4, .bipush 16, 2), (6, .if_icmp .ne 9, 3), (9, .aload_n 0, 1), (10, .iconst 2, 1), (11, .invokevirtual 202, 3), (14, .ireturn, 1), (15, .aload_n 0, 1), (16, .invokevirtual 212, 3), (19, .bipush 16, 2), (21, .aload_n 0, 1), (22, .getfield 225, 3), (25, .iadd, 1), (26, .istore_n 1, 1), (27, .aload_n 0, 1), (28, .invokevirtual 269, 3), (31, .ifCond .ne 5, 3), (34, .iconst 0, 1), (35, .ireturn, 1), (36, .aload_n 0, 1), (37, .getfield 39, 3), (40, .iload_n 1, 1), (41, .aload_n 0, 1), (42, .getfield 209, 3), (45, .iastore, 1), (46, .aload_n 0, 1), (47, .iconst 0, 1), (48, .bipush 99, 2), (50, .invokevirtual 218, 3), (53, .ifCond .ne 5, 3), (56, .iconst 0, 1), (57, .ireturn, 1), (58, .aload_n 0, 1), (59, .getfield 42, 3), (62, .iload_n 1, 1), (63, .aload_n 0, 1), (64, .getfield 209, 3), (67, .iastore, 1), (68, .aload_n 0, 1), (69, .dup, 1), (70, .getfield 225, 3), (73, .iconst 1, 1), (74, .iadd, 1), (75, .putfield 225, 3), (78, .iconst 1, 1), (79, .ireturn, 1)]
theorem DX11_pushLine_0 : dAll cX11_pushLine lDX11_pushLine_0 = true := by decide +kernel
theorem dX11_pushLine_0 : decode cX11_pushLine 0 = .ok (.aload_n 0, 1) := dAt (x := (0, .aload_n 0, 1)) DX11_pushLine_0 0 rfl
theorem dX11_pushLine_1 : decode cX11_pushLine 1 = .ok (.getfield 225, 3) := dAt (x := (1, .getfield 225, 3)) DX11_pushLine_0 1 rfl
theorem dX11_pushLine_4 : decode cX11_pushLine 4 = .ok (.bipush 16, 2) := dAt (x := (4, .bipush 16, 2)) DX11_pushLine_0 2 rfl
theorem dX11_pushLine_6 : decode cX11_pushLine 6 = .ok (.if_icmp .ne 9, 3) := dAt (x := (6, .if_icmp .ne 9, 3)) DX11_pushLine_0 3 rfl
theorem dX11_pushLine_9 : decode cX11_pushLine 9 = .ok (.aload_n 0, 1) := dAt (x := (9, .aload_n 0, 1)) DX11_pushLine_0 4 rfl
theorem dX11_pushLine_10 : decode cX11_pushLine 10 = .ok (.iconst 2, 1) := dAt (x := (10, .iconst 2, 1)) DX11_pushLine_0 5 rfl
theorem dX11_pushLine_11 : decode cX11_pushLine 11 = .ok (.invokevirtual 202, 3) := dAt (x := (11, .invokevirtual 202, 3)) DX11_pushLine_0 6 rfl
theorem dX11_pushLine_14 : decode cX11_pushLine 14 = .ok (.ireturn, 1) := dAt (x := (14, .ireturn, 1)) DX11_pushLine_0 7 rfl
theorem dX11_pushLine_15 : decode cX11_pushLine 15 = .ok (.aload_n 0, 1) := dAt (x := (15, .aload_n 0, 1)) DX11_pushLine_0 8 rfl
theorem dX11_pushLine_16 : decode cX11_pushLine 16 = .ok (.invokevirtual 212, 3) := dAt (x := (16, .invokevirtual 212, 3)) DX11_pushLine_0 9 rfl
theorem dX11_pushLine_19 : decode cX11_pushLine 19 = .ok (.bipush 16, 2) := dAt (x := (19, .bipush 16, 2)) DX11_pushLine_0 10 rfl
theorem dX11_pushLine_21 : decode cX11_pushLine 21 = .ok (.aload_n 0, 1) := dAt (x := (21, .aload_n 0, 1)) DX11_pushLine_0 11 rfl
theorem dX11_pushLine_22 : decode cX11_pushLine 22 = .ok (.getfield 225, 3) := dAt (x := (22, .getfield 225, 3)) DX11_pushLine_0 12 rfl
theorem dX11_pushLine_25 : decode cX11_pushLine 25 = .ok (.iadd, 1) := dAt (x := (25, .iadd, 1)) DX11_pushLine_0 13 rfl
theorem dX11_pushLine_26 : decode cX11_pushLine 26 = .ok (.istore_n 1, 1) := dAt (x := (26, .istore_n 1, 1)) DX11_pushLine_0 14 rfl
theorem dX11_pushLine_27 : decode cX11_pushLine 27 = .ok (.aload_n 0, 1) := dAt (x := (27, .aload_n 0, 1)) DX11_pushLine_0 15 rfl
theorem dX11_pushLine_28 : decode cX11_pushLine 28 = .ok (.invokevirtual 269, 3) := dAt (x := (28, .invokevirtual 269, 3)) DX11_pushLine_0 16 rfl
theorem dX11_pushLine_31 : decode cX11_pushLine 31 = .ok (.ifCond .ne 5, 3) := dAt (x := (31, .ifCond .ne 5, 3)) DX11_pushLine_0 17 rfl
theorem dX11_pushLine_34 : decode cX11_pushLine 34 = .ok (.iconst 0, 1) := dAt (x := (34, .iconst 0, 1)) DX11_pushLine_0 18 rfl
theorem dX11_pushLine_35 : decode cX11_pushLine 35 = .ok (.ireturn, 1) := dAt (x := (35, .ireturn, 1)) DX11_pushLine_0 19 rfl
theorem dX11_pushLine_36 : decode cX11_pushLine 36 = .ok (.aload_n 0, 1) := dAt (x := (36, .aload_n 0, 1)) DX11_pushLine_0 20 rfl
theorem dX11_pushLine_37 : decode cX11_pushLine 37 = .ok (.getfield 39, 3) := dAt (x := (37, .getfield 39, 3)) DX11_pushLine_0 21 rfl
theorem dX11_pushLine_40 : decode cX11_pushLine 40 = .ok (.iload_n 1, 1) := dAt (x := (40, .iload_n 1, 1)) DX11_pushLine_0 22 rfl
theorem dX11_pushLine_41 : decode cX11_pushLine 41 = .ok (.aload_n 0, 1) := dAt (x := (41, .aload_n 0, 1)) DX11_pushLine_0 23 rfl
theorem dX11_pushLine_42 : decode cX11_pushLine 42 = .ok (.getfield 209, 3) := dAt (x := (42, .getfield 209, 3)) DX11_pushLine_0 24 rfl
theorem dX11_pushLine_45 : decode cX11_pushLine 45 = .ok (.iastore, 1) := dAt (x := (45, .iastore, 1)) DX11_pushLine_0 25 rfl
theorem dX11_pushLine_46 : decode cX11_pushLine 46 = .ok (.aload_n 0, 1) := dAt (x := (46, .aload_n 0, 1)) DX11_pushLine_0 26 rfl
theorem dX11_pushLine_47 : decode cX11_pushLine 47 = .ok (.iconst 0, 1) := dAt (x := (47, .iconst 0, 1)) DX11_pushLine_0 27 rfl
theorem dX11_pushLine_48 : decode cX11_pushLine 48 = .ok (.bipush 99, 2) := dAt (x := (48, .bipush 99, 2)) DX11_pushLine_0 28 rfl
theorem dX11_pushLine_50 : decode cX11_pushLine 50 = .ok (.invokevirtual 218, 3) := dAt (x := (50, .invokevirtual 218, 3)) DX11_pushLine_0 29 rfl
theorem dX11_pushLine_53 : decode cX11_pushLine 53 = .ok (.ifCond .ne 5, 3) := dAt (x := (53, .ifCond .ne 5, 3)) DX11_pushLine_0 30 rfl
theorem dX11_pushLine_56 : decode cX11_pushLine 56 = .ok (.iconst 0, 1) := dAt (x := (56, .iconst 0, 1)) DX11_pushLine_0 31 rfl
theorem dX11_pushLine_57 : decode cX11_pushLine 57 = .ok (.ireturn, 1) := dAt (x := (57, .ireturn, 1)) DX11_pushLine_0 32 rfl
theorem dX11_pushLine_58 : decode cX11_pushLine 58 = .ok (.aload_n 0, 1) := dAt (x := (58, .aload_n 0, 1)) DX11_pushLine_0 33 rfl
theorem dX11_pushLine_59 : decode cX11_pushLine 59 = .ok (.getfield 42, 3) := dAt (x := (59, .getfield 42, 3)) DX11_pushLine_0 34 rfl
theorem dX11_pushLine_62 : decode cX11_pushLine 62 = .ok (.iload_n 1, 1) := dAt (x := (62, .iload_n 1, 1)) DX11_pushLine_0 35 rfl
theorem dX11_pushLine_63 : decode cX11_pushLine 63 = .ok (.aload_n 0, 1) := dAt (x := (63, .aload_n 0, 1)) DX11_pushLine_0 36 rfl
theorem dX11_pushLine_64 : decode cX11_pushLine 64 = .ok (.getfield 209, 3) := dAt (x := (64, .getfield 209, 3)) DX11_pushLine_0 37 rfl
theorem dX11_pushLine_67 : decode cX11_pushLine 67 = .ok (.iastore, 1) := dAt (x := (67, .iastore, 1)) DX11_pushLine_0 38 rfl
theorem dX11_pushLine_68 : decode cX11_pushLine 68 = .ok (.aload_n 0, 1) := dAt (x := (68, .aload_n 0, 1)) DX11_pushLine_0 39 rfl
theorem dX11_pushLine_69 : decode cX11_pushLine 69 = .ok (.dup, 1) := dAt (x := (69, .dup, 1)) DX11_pushLine_0 40 rfl
theorem dX11_pushLine_70 : decode cX11_pushLine 70 = .ok (.getfield 225, 3) := dAt (x := (70, .getfield 225, 3)) DX11_pushLine_0 41 rfl
theorem dX11_pushLine_73 : decode cX11_pushLine 73 = .ok (.iconst 1, 1) := dAt (x := (73, .iconst 1, 1)) DX11_pushLine_0 42 rfl
theorem dX11_pushLine_74 : decode cX11_pushLine 74 = .ok (.iadd, 1) := dAt (x := (74, .iadd, 1)) DX11_pushLine_0 43 rfl
theorem dX11_pushLine_75 : decode cX11_pushLine 75 = .ok (.putfield 225, 3) := dAt (x := (75, .putfield 225, 3)) DX11_pushLine_0 44 rfl
theorem dX11_pushLine_78 : decode cX11_pushLine 78 = .ok (.iconst 1, 1) := dAt (x := (78, .iconst 1, 1)) DX11_pushLine_0 45 rfl
theorem dX11_pushLine_79 : decode cX11_pushLine 79 = .ok (.ireturn, 1) := dAt (x := (79, .ireturn, 1)) DX11_pushLine_0 46 rfl
def lDX11_oilLine_0 : List (Nat × Instr × Nat) := [(0, .aload_n 0, 1), (1, .getfield 228, 3), (4, .iconst 4, 1), (5, .if_icmp .ne 9, 3), (8, .aload_n 0, 1), (9, .iconst 2, 1), (10, .invokevirtual 202, 3), (13, .ireturn, 1), (14, .aload_n 0, 1), (15, .invokevirtual 212, 3), (18, .aload_n 0, 1), (19, .iconst 0, 1), (20, .bipush 99, 2), (22, .invokevirtual 218, 3), (25, .ifCond .ne 5, 3), (28, .iconst 0, 1), (29, .ireturn, 1), (30, .aload_n 0, 1), (31, .getfield 45, 3), (34, .iconst 4, 1), (35, .aload_n 0, 1), (36, .getfield 228, 3), (39, .iadd, 1), (40, .aload_n 0, 1), (41, .getfield 209, 3), (44, .iastore, 1), (45, .aload_n 0, 1), (46, .dup, 1), (47, .getfield 228, 3), (50, .iconst 1, 1), (51, .iadd, 1), (52, .putfield 228, 3), (55, .iconst 1, 1), (56, .ireturn, 1)]
theorem DX11_oilLine_0 : dAll cX11_oilLine lDX11_oilLine_0 = true := by decide +kernel
theorem dX11_oilLine_0 : decode cX11_oilLine 0 = .ok (.aload_n 0, 1) := dAt (x := (0, .aload_n 0, 1)) DX11_oilLine_0 0 rfl
theorem dX11_oilLine_1 : decode cX11_oilLine 1 = .ok (.getfield 228, 3) := dAt (x := (1, .getfield 228, 3)) DX11_oilLine_0 1 rfl
theorem dX11_oilLine_4 : decode cX11_oilLine 4 = .ok (.iconst 4, 1) := dAt (x := (4, .iconst 4, 1)) DX11_oilLine_0 2 rfl
theorem dX11_oilLine_5 : decode cX11_oilLine 5 = .ok (.if_icmp .ne 9, 3) := dAt (x := (5, .if_icmp .ne 9, 3)) DX11_oilLine_0 3 rfl
theorem dX11_oilLine_8 : decode cX11_oilLine 8 = .ok (.aload_n 0, 1) := dAt (x := (8, .aload_n 0, 1)) DX11_oilLine_0 4 rfl
theorem dX11_oilLine_9 : decode cX11_oilLine 9 = .ok (.iconst 2, 1) := dAt (x := (9, .iconst 2, 1)) DX11_oilLine_0 5 rfl
theorem dX11_oilLine_10 : decode cX11_oilLine 10 = .ok (.invokevirtual 202, 3) := dAt (x := (10, .invokevirtual 202, 3)) DX11_oilLine_0 6 rfl
theorem dX11_oilLine_13 : decode cX11_oilLine 13 = .ok (.ireturn, 1) := dAt (x := (13, .ireturn, 1)) DX11_oilLine_0 7 rfl
theorem dX11_oilLine_14 : decode cX11_oilLine 14 = .ok (.aload_n 0, 1) := dAt (x := (14, .aload_n 0, 1)) DX11_oilLine_0 8 rfl
theorem dX11_oilLine_15 : decode cX11_oilLine 15 = .ok (.invokevirtual 212, 3) := dAt (x := (15, .invokevirtual 212, 3)) DX11_oilLine_0 9 rfl
theorem dX11_oilLine_18 : decode cX11_oilLine 18 = .ok (.aload_n 0, 1) := dAt (x := (18, .aload_n 0, 1)) DX11_oilLine_0 10 rfl
theorem dX11_oilLine_19 : decode cX11_oilLine 19 = .ok (.iconst 0, 1) := dAt (x := (19, .iconst 0, 1)) DX11_oilLine_0 11 rfl
theorem dX11_oilLine_20 : decode cX11_oilLine 20 = .ok (.bipush 99, 2) := dAt (x := (20, .bipush 99, 2)) DX11_oilLine_0 12 rfl
theorem dX11_oilLine_22 : decode cX11_oilLine 22 = .ok (.invokevirtual 218, 3) := dAt (x := (22, .invokevirtual 218, 3)) DX11_oilLine_0 13 rfl
theorem dX11_oilLine_25 : decode cX11_oilLine 25 = .ok (.ifCond .ne 5, 3) := dAt (x := (25, .ifCond .ne 5, 3)) DX11_oilLine_0 14 rfl
theorem dX11_oilLine_28 : decode cX11_oilLine 28 = .ok (.iconst 0, 1) := dAt (x := (28, .iconst 0, 1)) DX11_oilLine_0 15 rfl
theorem dX11_oilLine_29 : decode cX11_oilLine 29 = .ok (.ireturn, 1) := dAt (x := (29, .ireturn, 1)) DX11_oilLine_0 16 rfl
theorem dX11_oilLine_30 : decode cX11_oilLine 30 = .ok (.aload_n 0, 1) := dAt (x := (30, .aload_n 0, 1)) DX11_oilLine_0 17 rfl
theorem dX11_oilLine_31 : decode cX11_oilLine 31 = .ok (.getfield 45, 3) := dAt (x := (31, .getfield 45, 3)) DX11_oilLine_0 18 rfl
theorem dX11_oilLine_34 : decode cX11_oilLine 34 = .ok (.iconst 4, 1) := dAt (x := (34, .iconst 4, 1)) DX11_oilLine_0 19 rfl
theorem dX11_oilLine_35 : decode cX11_oilLine 35 = .ok (.aload_n 0, 1) := dAt (x := (35, .aload_n 0, 1)) DX11_oilLine_0 20 rfl
theorem dX11_oilLine_36 : decode cX11_oilLine 36 = .ok (.getfield 228, 3) := dAt (x := (36, .getfield 228, 3)) DX11_oilLine_0 21 rfl
theorem dX11_oilLine_39 : decode cX11_oilLine 39 = .ok (.iadd, 1) := dAt (x := (39, .iadd, 1)) DX11_oilLine_0 22 rfl
theorem dX11_oilLine_40 : decode cX11_oilLine 40 = .ok (.aload_n 0, 1) := dAt (x := (40, .aload_n 0, 1)) DX11_oilLine_0 23 rfl
theorem dX11_oilLine_41 : decode cX11_oilLine 41 = .ok (.getfield 209, 3) := dAt (x := (41, .getfield 209, 3)) DX11_oilLine_0 24 rfl
theorem dX11_oilLine_44 : decode cX11_oilLine 44 = .ok (.iastore, 1) := dAt (x := (44, .iastore, 1)) DX11_oilLine_0 25 rfl
theorem dX11_oilLine_45 : decode cX11_oilLine 45 = .ok (.aload_n 0, 1) := dAt (x := (45, .aload_n 0, 1)) DX11_oilLine_0 26 rfl
theorem dX11_oilLine_46 : decode cX11_oilLine 46 = .ok (.dup, 1) := dAt (x := (46, .dup, 1)) DX11_oilLine_0 27 rfl
theorem dX11_oilLine_47 : decode cX11_oilLine 47 = .ok (.getfield 228, 3) := dAt (x := (47, .getfield 228, 3)) DX11_oilLine_0 28 rfl
theorem dX11_oilLine_50 : decode cX11_oilLine 50 = .ok (.iconst 1, 1) := dAt (x := (50, .iconst 1, 1)) DX11_oilLine_0 29 rfl
theorem dX11_oilLine_51 : decode cX11_oilLine 51 = .ok (.iadd, 1) := dAt (x := (51, .iadd, 1)) DX11_oilLine_0 30 rfl
theorem dX11_oilLine_52 : decode cX11_oilLine 52 = .ok (.putfield 228, 3) := dAt (x := (52, .putfield 228, 3)) DX11_oilLine_0 31 rfl
theorem dX11_oilLine_55 : decode cX11_oilLine 55 = .ok (.iconst 1, 1) := dAt (x := (55, .iconst 1, 1)) DX11_oilLine_0 32 rfl
theorem dX11_oilLine_56 : decode cX11_oilLine 56 = .ok (.ireturn, 1) := dAt (x := (56, .ireturn, 1)) DX11_oilLine_0 33 rfl
def lDX11_onceLine_0 : List (Nat × Instr × Nat) := [(0, .aload_n 0, 1), (1, .getfield 20, 3), (4, .iload_n 1, 1), (5, .baload, 1), (6, .ifCond .eq 9, 3), (9, .aload_n 0, 1), (10, .iconst 3, 1), (11, .invokevirtual 202, 3), (14, .ireturn, 1), (15, .aload_n 0, 1), (16, .getfield 20, 3), (19, .iload_n 1, 1), (20, .iconst 1, 1), (21, .bastore, 1), (22, .aload_n 0, 1), (23, .invokevirtual 212, 3), (26, .aload_n 0, 1), (27, .iconst 0, 1), (28, .iload_n 2, 1), (29, .invokevirtual 218, 3), (32, .ifCond .ne 5, 3), (35, .iconst 0, 1), (36, .ireturn, 1), (37, .aload_n 0, 1), (38, .getfield 24, 3), (41, .iconst 2, 1), (42, .iload_n 1, 1), (43, .iadd, 1), (44, .aload_n 0, 1), (45, .getfield 209, 3), (48, .iastore, 1), (49, .iconst 1, 1), (50, .ireturn, 1)]
theorem DX11_onceLine_0 : dAll cX11_onceLine lDX11_onceLine_0 = true := by decide +kernel
theorem dX11_onceLine_0 : decode cX11_onceLine 0 = .ok (.aload_n 0, 1) := dAt (x := (0, .aload_n 0, 1)) DX11_onceLine_0 0 rfl
theorem dX11_onceLine_1 : decode cX11_onceLine 1 = .ok (.getfield 20, 3) := dAt (x := (1, .getfield 20, 3)) DX11_onceLine_0 1 rfl
theorem dX11_onceLine_4 : decode cX11_onceLine 4 = .ok (.iload_n 1, 1) := dAt (x := (4, .iload_n 1, 1)) DX11_onceLine_0 2 rfl
theorem dX11_onceLine_5 : decode cX11_onceLine 5 = .ok (.baload, 1) := dAt (x := (5, .baload, 1)) DX11_onceLine_0 3 rfl
theorem dX11_onceLine_6 : decode cX11_onceLine 6 = .ok (.ifCond .eq 9, 3) := dAt (x := (6, .ifCond .eq 9, 3)) DX11_onceLine_0 4 rfl
theorem dX11_onceLine_9 : decode cX11_onceLine 9 = .ok (.aload_n 0, 1) := dAt (x := (9, .aload_n 0, 1)) DX11_onceLine_0 5 rfl
theorem dX11_onceLine_10 : decode cX11_onceLine 10 = .ok (.iconst 3, 1) := dAt (x := (10, .iconst 3, 1)) DX11_onceLine_0 6 rfl
theorem dX11_onceLine_11 : decode cX11_onceLine 11 = .ok (.invokevirtual 202, 3) := dAt (x := (11, .invokevirtual 202, 3)) DX11_onceLine_0 7 rfl
theorem dX11_onceLine_14 : decode cX11_onceLine 14 = .ok (.ireturn, 1) := dAt (x := (14, .ireturn, 1)) DX11_onceLine_0 8 rfl
theorem dX11_onceLine_15 : decode cX11_onceLine 15 = .ok (.aload_n 0, 1) := dAt (x := (15, .aload_n 0, 1)) DX11_onceLine_0 9 rfl
theorem dX11_onceLine_16 : decode cX11_onceLine 16 = .ok (.getfield 20, 3) := dAt (x := (16, .getfield 20, 3)) DX11_onceLine_0 10 rfl
theorem dX11_onceLine_19 : decode cX11_onceLine 19 = .ok (.iload_n 1, 1) := dAt (x := (19, .iload_n 1, 1)) DX11_onceLine_0 11 rfl
theorem dX11_onceLine_20 : decode cX11_onceLine 20 = .ok (.iconst 1, 1) := dAt (x := (20, .iconst 1, 1)) DX11_onceLine_0 12 rfl
theorem dX11_onceLine_21 : decode cX11_onceLine 21 = .ok (.bastore, 1) := dAt (x := (21, .bastore, 1)) DX11_onceLine_0 13 rfl
theorem dX11_onceLine_22 : decode cX11_onceLine 22 = .ok (.aload_n 0, 1) := dAt (x := (22, .aload_n 0, 1)) DX11_onceLine_0 14 rfl
theorem dX11_onceLine_23 : decode cX11_onceLine 23 = .ok (.invokevirtual 212, 3) := dAt (x := (23, .invokevirtual 212, 3)) DX11_onceLine_0 15 rfl
theorem dX11_onceLine_26 : decode cX11_onceLine 26 = .ok (.aload_n 0, 1) := dAt (x := (26, .aload_n 0, 1)) DX11_onceLine_0 16 rfl
theorem dX11_onceLine_27 : decode cX11_onceLine 27 = .ok (.iconst 0, 1) := dAt (x := (27, .iconst 0, 1)) DX11_onceLine_0 17 rfl
theorem dX11_onceLine_28 : decode cX11_onceLine 28 = .ok (.iload_n 2, 1) := dAt (x := (28, .iload_n 2, 1)) DX11_onceLine_0 18 rfl
theorem dX11_onceLine_29 : decode cX11_onceLine 29 = .ok (.invokevirtual 218, 3) := dAt (x := (29, .invokevirtual 218, 3)) DX11_onceLine_0 19 rfl
theorem dX11_onceLine_32 : decode cX11_onceLine 32 = .ok (.ifCond .ne 5, 3) := dAt (x := (32, .ifCond .ne 5, 3)) DX11_onceLine_0 20 rfl
theorem dX11_onceLine_35 : decode cX11_onceLine 35 = .ok (.iconst 0, 1) := dAt (x := (35, .iconst 0, 1)) DX11_onceLine_0 21 rfl
theorem dX11_onceLine_36 : decode cX11_onceLine 36 = .ok (.ireturn, 1) := dAt (x := (36, .ireturn, 1)) DX11_onceLine_0 22 rfl
theorem dX11_onceLine_37 : decode cX11_onceLine 37 = .ok (.aload_n 0, 1) := dAt (x := (37, .aload_n 0, 1)) DX11_onceLine_0 23 rfl
theorem dX11_onceLine_38 : decode cX11_onceLine 38 = .ok (.getfield 24, 3) := dAt (x := (38, .getfield 24, 3)) DX11_onceLine_0 24 rfl
theorem dX11_onceLine_41 : decode cX11_onceLine 41 = .ok (.iconst 2, 1) := dAt (x := (41, .iconst 2, 1)) DX11_onceLine_0 25 rfl
theorem dX11_onceLine_42 : decode cX11_onceLine 42 = .ok (.iload_n 1, 1) := dAt (x := (42, .iload_n 1, 1)) DX11_onceLine_0 26 rfl
theorem dX11_onceLine_43 : decode cX11_onceLine 43 = .ok (.iadd, 1) := dAt (x := (43, .iadd, 1)) DX11_onceLine_0 27 rfl
theorem dX11_onceLine_44 : decode cX11_onceLine 44 = .ok (.aload_n 0, 1) := dAt (x := (44, .aload_n 0, 1)) DX11_onceLine_0 28 rfl
theorem dX11_onceLine_45 : decode cX11_onceLine 45 = .ok (.getfield 209, 3) := dAt (x := (45, .getfield 209, 3)) DX11_onceLine_0 29 rfl
theorem dX11_onceLine_48 : decode cX11_onceLine 48 = .ok (.iastore, 1) := dAt (x := (48, .iastore, 1)) DX11_onceLine_0 30 rfl
theorem dX11_onceLine_49 : decode cX11_onceLine 49 = .ok (.iconst 1, 1) := dAt (x := (49, .iconst 1, 1)) DX11_onceLine_0 31 rfl
theorem dX11_onceLine_50 : decode cX11_onceLine 50 = .ok (.ireturn, 1) := dAt (x := (50, .ireturn, 1)) DX11_onceLine_0 32 rfl
def lDX11_lineRead_0 : List (Nat × Instr × Nat) := [(0, .aload_n 0, 1), (1, .getfield 178, 3), (4, .iconst 1, 1), (5, .if_icmp .ne 12, 3), (8, .aload_n 0, 1), (9, .getfield 189, 3), (12, .bipush 6, 2), (14, .if_icmp .le 9, 3), (17, .aload_n 0, 1), (18, .iconst 1, 1), (19, .invokevirtual 202, 3), (22, .ireturn, 1), (23, .aload_n 0, 1), (24, .getfield 189, 3), (27, .tableswitch 91 0 5 #[37, 45, 53, 61, 69, 80], 37), (64, .aload_n 0, 1), (65, .invokevirtual 276, 3), (68, .istore_n 1, 1), (69, .goto 146, 3), (72, .aload_n 0, 1), (73, .invokevirtual 279, 3), (76, .istore_n 1, 1), (77, .goto 138, 3), (80, .aload_n 0, 1), (81, .invokevirtual 282, 3), (84, .istore_n 1, 1), (85, .goto 130, 3), (88, .aload_n 0, 1), (89, .invokevirtual 285, 3), (92, .istore_n 1, 1), (93, .goto 122, 3), (96, .aload_n 0, 1), (97, .iconst 0, 1), (98, .bipush 100, 2), (100, .invokevirtual 288, 3), (103, .istore_n 1, 1), (104, .goto 111, 3), (107, .aload_n 0, 1), (108, .iconst 1, 1), (109, .ldc 198, 2), (111, .invokevirtual 288, 3), (114, .istore_n 1, 1), (115, .goto 100, 3), (118, .aload_n 0, 1), (119, .invokevirtual 212, 3), (122, .aload_n 0, 1), (123, .getfield 178, 3), (126, .iconst 1, 1), (127, .if_icmp .ne 21, 3), (130, .aload_n 0, 1), (131, .getfield 189, 3), (134, .bipush 7, 2), (136, .if_icmp .lt 12, 3), (139, .aload_n 0, 1), (140, .getfield 189, 3), (143, .bipush 9, 2), (145, .if_icmp .le 9, 3), (148, .aload_n 0, 1), (149, .iconst 1, 1), (150, .invokevirtual 202, 3)]
theorem DX11_lineRead_0 : dAll cX11_lineRead lDX11_lineRead_0 = true := by decide +kernel
theorem dX11_lineRead_0 : decode cX11_lineRead 0 = .ok (.aload_n 0, 1) := dAt (x := (0, .aload_n 0, 1)) DX11_lineRead_0 0 rfl
theorem dX11_lineRead_1 : decode cX11_lineRead 1 = .ok (.getfield 178, 3) := dAt (x := (1, .getfield 178, 3)) DX11_lineRead_0 1 rfl
theorem dX11_lineRead_4 : decode cX11_lineRead 4 = .ok (.iconst 1, 1) := dAt (x := (4, .iconst 1, 1)) DX11_lineRead_0 2 rfl
theorem dX11_lineRead_5 : decode cX11_lineRead 5 = .ok (.if_icmp .ne 12, 3) := dAt (x := (5, .if_icmp .ne 12, 3)) DX11_lineRead_0 3 rfl
theorem dX11_lineRead_8 : decode cX11_lineRead 8 = .ok (.aload_n 0, 1) := dAt (x := (8, .aload_n 0, 1)) DX11_lineRead_0 4 rfl
theorem dX11_lineRead_9 : decode cX11_lineRead 9 = .ok (.getfield 189, 3) := dAt (x := (9, .getfield 189, 3)) DX11_lineRead_0 5 rfl
theorem dX11_lineRead_12 : decode cX11_lineRead 12 = .ok (.bipush 6, 2) := dAt (x := (12, .bipush 6, 2)) DX11_lineRead_0 6 rfl
theorem dX11_lineRead_14 : decode cX11_lineRead 14 = .ok (.if_icmp .le 9, 3) := dAt (x := (14, .if_icmp .le 9, 3)) DX11_lineRead_0 7 rfl
theorem dX11_lineRead_17 : decode cX11_lineRead 17 = .ok (.aload_n 0, 1) := dAt (x := (17, .aload_n 0, 1)) DX11_lineRead_0 8 rfl
theorem dX11_lineRead_18 : decode cX11_lineRead 18 = .ok (.iconst 1, 1) := dAt (x := (18, .iconst 1, 1)) DX11_lineRead_0 9 rfl
theorem dX11_lineRead_19 : decode cX11_lineRead 19 = .ok (.invokevirtual 202, 3) := dAt (x := (19, .invokevirtual 202, 3)) DX11_lineRead_0 10 rfl
theorem dX11_lineRead_22 : decode cX11_lineRead 22 = .ok (.ireturn, 1) := dAt (x := (22, .ireturn, 1)) DX11_lineRead_0 11 rfl
theorem dX11_lineRead_23 : decode cX11_lineRead 23 = .ok (.aload_n 0, 1) := dAt (x := (23, .aload_n 0, 1)) DX11_lineRead_0 12 rfl
theorem dX11_lineRead_24 : decode cX11_lineRead 24 = .ok (.getfield 189, 3) := dAt (x := (24, .getfield 189, 3)) DX11_lineRead_0 13 rfl
theorem dX11_lineRead_27 : decode cX11_lineRead 27 = .ok (.tableswitch 91 0 5 #[37, 45, 53, 61, 69, 80], 37) := dAt (x := (27, .tableswitch 91 0 5 #[37, 45, 53, 61, 69, 80], 37)) DX11_lineRead_0 14 rfl
theorem dX11_lineRead_64 : decode cX11_lineRead 64 = .ok (.aload_n 0, 1) := dAt (x := (64, .aload_n 0, 1)) DX11_lineRead_0 15 rfl
theorem dX11_lineRead_65 : decode cX11_lineRead 65 = .ok (.invokevirtual 276, 3) := dAt (x := (65, .invokevirtual 276, 3)) DX11_lineRead_0 16 rfl
theorem dX11_lineRead_68 : decode cX11_lineRead 68 = .ok (.istore_n 1, 1) := dAt (x := (68, .istore_n 1, 1)) DX11_lineRead_0 17 rfl
theorem dX11_lineRead_69 : decode cX11_lineRead 69 = .ok (.goto 146, 3) := dAt (x := (69, .goto 146, 3)) DX11_lineRead_0 18 rfl
theorem dX11_lineRead_72 : decode cX11_lineRead 72 = .ok (.aload_n 0, 1) := dAt (x := (72, .aload_n 0, 1)) DX11_lineRead_0 19 rfl
theorem dX11_lineRead_73 : decode cX11_lineRead 73 = .ok (.invokevirtual 279, 3) := dAt (x := (73, .invokevirtual 279, 3)) DX11_lineRead_0 20 rfl
theorem dX11_lineRead_76 : decode cX11_lineRead 76 = .ok (.istore_n 1, 1) := dAt (x := (76, .istore_n 1, 1)) DX11_lineRead_0 21 rfl
theorem dX11_lineRead_77 : decode cX11_lineRead 77 = .ok (.goto 138, 3) := dAt (x := (77, .goto 138, 3)) DX11_lineRead_0 22 rfl
theorem dX11_lineRead_80 : decode cX11_lineRead 80 = .ok (.aload_n 0, 1) := dAt (x := (80, .aload_n 0, 1)) DX11_lineRead_0 23 rfl
theorem dX11_lineRead_81 : decode cX11_lineRead 81 = .ok (.invokevirtual 282, 3) := dAt (x := (81, .invokevirtual 282, 3)) DX11_lineRead_0 24 rfl
theorem dX11_lineRead_84 : decode cX11_lineRead 84 = .ok (.istore_n 1, 1) := dAt (x := (84, .istore_n 1, 1)) DX11_lineRead_0 25 rfl
theorem dX11_lineRead_85 : decode cX11_lineRead 85 = .ok (.goto 130, 3) := dAt (x := (85, .goto 130, 3)) DX11_lineRead_0 26 rfl
theorem dX11_lineRead_88 : decode cX11_lineRead 88 = .ok (.aload_n 0, 1) := dAt (x := (88, .aload_n 0, 1)) DX11_lineRead_0 27 rfl
theorem dX11_lineRead_89 : decode cX11_lineRead 89 = .ok (.invokevirtual 285, 3) := dAt (x := (89, .invokevirtual 285, 3)) DX11_lineRead_0 28 rfl
theorem dX11_lineRead_92 : decode cX11_lineRead 92 = .ok (.istore_n 1, 1) := dAt (x := (92, .istore_n 1, 1)) DX11_lineRead_0 29 rfl
theorem dX11_lineRead_93 : decode cX11_lineRead 93 = .ok (.goto 122, 3) := dAt (x := (93, .goto 122, 3)) DX11_lineRead_0 30 rfl
theorem dX11_lineRead_96 : decode cX11_lineRead 96 = .ok (.aload_n 0, 1) := dAt (x := (96, .aload_n 0, 1)) DX11_lineRead_0 31 rfl
theorem dX11_lineRead_97 : decode cX11_lineRead 97 = .ok (.iconst 0, 1) := dAt (x := (97, .iconst 0, 1)) DX11_lineRead_0 32 rfl
theorem dX11_lineRead_98 : decode cX11_lineRead 98 = .ok (.bipush 100, 2) := dAt (x := (98, .bipush 100, 2)) DX11_lineRead_0 33 rfl
theorem dX11_lineRead_100 : decode cX11_lineRead 100 = .ok (.invokevirtual 288, 3) := dAt (x := (100, .invokevirtual 288, 3)) DX11_lineRead_0 34 rfl
theorem dX11_lineRead_103 : decode cX11_lineRead 103 = .ok (.istore_n 1, 1) := dAt (x := (103, .istore_n 1, 1)) DX11_lineRead_0 35 rfl
theorem dX11_lineRead_104 : decode cX11_lineRead 104 = .ok (.goto 111, 3) := dAt (x := (104, .goto 111, 3)) DX11_lineRead_0 36 rfl
theorem dX11_lineRead_107 : decode cX11_lineRead 107 = .ok (.aload_n 0, 1) := dAt (x := (107, .aload_n 0, 1)) DX11_lineRead_0 37 rfl
theorem dX11_lineRead_108 : decode cX11_lineRead 108 = .ok (.iconst 1, 1) := dAt (x := (108, .iconst 1, 1)) DX11_lineRead_0 38 rfl
theorem dX11_lineRead_109 : decode cX11_lineRead 109 = .ok (.ldc 198, 2) := dAt (x := (109, .ldc 198, 2)) DX11_lineRead_0 39 rfl
theorem dX11_lineRead_111 : decode cX11_lineRead 111 = .ok (.invokevirtual 288, 3) := dAt (x := (111, .invokevirtual 288, 3)) DX11_lineRead_0 40 rfl
theorem dX11_lineRead_114 : decode cX11_lineRead 114 = .ok (.istore_n 1, 1) := dAt (x := (114, .istore_n 1, 1)) DX11_lineRead_0 41 rfl
theorem dX11_lineRead_115 : decode cX11_lineRead 115 = .ok (.goto 100, 3) := dAt (x := (115, .goto 100, 3)) DX11_lineRead_0 42 rfl
theorem dX11_lineRead_118 : decode cX11_lineRead 118 = .ok (.aload_n 0, 1) := dAt (x := (118, .aload_n 0, 1)) DX11_lineRead_0 43 rfl
theorem dX11_lineRead_119 : decode cX11_lineRead 119 = .ok (.invokevirtual 212, 3) := dAt (x := (119, .invokevirtual 212, 3)) DX11_lineRead_0 44 rfl
theorem dX11_lineRead_122 : decode cX11_lineRead 122 = .ok (.aload_n 0, 1) := dAt (x := (122, .aload_n 0, 1)) DX11_lineRead_0 45 rfl
theorem dX11_lineRead_123 : decode cX11_lineRead 123 = .ok (.getfield 178, 3) := dAt (x := (123, .getfield 178, 3)) DX11_lineRead_0 46 rfl
theorem dX11_lineRead_126 : decode cX11_lineRead 126 = .ok (.iconst 1, 1) := dAt (x := (126, .iconst 1, 1)) DX11_lineRead_0 47 rfl
theorem dX11_lineRead_127 : decode cX11_lineRead 127 = .ok (.if_icmp .ne 21, 3) := dAt (x := (127, .if_icmp .ne 21, 3)) DX11_lineRead_0 48 rfl
theorem dX11_lineRead_130 : decode cX11_lineRead 130 = .ok (.aload_n 0, 1) := dAt (x := (130, .aload_n 0, 1)) DX11_lineRead_0 49 rfl
theorem dX11_lineRead_131 : decode cX11_lineRead 131 = .ok (.getfield 189, 3) := dAt (x := (131, .getfield 189, 3)) DX11_lineRead_0 50 rfl
theorem dX11_lineRead_134 : decode cX11_lineRead 134 = .ok (.bipush 7, 2) := dAt (x := (134, .bipush 7, 2)) DX11_lineRead_0 51 rfl
theorem dX11_lineRead_136 : decode cX11_lineRead 136 = .ok (.if_icmp .lt 12, 3) := dAt (x := (136, .if_icmp .lt 12, 3)) DX11_lineRead_0 52 rfl
theorem dX11_lineRead_139 : decode cX11_lineRead 139 = .ok (.aload_n 0, 1) := dAt (x := (139, .aload_n 0, 1)) DX11_lineRead_0 53 rfl
theorem dX11_lineRead_140 : decode cX11_lineRead 140 = .ok (.getfield 189, 3) := dAt (x := (140, .getfield 189, 3)) DX11_lineRead_0 54 rfl
theorem dX11_lineRead_143 : decode cX11_lineRead 143 = .ok (.bipush 9, 2) := dAt (x := (143, .bipush 9, 2)) DX11_lineRead_0 55 rfl
theorem dX11_lineRead_145 : decode cX11_lineRead 145 = .ok (.if_icmp .le 9, 3) := dAt (x := (145, .if_icmp .le 9, 3)) DX11_lineRead_0 56 rfl
theorem dX11_lineRead_148 : decode cX11_lineRead 148 = .ok (.aload_n 0, 1) := dAt (x := (148, .aload_n 0, 1)) DX11_lineRead_0 57 rfl
theorem dX11_lineRead_149 : decode cX11_lineRead 149 = .ok (.iconst 1, 1) := dAt (x := (149, .iconst 1, 1)) DX11_lineRead_0 58 rfl
theorem dX11_lineRead_150 : decode cX11_lineRead 150 = .ok (.invokevirtual 202, 3) := dAt (x := (150, .invokevirtual 202, 3)) DX11_lineRead_0 59 rfl
def lDX11_lineRead_1 : List (Nat × Instr × Nat) := [(153, .ireturn, 1), (154, .iconst 3, 1), (155, .aload_n 0, 1), (156, .getfield 189, 3), (159, .iadd, 1), (160, .bipush 7, 2), (162, .isub, 1), (163, .istore_n 2, 1), (164, .aload_n 0, 1), (165, .getfield 57, 3), (168, .iload_n 2, 1), (169, .baload, 1), (170, .ifCond .eq 9, 3), (173, .aload_n 0, 1), (174, .iconst 3, 1), (175, .invokevirtual 202, 3), (178, .ireturn, 1), (179, .aload_n 0, 1), (180, .getfield 57, 3), (183, .iload_n 2, 1), (184, .iconst 1, 1), (185, .bastore, 1), (186, .aload_n 0, 1), (187, .invokevirtual 212, 3), (190, .aload_n 0, 1), (191, .getfield 60, 3), (194, .iload_n 2, 1), (195, .aload_n 0, 1), (196, .getfield 231, 3), (199, .iastore, 1), (200, .aload_n 0, 1), (201, .invokevirtual 291, 3), (204, .istore_n 1, 1), (205, .aload_n 0, 1), (206, .getfield 63, 3), (209, .iload_n 2, 1), (210, .aload_n 0, 1), (211, .getfield 231, 3), (214, .iastore, 1), (215, .iload_n 1, 1), (216, .ifCond .ne 5, 3), (219, .iconst 0, 1), (220, .ireturn, 1), (221, .aload_n 0, 1), (222, .bipush 59, 2), (224, .invokevirtual 215, 3), (227, .ifCond .ne 9, 3), (230, .aload_n 0, 1), (231, .iconst 1, 1), (232, .invokevirtual 202, 3), (235, .ireturn, 1), (236, .aload_n 0, 1), (237, .invokevirtual 212, 3), (240, .iconst 1, 1), (241, .ireturn, 1)]
theorem DX11_lineRead_1 : dAll cX11_lineRead lDX11_lineRead_1 = true := by decide +kernel
theorem dX11_lineRead_153 : decode cX11_lineRead 153 = .ok (.ireturn, 1) := dAt (x := (153, .ireturn, 1)) DX11_lineRead_1 0 rfl
theorem dX11_lineRead_154 : decode cX11_lineRead 154 = .ok (.iconst 3, 1) := dAt (x := (154, .iconst 3, 1)) DX11_lineRead_1 1 rfl
theorem dX11_lineRead_155 : decode cX11_lineRead 155 = .ok (.aload_n 0, 1) := dAt (x := (155, .aload_n 0, 1)) DX11_lineRead_1 2 rfl
theorem dX11_lineRead_156 : decode cX11_lineRead 156 = .ok (.getfield 189, 3) := dAt (x := (156, .getfield 189, 3)) DX11_lineRead_1 3 rfl
theorem dX11_lineRead_159 : decode cX11_lineRead 159 = .ok (.iadd, 1) := dAt (x := (159, .iadd, 1)) DX11_lineRead_1 4 rfl
theorem dX11_lineRead_160 : decode cX11_lineRead 160 = .ok (.bipush 7, 2) := dAt (x := (160, .bipush 7, 2)) DX11_lineRead_1 5 rfl
theorem dX11_lineRead_162 : decode cX11_lineRead 162 = .ok (.isub, 1) := dAt (x := (162, .isub, 1)) DX11_lineRead_1 6 rfl
theorem dX11_lineRead_163 : decode cX11_lineRead 163 = .ok (.istore_n 2, 1) := dAt (x := (163, .istore_n 2, 1)) DX11_lineRead_1 7 rfl
theorem dX11_lineRead_164 : decode cX11_lineRead 164 = .ok (.aload_n 0, 1) := dAt (x := (164, .aload_n 0, 1)) DX11_lineRead_1 8 rfl
theorem dX11_lineRead_165 : decode cX11_lineRead 165 = .ok (.getfield 57, 3) := dAt (x := (165, .getfield 57, 3)) DX11_lineRead_1 9 rfl
theorem dX11_lineRead_168 : decode cX11_lineRead 168 = .ok (.iload_n 2, 1) := dAt (x := (168, .iload_n 2, 1)) DX11_lineRead_1 10 rfl
theorem dX11_lineRead_169 : decode cX11_lineRead 169 = .ok (.baload, 1) := dAt (x := (169, .baload, 1)) DX11_lineRead_1 11 rfl
theorem dX11_lineRead_170 : decode cX11_lineRead 170 = .ok (.ifCond .eq 9, 3) := dAt (x := (170, .ifCond .eq 9, 3)) DX11_lineRead_1 12 rfl
theorem dX11_lineRead_173 : decode cX11_lineRead 173 = .ok (.aload_n 0, 1) := dAt (x := (173, .aload_n 0, 1)) DX11_lineRead_1 13 rfl
theorem dX11_lineRead_174 : decode cX11_lineRead 174 = .ok (.iconst 3, 1) := dAt (x := (174, .iconst 3, 1)) DX11_lineRead_1 14 rfl
theorem dX11_lineRead_175 : decode cX11_lineRead 175 = .ok (.invokevirtual 202, 3) := dAt (x := (175, .invokevirtual 202, 3)) DX11_lineRead_1 15 rfl
theorem dX11_lineRead_178 : decode cX11_lineRead 178 = .ok (.ireturn, 1) := dAt (x := (178, .ireturn, 1)) DX11_lineRead_1 16 rfl
theorem dX11_lineRead_179 : decode cX11_lineRead 179 = .ok (.aload_n 0, 1) := dAt (x := (179, .aload_n 0, 1)) DX11_lineRead_1 17 rfl
theorem dX11_lineRead_180 : decode cX11_lineRead 180 = .ok (.getfield 57, 3) := dAt (x := (180, .getfield 57, 3)) DX11_lineRead_1 18 rfl
theorem dX11_lineRead_183 : decode cX11_lineRead 183 = .ok (.iload_n 2, 1) := dAt (x := (183, .iload_n 2, 1)) DX11_lineRead_1 19 rfl
theorem dX11_lineRead_184 : decode cX11_lineRead 184 = .ok (.iconst 1, 1) := dAt (x := (184, .iconst 1, 1)) DX11_lineRead_1 20 rfl
theorem dX11_lineRead_185 : decode cX11_lineRead 185 = .ok (.bastore, 1) := dAt (x := (185, .bastore, 1)) DX11_lineRead_1 21 rfl
theorem dX11_lineRead_186 : decode cX11_lineRead 186 = .ok (.aload_n 0, 1) := dAt (x := (186, .aload_n 0, 1)) DX11_lineRead_1 22 rfl
theorem dX11_lineRead_187 : decode cX11_lineRead 187 = .ok (.invokevirtual 212, 3) := dAt (x := (187, .invokevirtual 212, 3)) DX11_lineRead_1 23 rfl
theorem dX11_lineRead_190 : decode cX11_lineRead 190 = .ok (.aload_n 0, 1) := dAt (x := (190, .aload_n 0, 1)) DX11_lineRead_1 24 rfl
theorem dX11_lineRead_191 : decode cX11_lineRead 191 = .ok (.getfield 60, 3) := dAt (x := (191, .getfield 60, 3)) DX11_lineRead_1 25 rfl
theorem dX11_lineRead_194 : decode cX11_lineRead 194 = .ok (.iload_n 2, 1) := dAt (x := (194, .iload_n 2, 1)) DX11_lineRead_1 26 rfl
theorem dX11_lineRead_195 : decode cX11_lineRead 195 = .ok (.aload_n 0, 1) := dAt (x := (195, .aload_n 0, 1)) DX11_lineRead_1 27 rfl
theorem dX11_lineRead_196 : decode cX11_lineRead 196 = .ok (.getfield 231, 3) := dAt (x := (196, .getfield 231, 3)) DX11_lineRead_1 28 rfl
theorem dX11_lineRead_199 : decode cX11_lineRead 199 = .ok (.iastore, 1) := dAt (x := (199, .iastore, 1)) DX11_lineRead_1 29 rfl
theorem dX11_lineRead_200 : decode cX11_lineRead 200 = .ok (.aload_n 0, 1) := dAt (x := (200, .aload_n 0, 1)) DX11_lineRead_1 30 rfl
theorem dX11_lineRead_201 : decode cX11_lineRead 201 = .ok (.invokevirtual 291, 3) := dAt (x := (201, .invokevirtual 291, 3)) DX11_lineRead_1 31 rfl
theorem dX11_lineRead_204 : decode cX11_lineRead 204 = .ok (.istore_n 1, 1) := dAt (x := (204, .istore_n 1, 1)) DX11_lineRead_1 32 rfl
theorem dX11_lineRead_205 : decode cX11_lineRead 205 = .ok (.aload_n 0, 1) := dAt (x := (205, .aload_n 0, 1)) DX11_lineRead_1 33 rfl
theorem dX11_lineRead_206 : decode cX11_lineRead 206 = .ok (.getfield 63, 3) := dAt (x := (206, .getfield 63, 3)) DX11_lineRead_1 34 rfl
theorem dX11_lineRead_209 : decode cX11_lineRead 209 = .ok (.iload_n 2, 1) := dAt (x := (209, .iload_n 2, 1)) DX11_lineRead_1 35 rfl
theorem dX11_lineRead_210 : decode cX11_lineRead 210 = .ok (.aload_n 0, 1) := dAt (x := (210, .aload_n 0, 1)) DX11_lineRead_1 36 rfl
theorem dX11_lineRead_211 : decode cX11_lineRead 211 = .ok (.getfield 231, 3) := dAt (x := (211, .getfield 231, 3)) DX11_lineRead_1 37 rfl
theorem dX11_lineRead_214 : decode cX11_lineRead 214 = .ok (.iastore, 1) := dAt (x := (214, .iastore, 1)) DX11_lineRead_1 38 rfl
theorem dX11_lineRead_215 : decode cX11_lineRead 215 = .ok (.iload_n 1, 1) := dAt (x := (215, .iload_n 1, 1)) DX11_lineRead_1 39 rfl
theorem dX11_lineRead_216 : decode cX11_lineRead 216 = .ok (.ifCond .ne 5, 3) := dAt (x := (216, .ifCond .ne 5, 3)) DX11_lineRead_1 40 rfl
theorem dX11_lineRead_219 : decode cX11_lineRead 219 = .ok (.iconst 0, 1) := dAt (x := (219, .iconst 0, 1)) DX11_lineRead_1 41 rfl
theorem dX11_lineRead_220 : decode cX11_lineRead 220 = .ok (.ireturn, 1) := dAt (x := (220, .ireturn, 1)) DX11_lineRead_1 42 rfl
theorem dX11_lineRead_221 : decode cX11_lineRead 221 = .ok (.aload_n 0, 1) := dAt (x := (221, .aload_n 0, 1)) DX11_lineRead_1 43 rfl
theorem dX11_lineRead_222 : decode cX11_lineRead 222 = .ok (.bipush 59, 2) := dAt (x := (222, .bipush 59, 2)) DX11_lineRead_1 44 rfl
theorem dX11_lineRead_224 : decode cX11_lineRead 224 = .ok (.invokevirtual 215, 3) := dAt (x := (224, .invokevirtual 215, 3)) DX11_lineRead_1 45 rfl
theorem dX11_lineRead_227 : decode cX11_lineRead 227 = .ok (.ifCond .ne 9, 3) := dAt (x := (227, .ifCond .ne 9, 3)) DX11_lineRead_1 46 rfl
theorem dX11_lineRead_230 : decode cX11_lineRead 230 = .ok (.aload_n 0, 1) := dAt (x := (230, .aload_n 0, 1)) DX11_lineRead_1 47 rfl
theorem dX11_lineRead_231 : decode cX11_lineRead 231 = .ok (.iconst 1, 1) := dAt (x := (231, .iconst 1, 1)) DX11_lineRead_1 48 rfl
theorem dX11_lineRead_232 : decode cX11_lineRead 232 = .ok (.invokevirtual 202, 3) := dAt (x := (232, .invokevirtual 202, 3)) DX11_lineRead_1 49 rfl
theorem dX11_lineRead_235 : decode cX11_lineRead 235 = .ok (.ireturn, 1) := dAt (x := (235, .ireturn, 1)) DX11_lineRead_1 50 rfl
theorem dX11_lineRead_236 : decode cX11_lineRead 236 = .ok (.aload_n 0, 1) := dAt (x := (236, .aload_n 0, 1)) DX11_lineRead_1 51 rfl
theorem dX11_lineRead_237 : decode cX11_lineRead 237 = .ok (.invokevirtual 212, 3) := dAt (x := (237, .invokevirtual 212, 3)) DX11_lineRead_1 52 rfl
theorem dX11_lineRead_240 : decode cX11_lineRead 240 = .ok (.iconst 1, 1) := dAt (x := (240, .iconst 1, 1)) DX11_lineRead_1 53 rfl
theorem dX11_lineRead_241 : decode cX11_lineRead 241 = .ok (.ireturn, 1) := dAt (x := (241, .ireturn, 1)) DX11_lineRead_1 54 rfl
def lDX11_text_0 : List (Nat × Instr × Nat) := [(0, .aload_n 0, 1), (1, .iconst 0, 1), (2, .putfield 160, 3), (5, .iload_n 1, 1), (6, .ifCond .lt 11, 3), (9, .iload_n 1, 1), (10, .aload_n 0, 1), (11, .getfield 163, 3), (14, .if_icmp .le 6, 3), (17, .bipush (-2), 2), (19, .ireturn, 1), (20, .aload_n 0, 1), (21, .iload_n 1, 1), (22, .putfield 172, 3), (25, .aload_n 0, 1), (26, .iconst 0, 1), (27, .putfield 163, 3), (30, .aload_n 0, 1), (31, .iconst 0, 1), (32, .putfield 166, 3), (35, .aload_n 0, 1), (36, .iconst (-1), 1), (37, .putfield 16, 3), (40, .aload_n 0, 1), (41, .iconst 0, 1), (42, .putfield 175, 3), (45, .aload_n 0, 1), (46, .invokevirtual 154, 3), (49, .aload_n 0, 1), (50, .invokevirtual 212, 3), (53, .iconst 0, 1), (54, .istore_n 2, 1), (55, .aload_n 0, 1), (56, .getfield 178, 3), (59, .ifCond .eq 18, 3), (62, .aload_n 0, 1), (63, .invokevirtual 294, 3), (66, .ifCond .ne 5, 3), (69, .iconst (-1), 1), (70, .ireturn, 1), (71, .iinc 2 1, 3), (74, .goto (-19), 3), (77, .aload_n 0, 1), (78, .invokevirtual 157, 3), (81, .iload_n 2, 1), (82, .ireturn, 1)]
theorem DX11_text_0 : dAll cX11_text lDX11_text_0 = true := by decide +kernel
theorem dX11_text_0 : decode cX11_text 0 = .ok (.aload_n 0, 1) := dAt (x := (0, .aload_n 0, 1)) DX11_text_0 0 rfl
theorem dX11_text_1 : decode cX11_text 1 = .ok (.iconst 0, 1) := dAt (x := (1, .iconst 0, 1)) DX11_text_0 1 rfl
theorem dX11_text_2 : decode cX11_text 2 = .ok (.putfield 160, 3) := dAt (x := (2, .putfield 160, 3)) DX11_text_0 2 rfl
theorem dX11_text_5 : decode cX11_text 5 = .ok (.iload_n 1, 1) := dAt (x := (5, .iload_n 1, 1)) DX11_text_0 3 rfl
theorem dX11_text_6 : decode cX11_text 6 = .ok (.ifCond .lt 11, 3) := dAt (x := (6, .ifCond .lt 11, 3)) DX11_text_0 4 rfl
theorem dX11_text_9 : decode cX11_text 9 = .ok (.iload_n 1, 1) := dAt (x := (9, .iload_n 1, 1)) DX11_text_0 5 rfl
theorem dX11_text_10 : decode cX11_text 10 = .ok (.aload_n 0, 1) := dAt (x := (10, .aload_n 0, 1)) DX11_text_0 6 rfl
theorem dX11_text_11 : decode cX11_text 11 = .ok (.getfield 163, 3) := dAt (x := (11, .getfield 163, 3)) DX11_text_0 7 rfl
theorem dX11_text_14 : decode cX11_text 14 = .ok (.if_icmp .le 6, 3) := dAt (x := (14, .if_icmp .le 6, 3)) DX11_text_0 8 rfl
theorem dX11_text_17 : decode cX11_text 17 = .ok (.bipush (-2), 2) := dAt (x := (17, .bipush (-2), 2)) DX11_text_0 9 rfl
theorem dX11_text_19 : decode cX11_text 19 = .ok (.ireturn, 1) := dAt (x := (19, .ireturn, 1)) DX11_text_0 10 rfl
theorem dX11_text_20 : decode cX11_text 20 = .ok (.aload_n 0, 1) := dAt (x := (20, .aload_n 0, 1)) DX11_text_0 11 rfl
theorem dX11_text_21 : decode cX11_text 21 = .ok (.iload_n 1, 1) := dAt (x := (21, .iload_n 1, 1)) DX11_text_0 12 rfl
theorem dX11_text_22 : decode cX11_text 22 = .ok (.putfield 172, 3) := dAt (x := (22, .putfield 172, 3)) DX11_text_0 13 rfl
theorem dX11_text_25 : decode cX11_text 25 = .ok (.aload_n 0, 1) := dAt (x := (25, .aload_n 0, 1)) DX11_text_0 14 rfl
theorem dX11_text_26 : decode cX11_text 26 = .ok (.iconst 0, 1) := dAt (x := (26, .iconst 0, 1)) DX11_text_0 15 rfl
theorem dX11_text_27 : decode cX11_text 27 = .ok (.putfield 163, 3) := dAt (x := (27, .putfield 163, 3)) DX11_text_0 16 rfl
theorem dX11_text_30 : decode cX11_text 30 = .ok (.aload_n 0, 1) := dAt (x := (30, .aload_n 0, 1)) DX11_text_0 17 rfl
theorem dX11_text_31 : decode cX11_text 31 = .ok (.iconst 0, 1) := dAt (x := (31, .iconst 0, 1)) DX11_text_0 18 rfl
theorem dX11_text_32 : decode cX11_text 32 = .ok (.putfield 166, 3) := dAt (x := (32, .putfield 166, 3)) DX11_text_0 19 rfl
theorem dX11_text_35 : decode cX11_text 35 = .ok (.aload_n 0, 1) := dAt (x := (35, .aload_n 0, 1)) DX11_text_0 20 rfl
theorem dX11_text_36 : decode cX11_text 36 = .ok (.iconst (-1), 1) := dAt (x := (36, .iconst (-1), 1)) DX11_text_0 21 rfl
theorem dX11_text_37 : decode cX11_text 37 = .ok (.putfield 16, 3) := dAt (x := (37, .putfield 16, 3)) DX11_text_0 22 rfl
theorem dX11_text_40 : decode cX11_text 40 = .ok (.aload_n 0, 1) := dAt (x := (40, .aload_n 0, 1)) DX11_text_0 23 rfl
theorem dX11_text_41 : decode cX11_text 41 = .ok (.iconst 0, 1) := dAt (x := (41, .iconst 0, 1)) DX11_text_0 24 rfl
theorem dX11_text_42 : decode cX11_text 42 = .ok (.putfield 175, 3) := dAt (x := (42, .putfield 175, 3)) DX11_text_0 25 rfl
theorem dX11_text_45 : decode cX11_text 45 = .ok (.aload_n 0, 1) := dAt (x := (45, .aload_n 0, 1)) DX11_text_0 26 rfl
theorem dX11_text_46 : decode cX11_text 46 = .ok (.invokevirtual 154, 3) := dAt (x := (46, .invokevirtual 154, 3)) DX11_text_0 27 rfl
theorem dX11_text_49 : decode cX11_text 49 = .ok (.aload_n 0, 1) := dAt (x := (49, .aload_n 0, 1)) DX11_text_0 28 rfl
theorem dX11_text_50 : decode cX11_text 50 = .ok (.invokevirtual 212, 3) := dAt (x := (50, .invokevirtual 212, 3)) DX11_text_0 29 rfl
theorem dX11_text_53 : decode cX11_text 53 = .ok (.iconst 0, 1) := dAt (x := (53, .iconst 0, 1)) DX11_text_0 30 rfl
theorem dX11_text_54 : decode cX11_text 54 = .ok (.istore_n 2, 1) := dAt (x := (54, .istore_n 2, 1)) DX11_text_0 31 rfl
theorem dX11_text_55 : decode cX11_text 55 = .ok (.aload_n 0, 1) := dAt (x := (55, .aload_n 0, 1)) DX11_text_0 32 rfl
theorem dX11_text_56 : decode cX11_text 56 = .ok (.getfield 178, 3) := dAt (x := (56, .getfield 178, 3)) DX11_text_0 33 rfl
theorem dX11_text_59 : decode cX11_text 59 = .ok (.ifCond .eq 18, 3) := dAt (x := (59, .ifCond .eq 18, 3)) DX11_text_0 34 rfl
theorem dX11_text_62 : decode cX11_text 62 = .ok (.aload_n 0, 1) := dAt (x := (62, .aload_n 0, 1)) DX11_text_0 35 rfl
theorem dX11_text_63 : decode cX11_text 63 = .ok (.invokevirtual 294, 3) := dAt (x := (63, .invokevirtual 294, 3)) DX11_text_0 36 rfl
theorem dX11_text_66 : decode cX11_text 66 = .ok (.ifCond .ne 5, 3) := dAt (x := (66, .ifCond .ne 5, 3)) DX11_text_0 37 rfl
theorem dX11_text_69 : decode cX11_text 69 = .ok (.iconst (-1), 1) := dAt (x := (69, .iconst (-1), 1)) DX11_text_0 38 rfl
theorem dX11_text_70 : decode cX11_text 70 = .ok (.ireturn, 1) := dAt (x := (70, .ireturn, 1)) DX11_text_0 39 rfl
theorem dX11_text_71 : decode cX11_text 71 = .ok (.iinc 2 1, 3) := dAt (x := (71, .iinc 2 1, 3)) DX11_text_0 40 rfl
theorem dX11_text_74 : decode cX11_text 74 = .ok (.goto (-19), 3) := dAt (x := (74, .goto (-19), 3)) DX11_text_0 41 rfl
theorem dX11_text_77 : decode cX11_text 77 = .ok (.aload_n 0, 1) := dAt (x := (77, .aload_n 0, 1)) DX11_text_0 42 rfl
theorem dX11_text_78 : decode cX11_text 78 = .ok (.invokevirtual 157, 3) := dAt (x := (78, .invokevirtual 157, 3)) DX11_text_0 43 rfl
theorem dX11_text_81 : decode cX11_text 81 = .ok (.iload_n 2, 1) := dAt (x := (81, .iload_n 2, 1)) DX11_text_0 44 rfl
theorem dX11_text_82 : decode cX11_text 82 = .ok (.ireturn, 1) := dAt (x := (82, .ireturn, 1)) DX11_text_0 45 rfl
