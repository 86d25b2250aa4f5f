def lDX11_layFar_2 : List (Nat × Instr × Nat) := [(212, .iload 9, 2), (214, .iaload, 1), (215, .aload_n 0, 1), (216, .getfield 115, 3), (219, .iload 6, 2), (221, .iaload, 1), (222, .iadd, 1), (223, .ldc_w 479, 3), (226, .if_icmp .ge 21, 3), (229, .aload_n 0, 1), (230, .getfield 115, 3), (233, .iload 9, 2), (235, .iaload, 1), (236, .aload_n 0, 1), (237, .getfield 115, 3), (240, .iload 6, 2), (242, .iaload, 1), (243, .iadd, 1), (244, .goto 6, 3), (247, .ldc_w 479, 3), (250, .iastore, 1), (251, .iinc 8 1, 3), (254, .goto (-163), 3), (257, .iinc 5 1, 3), (260, .goto (-206), 3), (263, .return_, 1)]
theorem DX11_layFar_2 : dAll cX11_layFar lDX11_layFar_2 = true := by decide +kernel
theorem dX11_layFar_212 : decode cX11_layFar 212 = .ok (.iload 9, 2) := dAt (x := (212, .iload 9, 2)) DX11_layFar_2 0 rfl
theorem dX11_layFar_214 : decode cX11_layFar 214 = .ok (.iaload, 1) := dAt (x := (214, .iaload, 1)) DX11_layFar_2 1 rfl
theorem dX11_layFar_215 : decode cX11_layFar 215 = .ok (.aload_n 0, 1) := dAt (x := (215, .aload_n 0, 1)) DX11_layFar_2 2 rfl
theorem dX11_layFar_216 : decode cX11_layFar 216 = .ok (.getfield 115, 3) := dAt (x := (216, .getfield 115, 3)) DX11_layFar_2 3 rfl
theorem dX11_layFar_219 : decode cX11_layFar 219 = .ok (.iload 6, 2) := dAt (x := (219, .iload 6, 2)) DX11_layFar_2 4 rfl
theorem dX11_layFar_221 : decode cX11_layFar 221 = .ok (.iaload, 1) := dAt (x := (221, .iaload, 1)) DX11_layFar_2 5 rfl
theorem dX11_layFar_222 : decode cX11_layFar 222 = .ok (.iadd, 1) := dAt (x := (222, .iadd, 1)) DX11_layFar_2 6 rfl
theorem dX11_layFar_223 : decode cX11_layFar 223 = .ok (.ldc_w 479, 3) := dAt (x := (223, .ldc_w 479, 3)) DX11_layFar_2 7 rfl
theorem dX11_layFar_226 : decode cX11_layFar 226 = .ok (.if_icmp .ge 21, 3) := dAt (x := (226, .if_icmp .ge 21, 3)) DX11_layFar_2 8 rfl
theorem dX11_layFar_229 : decode cX11_layFar 229 = .ok (.aload_n 0, 1) := dAt (x := (229, .aload_n 0, 1)) DX11_layFar_2 9 rfl
theorem dX11_layFar_230 : decode cX11_layFar 230 = .ok (.getfield 115, 3) := dAt (x := (230, .getfield 115, 3)) DX11_layFar_2 10 rfl
theorem dX11_layFar_233 : decode cX11_layFar 233 = .ok (.iload 9, 2) := dAt (x := (233, .iload 9, 2)) DX11_layFar_2 11 rfl
theorem dX11_layFar_235 : decode cX11_layFar 235 = .ok (.iaload, 1) := dAt (x := (235, .iaload, 1)) DX11_layFar_2 12 rfl
theorem dX11_layFar_236 : decode cX11_layFar 236 = .ok (.aload_n 0, 1) := dAt (x := (236, .aload_n 0, 1)) DX11_layFar_2 13 rfl
theorem dX11_layFar_237 : decode cX11_layFar 237 = .ok (.getfield 115, 3) := dAt (x := (237, .getfield 115, 3)) DX11_layFar_2 14 rfl
theorem dX11_layFar_240 : decode cX11_layFar 240 = .ok (.iload 6, 2) := dAt (x := (240, .iload 6, 2)) DX11_layFar_2 15 rfl
theorem dX11_layFar_242 : decode cX11_layFar 242 = .ok (.iaload, 1) := dAt (x := (242, .iaload, 1)) DX11_layFar_2 16 rfl
theorem dX11_layFar_243 : decode cX11_layFar 243 = .ok (.iadd, 1) := dAt (x := (243, .iadd, 1)) DX11_layFar_2 17 rfl
theorem dX11_layFar_244 : decode cX11_layFar 244 = .ok (.goto 6, 3) := dAt (x := (244, .goto 6, 3)) DX11_layFar_2 18 rfl
theorem dX11_layFar_247 : decode cX11_layFar 247 = .ok (.ldc_w 479, 3) := dAt (x := (247, .ldc_w 479, 3)) DX11_layFar_2 19 rfl
theorem dX11_layFar_250 : decode cX11_layFar 250 = .ok (.iastore, 1) := dAt (x := (250, .iastore, 1)) DX11_layFar_2 20 rfl
theorem dX11_layFar_251 : decode cX11_layFar 251 = .ok (.iinc 8 1, 3) := dAt (x := (251, .iinc 8 1, 3)) DX11_layFar_2 21 rfl
theorem dX11_layFar_254 : decode cX11_layFar 254 = .ok (.goto (-163), 3) := dAt (x := (254, .goto (-163), 3)) DX11_layFar_2 22 rfl
theorem dX11_layFar_257 : decode cX11_layFar 257 = .ok (.iinc 5 1, 3) := dAt (x := (257, .iinc 5 1, 3)) DX11_layFar_2 23 rfl
theorem dX11_layFar_260 : decode cX11_layFar 260 = .ok (.goto (-206), 3) := dAt (x := (260, .goto (-206), 3)) DX11_layFar_2 24 rfl
theorem dX11_layFar_263 : decode cX11_layFar 263 = .ok (.return_, 1) := dAt (x := (263, .return_, 1)) DX11_layFar_2 25 rfl
def lDX11_layNow_0 : List (Nat × Instr × Nat) := [(0, .aload_n 0, 1), (1, .aload_n 0, 1), (2, .getfield 94, 3), (5, .iconst 0, 1), (6, .iaload, 1), (7, .iconst (-1), 1), (8, .aload_n 0, 1), (9, .getfield 97, 3), (12, .iconst 0, 1), (13, .iaload, 1), (14, .iconst 0, 1), (15, .invokevirtual 480, 3), (18, .return_, 1)]
theorem DX11_layNow_0 : dAll cX11_layNow lDX11_layNow_0 = true := by decide +kernel
theorem dX11_layNow_0 : decode cX11_layNow 0 = .ok (.aload_n 0, 1) := dAt (x := (0, .aload_n 0, 1)) DX11_layNow_0 0 rfl
theorem dX11_layNow_1 : decode cX11_layNow 1 = .ok (.aload_n 0, 1) := dAt (x := (1, .aload_n 0, 1)) DX11_layNow_0 1 rfl
theorem dX11_layNow_2 : decode cX11_layNow 2 = .ok (.getfield 94, 3) := dAt (x := (2, .getfield 94, 3)) DX11_layNow_0 2 rfl
theorem dX11_layNow_5 : decode cX11_layNow 5 = .ok (.iconst 0, 1) := dAt (x := (5, .iconst 0, 1)) DX11_layNow_0 3 rfl
theorem dX11_layNow_6 : decode cX11_layNow 6 = .ok (.iaload, 1) := dAt (x := (6, .iaload, 1)) DX11_layNow_0 4 rfl
theorem dX11_layNow_7 : decode cX11_layNow 7 = .ok (.iconst (-1), 1) := dAt (x := (7, .iconst (-1), 1)) DX11_layNow_0 5 rfl
theorem dX11_layNow_8 : decode cX11_layNow 8 = .ok (.aload_n 0, 1) := dAt (x := (8, .aload_n 0, 1)) DX11_layNow_0 6 rfl
theorem dX11_layNow_9 : decode cX11_layNow 9 = .ok (.getfield 97, 3) := dAt (x := (9, .getfield 97, 3)) DX11_layNow_0 7 rfl
theorem dX11_layNow_12 : decode cX11_layNow 12 = .ok (.iconst 0, 1) := dAt (x := (12, .iconst 0, 1)) DX11_layNow_0 8 rfl
theorem dX11_layNow_13 : decode cX11_layNow 13 = .ok (.iaload, 1) := dAt (x := (13, .iaload, 1)) DX11_layNow_0 9 rfl
theorem dX11_layNow_14 : decode cX11_layNow 14 = .ok (.iconst 0, 1) := dAt (x := (14, .iconst 0, 1)) DX11_layNow_0 10 rfl
theorem dX11_layNow_15 : decode cX11_layNow 15 = .ok (.invokevirtual 480, 3) := dAt (x := (15, .invokevirtual 480, 3)) DX11_layNow_0 11 rfl
theorem dX11_layNow_18 : decode cX11_layNow 18 = .ok (.return_, 1) := dAt (x := (18, .return_, 1)) DX11_layNow_0 12 rfl
def lDX11_fewest_0 : List (Nat × Instr × Nat) := [(0, .aload_n 0, 1), (1, .iconst 0, 1), (2, .putfield 160, 3), (5, .aload_n 0, 1), (6, .iload_n 1, 1), (7, .invokevirtual 462, 3), (10, .ifCond .ne 5, 3), (13, .iconst (-1), 1), (14, .ireturn, 1), (15, .aload_n 0, 1), (16, .invokevirtual 484, 3), (19, .aload_n 0, 1), (20, .getfield 112, 3), (23, .iload_n 1, 1), (24, .iaload, 1), (25, .ifCond .ge 8, 3), (28, .bipush (-2), 2), (30, .goto 9, 3), (33, .aload_n 0, 1), (34, .getfield 112, 3), (37, .iload_n 1, 1), (38, .iaload, 1), (39, .ireturn, 1)]
theorem DX11_fewest_0 : dAll cX11_fewest lDX11_fewest_0 = true := by decide +kernel
theorem dX11_fewest_0 : decode cX11_fewest 0 = .ok (.aload_n 0, 1) := dAt (x := (0, .aload_n 0, 1)) DX11_fewest_0 0 rfl
theorem dX11_fewest_1 : decode cX11_fewest 1 = .ok (.iconst 0, 1) := dAt (x := (1, .iconst 0, 1)) DX11_fewest_0 1 rfl
theorem dX11_fewest_2 : decode cX11_fewest 2 = .ok (.putfield 160, 3) := dAt (x := (2, .putfield 160, 3)) DX11_fewest_0 2 rfl
theorem dX11_fewest_5 : decode cX11_fewest 5 = .ok (.aload_n 0, 1) := dAt (x := (5, .aload_n 0, 1)) DX11_fewest_0 3 rfl
theorem dX11_fewest_6 : decode cX11_fewest 6 = .ok (.iload_n 1, 1) := dAt (x := (6, .iload_n 1, 1)) DX11_fewest_0 4 rfl
theorem dX11_fewest_7 : decode cX11_fewest 7 = .ok (.invokevirtual 462, 3) := dAt (x := (7, .invokevirtual 462, 3)) DX11_fewest_0 5 rfl
theorem dX11_fewest_10 : decode cX11_fewest 10 = .ok (.ifCond .ne 5, 3) := dAt (x := (10, .ifCond .ne 5, 3)) DX11_fewest_0 6 rfl
theorem dX11_fewest_13 : decode cX11_fewest 13 = .ok (.iconst (-1), 1) := dAt (x := (13, .iconst (-1), 1)) DX11_fewest_0 7 rfl
theorem dX11_fewest_14 : decode cX11_fewest 14 = .ok (.ireturn, 1) := dAt (x := (14, .ireturn, 1)) DX11_fewest_0 8 rfl
theorem dX11_fewest_15 : decode cX11_fewest 15 = .ok (.aload_n 0, 1) := dAt (x := (15, .aload_n 0, 1)) DX11_fewest_0 9 rfl
theorem dX11_fewest_16 : decode cX11_fewest 16 = .ok (.invokevirtual 484, 3) := dAt (x := (16, .invokevirtual 484, 3)) DX11_fewest_0 10 rfl
theorem dX11_fewest_19 : decode cX11_fewest 19 = .ok (.aload_n 0, 1) := dAt (x := (19, .aload_n 0, 1)) DX11_fewest_0 11 rfl
theorem dX11_fewest_20 : decode cX11_fewest 20 = .ok (.getfield 112, 3) := dAt (x := (20, .getfield 112, 3)) DX11_fewest_0 12 rfl
theorem dX11_fewest_23 : decode cX11_fewest 23 = .ok (.iload_n 1, 1) := dAt (x := (23, .iload_n 1, 1)) DX11_fewest_0 13 rfl
theorem dX11_fewest_24 : decode cX11_fewest 24 = .ok (.iaload, 1) := dAt (x := (24, .iaload, 1)) DX11_fewest_0 14 rfl
theorem dX11_fewest_25 : decode cX11_fewest 25 = .ok (.ifCond .ge 8, 3) := dAt (x := (25, .ifCond .ge 8, 3)) DX11_fewest_0 15 rfl
theorem dX11_fewest_28 : decode cX11_fewest 28 = .ok (.bipush (-2), 2) := dAt (x := (28, .bipush (-2), 2)) DX11_fewest_0 16 rfl
theorem dX11_fewest_30 : decode cX11_fewest 30 = .ok (.goto 9, 3) := dAt (x := (30, .goto 9, 3)) DX11_fewest_0 17 rfl
theorem dX11_fewest_33 : decode cX11_fewest 33 = .ok (.aload_n 0, 1) := dAt (x := (33, .aload_n 0, 1)) DX11_fewest_0 18 rfl
theorem dX11_fewest_34 : decode cX11_fewest 34 = .ok (.getfield 112, 3) := dAt (x := (34, .getfield 112, 3)) DX11_fewest_0 19 rfl
theorem dX11_fewest_37 : decode cX11_fewest 37 = .ok (.iload_n 1, 1) := dAt (x := (37, .iload_n 1, 1)) DX11_fewest_0 20 rfl
theorem dX11_fewest_38 : decode cX11_fewest 38 = .ok (.iaload, 1) := dAt (x := (38, .iaload, 1)) DX11_fewest_0 21 rfl
theorem dX11_fewest_39 : decode cX11_fewest 39 = .ok (.ireturn, 1) := dAt (x := (39, .ireturn, 1)) DX11_fewest_0 22 rfl
def lDX11_first_0 : List (Nat × Instr × Nat) := [(0, .aload_n 0, 1), (1, .iconst 0, 1), (2, .putfield 160, 3), (5, .aload_n 0, 1), (6, .iload_n 1, 1), (7, .invokevirtual 462, 3), (10, .ifCond .ne 5, 3), (13, .iconst (-1), 1), (14, .ireturn, 1), (15, .aload_n 0, 1), (16, .iload_n 1, 1), (17, .iconst (-1), 1), (18, .aload_n 0, 1), (19, .getfield 97, 3), (22, .iconst 0, 1), (23, .iaload, 1), (24, .iconst 0, 1), (25, .invokevirtual 480, 3), (28, .aload_n 0, 1), (29, .getfield 112, 3), (32, .aload_n 0, 1), (33, .getfield 94, 3), (36, .iconst 0, 1), (37, .iaload, 1), (38, .iaload, 1), (39, .istore_n 2, 1), (40, .aload_n 0, 1), (41, .getfield 88, 3), (44, .aload_n 0, 1), (45, .getfield 94, 3), (48, .iconst 0, 1), (49, .iaload, 1), (50, .iaload, 1), (51, .aload_n 0, 1), (52, .getfield 97, 3), (55, .iconst 0, 1), (56, .iaload, 1), (57, .iconst (-1), 1), (58, .ixor, 1), (59, .iand, 1), (60, .istore_n 3, 1), (61, .iconst 0, 1), (62, .istore 4, 2), (64, .iload 4, 2), (66, .aload_n 0, 1), (67, .getfield 240, 3), (70, .if_icmp .ge 47, 3), (73, .iload_n 2, 1), (74, .ifCond .le 43, 3), (77, .iload_n 3, 1), (78, .iload 4, 2), (80, .invokestatic 372, 3), (83, .ifCond .eq 28, 3), (86, .aload_n 0, 1), (87, .getfield 112, 3), (90, .aload_n 0, 1), (91, .getfield 94, 3), (94, .iconst 0, 1), (95, .iaload, 1), (96, .iconst 1, 1)]
theorem DX11_first_0 : dAll cX11_first lDX11_first_0 = true := by decide +kernel
theorem dX11_first_0 : decode cX11_first 0 = .ok (.aload_n 0, 1) := dAt (x := (0, .aload_n 0, 1)) DX11_first_0 0 rfl
theorem dX11_first_1 : decode cX11_first 1 = .ok (.iconst 0, 1) := dAt (x := (1, .iconst 0, 1)) DX11_first_0 1 rfl
theorem dX11_first_2 : decode cX11_first 2 = .ok (.putfield 160, 3) := dAt (x := (2, .putfield 160, 3)) DX11_first_0 2 rfl
theorem dX11_first_5 : decode cX11_first 5 = .ok (.aload_n 0, 1) := dAt (x := (5, .aload_n 0, 1)) DX11_first_0 3 rfl
theorem dX11_first_6 : decode cX11_first 6 = .ok (.iload_n 1, 1) := dAt (x := (6, .iload_n 1, 1)) DX11_first_0 4 rfl
theorem dX11_first_7 : decode cX11_first 7 = .ok (.invokevirtual 462, 3) := dAt (x := (7, .invokevirtual 462, 3)) DX11_first_0 5 rfl
theorem dX11_first_10 : decode cX11_first 10 = .ok (.ifCond .ne 5, 3) := dAt (x := (10, .ifCond .ne 5, 3)) DX11_first_0 6 rfl
theorem dX11_first_13 : decode cX11_first 13 = .ok (.iconst (-1), 1) := dAt (x := (13, .iconst (-1), 1)) DX11_first_0 7 rfl
theorem dX11_first_14 : decode cX11_first 14 = .ok (.ireturn, 1) := dAt (x := (14, .ireturn, 1)) DX11_first_0 8 rfl
theorem dX11_first_15 : decode cX11_first 15 = .ok (.aload_n 0, 1) := dAt (x := (15, .aload_n 0, 1)) DX11_first_0 9 rfl
theorem dX11_first_16 : decode cX11_first 16 = .ok (.iload_n 1, 1) := dAt (x := (16, .iload_n 1, 1)) DX11_first_0 10 rfl
theorem dX11_first_17 : decode cX11_first 17 = .ok (.iconst (-1), 1) := dAt (x := (17, .iconst (-1), 1)) DX11_first_0 11 rfl
theorem dX11_first_18 : decode cX11_first 18 = .ok (.aload_n 0, 1) := dAt (x := (18, .aload_n 0, 1)) DX11_first_0 12 rfl
theorem dX11_first_19 : decode cX11_first 19 = .ok (.getfield 97, 3) := dAt (x := (19, .getfield 97, 3)) DX11_first_0 13 rfl
theorem dX11_first_22 : decode cX11_first 22 = .ok (.iconst 0, 1) := dAt (x := (22, .iconst 0, 1)) DX11_first_0 14 rfl
theorem dX11_first_23 : decode cX11_first 23 = .ok (.iaload, 1) := dAt (x := (23, .iaload, 1)) DX11_first_0 15 rfl
theorem dX11_first_24 : decode cX11_first 24 = .ok (.iconst 0, 1) := dAt (x := (24, .iconst 0, 1)) DX11_first_0 16 rfl
theorem dX11_first_25 : decode cX11_first 25 = .ok (.invokevirtual 480, 3) := dAt (x := (25, .invokevirtual 480, 3)) DX11_first_0 17 rfl
theorem dX11_first_28 : decode cX11_first 28 = .ok (.aload_n 0, 1) := dAt (x := (28, .aload_n 0, 1)) DX11_first_0 18 rfl
theorem dX11_first_29 : decode cX11_first 29 = .ok (.getfield 112, 3) := dAt (x := (29, .getfield 112, 3)) DX11_first_0 19 rfl
theorem dX11_first_32 : decode cX11_first 32 = .ok (.aload_n 0, 1) := dAt (x := (32, .aload_n 0, 1)) DX11_first_0 20 rfl
theorem dX11_first_33 : decode cX11_first 33 = .ok (.getfield 94, 3) := dAt (x := (33, .getfield 94, 3)) DX11_first_0 21 rfl
theorem dX11_first_36 : decode cX11_first 36 = .ok (.iconst 0, 1) := dAt (x := (36, .iconst 0, 1)) DX11_first_0 22 rfl
theorem dX11_first_37 : decode cX11_first 37 = .ok (.iaload, 1) := dAt (x := (37, .iaload, 1)) DX11_first_0 23 rfl
theorem dX11_first_38 : decode cX11_first 38 = .ok (.iaload, 1) := dAt (x := (38, .iaload, 1)) DX11_first_0 24 rfl
theorem dX11_first_39 : decode cX11_first 39 = .ok (.istore_n 2, 1) := dAt (x := (39, .istore_n 2, 1)) DX11_first_0 25 rfl
theorem dX11_first_40 : decode cX11_first 40 = .ok (.aload_n 0, 1) := dAt (x := (40, .aload_n 0, 1)) DX11_first_0 26 rfl
theorem dX11_first_41 : decode cX11_first 41 = .ok (.getfield 88, 3) := dAt (x := (41, .getfield 88, 3)) DX11_first_0 27 rfl
theorem dX11_first_44 : decode cX11_first 44 = .ok (.aload_n 0, 1) := dAt (x := (44, .aload_n 0, 1)) DX11_first_0 28 rfl
theorem dX11_first_45 : decode cX11_first 45 = .ok (.getfield 94, 3) := dAt (x := (45, .getfield 94, 3)) DX11_first_0 29 rfl
theorem dX11_first_48 : decode cX11_first 48 = .ok (.iconst 0, 1) := dAt (x := (48, .iconst 0, 1)) DX11_first_0 30 rfl
theorem dX11_first_49 : decode cX11_first 49 = .ok (.iaload, 1) := dAt (x := (49, .iaload, 1)) DX11_first_0 31 rfl
theorem dX11_first_50 : decode cX11_first 50 = .ok (.iaload, 1) := dAt (x := (50, .iaload, 1)) DX11_first_0 32 rfl
theorem dX11_first_51 : decode cX11_first 51 = .ok (.aload_n 0, 1) := dAt (x := (51, .aload_n 0, 1)) DX11_first_0 33 rfl
theorem dX11_first_52 : decode cX11_first 52 = .ok (.getfield 97, 3) := dAt (x := (52, .getfield 97, 3)) DX11_first_0 34 rfl
theorem dX11_first_55 : decode cX11_first 55 = .ok (.iconst 0, 1) := dAt (x := (55, .iconst 0, 1)) DX11_first_0 35 rfl
theorem dX11_first_56 : decode cX11_first 56 = .ok (.iaload, 1) := dAt (x := (56, .iaload, 1)) DX11_first_0 36 rfl
theorem dX11_first_57 : decode cX11_first 57 = .ok (.iconst (-1), 1) := dAt (x := (57, .iconst (-1), 1)) DX11_first_0 37 rfl
theorem dX11_first_58 : decode cX11_first 58 = .ok (.ixor, 1) := dAt (x := (58, .ixor, 1)) DX11_first_0 38 rfl
theorem dX11_first_59 : decode cX11_first 59 = .ok (.iand, 1) := dAt (x := (59, .iand, 1)) DX11_first_0 39 rfl
theorem dX11_first_60 : decode cX11_first 60 = .ok (.istore_n 3, 1) := dAt (x := (60, .istore_n 3, 1)) DX11_first_0 40 rfl
theorem dX11_first_61 : decode cX11_first 61 = .ok (.iconst 0, 1) := dAt (x := (61, .iconst 0, 1)) DX11_first_0 41 rfl
theorem dX11_first_62 : decode cX11_first 62 = .ok (.istore 4, 2) := dAt (x := (62, .istore 4, 2)) DX11_first_0 42 rfl
theorem dX11_first_64 : decode cX11_first 64 = .ok (.iload 4, 2) := dAt (x := (64, .iload 4, 2)) DX11_first_0 43 rfl
theorem dX11_first_66 : decode cX11_first 66 = .ok (.aload_n 0, 1) := dAt (x := (66, .aload_n 0, 1)) DX11_first_0 44 rfl
theorem dX11_first_67 : decode cX11_first 67 = .ok (.getfield 240, 3) := dAt (x := (67, .getfield 240, 3)) DX11_first_0 45 rfl
theorem dX11_first_70 : decode cX11_first 70 = .ok (.if_icmp .ge 47, 3) := dAt (x := (70, .if_icmp .ge 47, 3)) DX11_first_0 46 rfl
theorem dX11_first_73 : decode cX11_first 73 = .ok (.iload_n 2, 1) := dAt (x := (73, .iload_n 2, 1)) DX11_first_0 47 rfl
theorem dX11_first_74 : decode cX11_first 74 = .ok (.ifCond .le 43, 3) := dAt (x := (74, .ifCond .le 43, 3)) DX11_first_0 48 rfl
theorem dX11_first_77 : decode cX11_first 77 = .ok (.iload_n 3, 1) := dAt (x := (77, .iload_n 3, 1)) DX11_first_0 49 rfl
theorem dX11_first_78 : decode cX11_first 78 = .ok (.iload 4, 2) := dAt (x := (78, .iload 4, 2)) DX11_first_0 50 rfl
theorem dX11_first_80 : decode cX11_first 80 = .ok (.invokestatic 372, 3) := dAt (x := (80, .invokestatic 372, 3)) DX11_first_0 51 rfl
theorem dX11_first_83 : decode cX11_first 83 = .ok (.ifCond .eq 28, 3) := dAt (x := (83, .ifCond .eq 28, 3)) DX11_first_0 52 rfl
theorem dX11_first_86 : decode cX11_first 86 = .ok (.aload_n 0, 1) := dAt (x := (86, .aload_n 0, 1)) DX11_first_0 53 rfl
theorem dX11_first_87 : decode cX11_first 87 = .ok (.getfield 112, 3) := dAt (x := (87, .getfield 112, 3)) DX11_first_0 54 rfl
theorem dX11_first_90 : decode cX11_first 90 = .ok (.aload_n 0, 1) := dAt (x := (90, .aload_n 0, 1)) DX11_first_0 55 rfl
theorem dX11_first_91 : decode cX11_first 91 = .ok (.getfield 94, 3) := dAt (x := (91, .getfield 94, 3)) DX11_first_0 56 rfl
theorem dX11_first_94 : decode cX11_first 94 = .ok (.iconst 0, 1) := dAt (x := (94, .iconst 0, 1)) DX11_first_0 57 rfl
theorem dX11_first_95 : decode cX11_first 95 = .ok (.iaload, 1) := dAt (x := (95, .iaload, 1)) DX11_first_0 58 rfl
theorem dX11_first_96 : decode cX11_first 96 = .ok (.iconst 1, 1) := dAt (x := (96, .iconst 1, 1)) DX11_first_0 59 rfl
def lDX11_first_1 : List (Nat × Instr × Nat) := [(97, .iload 4, 2), (99, .ishl, 1), (100, .ixor, 1), (101, .iaload, 1), (102, .iload_n 2, 1), (103, .iconst 1, 1), (104, .isub, 1), (105, .if_icmp .ne 6, 3), (108, .iload 4, 2), (110, .ireturn, 1), (111, .iinc 4 1, 3), (114, .goto (-50), 3), (117, .bipush (-2), 2), (119, .ireturn, 1)]
theorem DX11_first_1 : dAll cX11_first lDX11_first_1 = true := by decide +kernel
theorem dX11_first_97 : decode cX11_first 97 = .ok (.iload 4, 2) := dAt (x := (97, .iload 4, 2)) DX11_first_1 0 rfl
theorem dX11_first_99 : decode cX11_first 99 = .ok (.ishl, 1) := dAt (x := (99, .ishl, 1)) DX11_first_1 1 rfl
theorem dX11_first_100 : decode cX11_first 100 = .ok (.ixor, 1) := dAt (x := (100, .ixor, 1)) DX11_first_1 2 rfl
theorem dX11_first_101 : decode cX11_first 101 = .ok (.iaload, 1) := dAt (x := (101, .iaload, 1)) DX11_first_1 3 rfl
theorem dX11_first_102 : decode cX11_first 102 = .ok (.iload_n 2, 1) := dAt (x := (102, .iload_n 2, 1)) DX11_first_1 4 rfl
theorem dX11_first_103 : decode cX11_first 103 = .ok (.iconst 1, 1) := dAt (x := (103, .iconst 1, 1)) DX11_first_1 5 rfl
theorem dX11_first_104 : decode cX11_first 104 = .ok (.isub, 1) := dAt (x := (104, .isub, 1)) DX11_first_1 6 rfl
theorem dX11_first_105 : decode cX11_first 105 = .ok (.if_icmp .ne 6, 3) := dAt (x := (105, .if_icmp .ne 6, 3)) DX11_first_1 7 rfl
theorem dX11_first_108 : decode cX11_first 108 = .ok (.iload 4, 2) := dAt (x := (108, .iload 4, 2)) DX11_first_1 8 rfl
theorem dX11_first_110 : decode cX11_first 110 = .ok (.ireturn, 1) := dAt (x := (110, .ireturn, 1)) DX11_first_1 9 rfl
theorem dX11_first_111 : decode cX11_first 111 = .ok (.iinc 4 1, 3) := dAt (x := (111, .iinc 4 1, 3)) DX11_first_1 10 rfl
theorem dX11_first_114 : decode cX11_first 114 = .ok (.goto (-50), 3) := dAt (x := (114, .goto (-50), 3)) DX11_first_1 11 rfl
theorem dX11_first_117 : decode cX11_first 117 = .ok (.bipush (-2), 2) := dAt (x := (117, .bipush (-2), 2)) DX11_first_1 12 rfl
theorem dX11_first_119 : decode cX11_first 119 = .ok (.ireturn, 1) := dAt (x := (119, .ireturn, 1)) DX11_first_1 13 rfl
def lDX11_ways_0 : List (Nat × Instr × Nat) := [(0, .aload_n 0, 1), (1, .iconst 0, 1), (2, .putfield 160, 3), (5, .aload_n 0, 1), (6, .iload_n 1, 1), (7, .invokevirtual 462, 3), (10, .ifCond .ne 5, 3), (13, .iconst (-1), 1), (14, .ireturn, 1), (15, .aload_n 0, 1), (16, .invokevirtual 484, 3), (19, .aload_n 0, 1), (20, .getfield 112, 3), (23, .iload_n 1, 1), (24, .iaload, 1), (25, .ifCond .ge 7, 3), (28, .iconst 0, 1), (29, .goto 9, 3), (32, .aload_n 0, 1), (33, .getfield 115, 3), (36, .iload_n 1, 1), (37, .iaload, 1), (38, .ireturn, 1)]
theorem DX11_ways_0 : dAll cX11_ways lDX11_ways_0 = true := by decide +kernel
theorem dX11_ways_0 : decode cX11_ways 0 = .ok (.aload_n 0, 1) := dAt (x := (0, .aload_n 0, 1)) DX11_ways_0 0 rfl
theorem dX11_ways_1 : decode cX11_ways 1 = .ok (.iconst 0, 1) := dAt (x := (1, .iconst 0, 1)) DX11_ways_0 1 rfl
theorem dX11_ways_2 : decode cX11_ways 2 = .ok (.putfield 160, 3) := dAt (x := (2, .putfield 160, 3)) DX11_ways_0 2 rfl
theorem dX11_ways_5 : decode cX11_ways 5 = .ok (.aload_n 0, 1) := dAt (x := (5, .aload_n 0, 1)) DX11_ways_0 3 rfl
theorem dX11_ways_6 : decode cX11_ways 6 = .ok (.iload_n 1, 1) := dAt (x := (6, .iload_n 1, 1)) DX11_ways_0 4 rfl
theorem dX11_ways_7 : decode cX11_ways 7 = .ok (.invokevirtual 462, 3) := dAt (x := (7, .invokevirtual 462, 3)) DX11_ways_0 5 rfl
theorem dX11_ways_10 : decode cX11_ways 10 = .ok (.ifCond .ne 5, 3) := dAt (x := (10, .ifCond .ne 5, 3)) DX11_ways_0 6 rfl
theorem dX11_ways_13 : decode cX11_ways 13 = .ok (.iconst (-1), 1) := dAt (x := (13, .iconst (-1), 1)) DX11_ways_0 7 rfl
theorem dX11_ways_14 : decode cX11_ways 14 = .ok (.ireturn, 1) := dAt (x := (14, .ireturn, 1)) DX11_ways_0 8 rfl
theorem dX11_ways_15 : decode cX11_ways 15 = .ok (.aload_n 0, 1) := dAt (x := (15, .aload_n 0, 1)) DX11_ways_0 9 rfl
theorem dX11_ways_16 : decode cX11_ways 16 = .ok (.invokevirtual 484, 3) := dAt (x := (16, .invokevirtual 484, 3)) DX11_ways_0 10 rfl
theorem dX11_ways_19 : decode cX11_ways 19 = .ok (.aload_n 0, 1) := dAt (x := (19, .aload_n 0, 1)) DX11_ways_0 11 rfl
theorem dX11_ways_20 : decode cX11_ways 20 = .ok (.getfield 112, 3) := dAt (x := (20, .getfield 112, 3)) DX11_ways_0 12 rfl
theorem dX11_ways_23 : decode cX11_ways 23 = .ok (.iload_n 1, 1) := dAt (x := (23, .iload_n 1, 1)) DX11_ways_0 13 rfl
theorem dX11_ways_24 : decode cX11_ways 24 = .ok (.iaload, 1) := dAt (x := (24, .iaload, 1)) DX11_ways_0 14 rfl
theorem dX11_ways_25 : decode cX11_ways 25 = .ok (.ifCond .ge 7, 3) := dAt (x := (25, .ifCond .ge 7, 3)) DX11_ways_0 15 rfl
theorem dX11_ways_28 : decode cX11_ways 28 = .ok (.iconst 0, 1) := dAt (x := (28, .iconst 0, 1)) DX11_ways_0 16 rfl
theorem dX11_ways_29 : decode cX11_ways 29 = .ok (.goto 9, 3) := dAt (x := (29, .goto 9, 3)) DX11_ways_0 17 rfl
theorem dX11_ways_32 : decode cX11_ways 32 = .ok (.aload_n 0, 1) := dAt (x := (32, .aload_n 0, 1)) DX11_ways_0 18 rfl
theorem dX11_ways_33 : decode cX11_ways 33 = .ok (.getfield 115, 3) := dAt (x := (33, .getfield 115, 3)) DX11_ways_0 19 rfl
theorem dX11_ways_36 : decode cX11_ways 36 = .ok (.iload_n 1, 1) := dAt (x := (36, .iload_n 1, 1)) DX11_ways_0 20 rfl
theorem dX11_ways_37 : decode cX11_ways 37 = .ok (.iaload, 1) := dAt (x := (37, .iaload, 1)) DX11_ways_0 21 rfl
theorem dX11_ways_38 : decode cX11_ways 38 = .ok (.ireturn, 1) := dAt (x := (38, .ireturn, 1)) DX11_ways_0 22 rfl
def lDX11_reach_0 : List (Nat × Instr × Nat) := [(0, .aload_n 0, 1), (1, .iconst 0, 1), (2, .putfield 160, 3), (5, .aload_n 0, 1), (6, .invokevirtual 484, 3), (9, .aload_n 0, 1), (10, .getfield 476, 3), (13, .ireturn, 1)]
theorem DX11_reach_0 : dAll cX11_reach lDX11_reach_0 = true := by decide +kernel
theorem dX11_reach_0 : decode cX11_reach 0 = .ok (.aload_n 0, 1) := dAt (x := (0, .aload_n 0, 1)) DX11_reach_0 0 rfl
theorem dX11_reach_1 : decode cX11_reach 1 = .ok (.iconst 0, 1) := dAt (x := (1, .iconst 0, 1)) DX11_reach_0 1 rfl
theorem dX11_reach_2 : decode cX11_reach 2 = .ok (.putfield 160, 3) := dAt (x := (2, .putfield 160, 3)) DX11_reach_0 2 rfl
theorem dX11_reach_5 : decode cX11_reach 5 = .ok (.aload_n 0, 1) := dAt (x := (5, .aload_n 0, 1)) DX11_reach_0 3 rfl
theorem dX11_reach_6 : decode cX11_reach 6 = .ok (.invokevirtual 484, 3) := dAt (x := (6, .invokevirtual 484, 3)) DX11_reach_0 4 rfl
theorem dX11_reach_9 : decode cX11_reach 9 = .ok (.aload_n 0, 1) := dAt (x := (9, .aload_n 0, 1)) DX11_reach_0 5 rfl
theorem dX11_reach_10 : decode cX11_reach 10 = .ok (.getfield 476, 3) := dAt (x := (10, .getfield 476, 3)) DX11_reach_0 6 rfl
theorem dX11_reach_13 : decode cX11_reach 13 = .ok (.ireturn, 1) := dAt (x := (13, .ireturn, 1)) DX11_reach_0 7 rfl
def lDX11_farthest_0 : List (Nat × Instr × Nat) := [(0, .aload_n 0, 1), (1, .iconst 0, 1), (2, .putfield 160, 3), (5, .iload_n 1, 1), (6, .iconst 0, 1), (7, .iconst 1, 1), (8, .invokestatic 205, 3), (11, .ifCond .ne 5, 3), (14, .iconst (-1), 1), (15, .ireturn, 1), (16, .aload_n 0, 1), (17, .invokevirtual 484, 3), (20, .aload_n 0, 1), (21, .getfield 112, 3), (24, .aload_n 0, 1), (25, .getfield 118, 3), (28, .aload_n 0, 1), (29, .getfield 476, 3), (32, .iconst 1, 1), (33, .isub, 1), (34, .iaload, 1), (35, .iaload, 1), (36, .istore_n 2, 1), (37, .iconst 0, 1), (38, .istore_n 3, 1), (39, .aload_n 0, 1), (40, .getfield 112, 3), (43, .iload_n 3, 1), (44, .iaload, 1), (45, .iload_n 2, 1), (46, .if_icmp .eq 9, 3), (49, .iinc 3 1, 3), (52, .goto (-13), 3), (55, .iload_n 1, 1), (56, .ifCond .ne 7, 3), (59, .iload_n 2, 1), (60, .goto 4, 3), (63, .iload_n 3, 1), (64, .ireturn, 1)]
theorem DX11_farthest_0 : dAll cX11_farthest lDX11_farthest_0 = true := by decide +kernel
theorem dX11_farthest_0 : decode cX11_farthest 0 = .ok (.aload_n 0, 1) := dAt (x := (0, .aload_n 0, 1)) DX11_farthest_0 0 rfl
theorem dX11_farthest_1 : decode cX11_farthest 1 = .ok (.iconst 0, 1) := dAt (x := (1, .iconst 0, 1)) DX11_farthest_0 1 rfl
theorem dX11_farthest_2 : decode cX11_farthest 2 = .ok (.putfield 160, 3) := dAt (x := (2, .putfield 160, 3)) DX11_farthest_0 2 rfl
theorem dX11_farthest_5 : decode cX11_farthest 5 = .ok (.iload_n 1, 1) := dAt (x := (5, .iload_n 1, 1)) DX11_farthest_0 3 rfl
theorem dX11_farthest_6 : decode cX11_farthest 6 = .ok (.iconst 0, 1) := dAt (x := (6, .iconst 0, 1)) DX11_farthest_0 4 rfl
theorem dX11_farthest_7 : decode cX11_farthest 7 = .ok (.iconst 1, 1) := dAt (x := (7, .iconst 1, 1)) DX11_farthest_0 5 rfl
theorem dX11_farthest_8 : decode cX11_farthest 8 = .ok (.invokestatic 205, 3) := dAt (x := (8, .invokestatic 205, 3)) DX11_farthest_0 6 rfl
theorem dX11_farthest_11 : decode cX11_farthest 11 = .ok (.ifCond .ne 5, 3) := dAt (x := (11, .ifCond .ne 5, 3)) DX11_farthest_0 7 rfl
theorem dX11_farthest_14 : decode cX11_farthest 14 = .ok (.iconst (-1), 1) := dAt (x := (14, .iconst (-1), 1)) DX11_farthest_0 8 rfl
theorem dX11_farthest_15 : decode cX11_farthest 15 = .ok (.ireturn, 1) := dAt (x := (15, .ireturn, 1)) DX11_farthest_0 9 rfl
theorem dX11_farthest_16 : decode cX11_farthest 16 = .ok (.aload_n 0, 1) := dAt (x := (16, .aload_n 0, 1)) DX11_farthest_0 10 rfl
theorem dX11_farthest_17 : decode cX11_farthest 17 = .ok (.invokevirtual 484, 3) := dAt (x := (17, .invokevirtual 484, 3)) DX11_farthest_0 11 rfl
theorem dX11_farthest_20 : decode cX11_farthest 20 = .ok (.aload_n 0, 1) := dAt (x := (20, .aload_n 0, 1)) DX11_farthest_0 12 rfl
theorem dX11_farthest_21 : decode cX11_farthest 21 = .ok (.getfield 112, 3) := dAt (x := (21, .getfield 112, 3)) DX11_farthest_0 13 rfl
theorem dX11_farthest_24 : decode cX11_farthest 24 = .ok (.aload_n 0, 1) := dAt (x := (24, .aload_n 0, 1)) DX11_farthest_0 14 rfl
theorem dX11_farthest_25 : decode cX11_farthest 25 = .ok (.getfield 118, 3) := dAt (x := (25, .getfield 118, 3)) DX11_farthest_0 15 rfl
theorem dX11_farthest_28 : decode cX11_farthest 28 = .ok (.aload_n 0, 1) := dAt (x := (28, .aload_n 0, 1)) DX11_farthest_0 16 rfl
theorem dX11_farthest_29 : decode cX11_farthest 29 = .ok (.getfield 476, 3) := dAt (x := (29, .getfield 476, 3)) DX11_farthest_0 17 rfl
theorem dX11_farthest_32 : decode cX11_farthest 32 = .ok (.iconst 1, 1) := dAt (x := (32, .iconst 1, 1)) DX11_farthest_0 18 rfl
theorem dX11_farthest_33 : decode cX11_farthest 33 = .ok (.isub, 1) := dAt (x := (33, .isub, 1)) DX11_farthest_0 19 rfl
theorem dX11_farthest_34 : decode cX11_farthest 34 = .ok (.iaload, 1) := dAt (x := (34, .iaload, 1)) DX11_farthest_0 20 rfl
theorem dX11_farthest_35 : decode cX11_farthest 35 = .ok (.iaload, 1) := dAt (x := (35, .iaload, 1)) DX11_farthest_0 21 rfl
theorem dX11_farthest_36 : decode cX11_farthest 36 = .ok (.istore_n 2, 1) := dAt (x := (36, .istore_n 2, 1)) DX11_farthest_0 22 rfl
theorem dX11_farthest_37 : decode cX11_farthest 37 = .ok (.iconst 0, 1) := dAt (x := (37, .iconst 0, 1)) DX11_farthest_0 23 rfl
theorem dX11_farthest_38 : decode cX11_farthest 38 = .ok (.istore_n 3, 1) := dAt (x := (38, .istore_n 3, 1)) DX11_farthest_0 24 rfl
theorem dX11_farthest_39 : decode cX11_farthest 39 = .ok (.aload_n 0, 1) := dAt (x := (39, .aload_n 0, 1)) DX11_farthest_0 25 rfl
theorem dX11_farthest_40 : decode cX11_farthest 40 = .ok (.getfield 112, 3) := dAt (x := (40, .getfield 112, 3)) DX11_farthest_0 26 rfl
theorem dX11_farthest_43 : decode cX11_farthest 43 = .ok (.iload_n 3, 1) := dAt (x := (43, .iload_n 3, 1)) DX11_farthest_0 27 rfl
theorem dX11_farthest_44 : decode cX11_farthest 44 = .ok (.iaload, 1) := dAt (x := (44, .iaload, 1)) DX11_farthest_0 28 rfl
theorem dX11_farthest_45 : decode cX11_farthest 45 = .ok (.iload_n 2, 1) := dAt (x := (45, .iload_n 2, 1)) DX11_farthest_0 29 rfl
theorem dX11_farthest_46 : decode cX11_farthest 46 = .ok (.if_icmp .eq 9, 3) := dAt (x := (46, .if_icmp .eq 9, 3)) DX11_farthest_0 30 rfl
theorem dX11_farthest_49 : decode cX11_farthest 49 = .ok (.iinc 3 1, 3) := dAt (x := (49, .iinc 3 1, 3)) DX11_farthest_0 31 rfl
theorem dX11_farthest_52 : decode cX11_farthest 52 = .ok (.goto (-13), 3) := dAt (x := (52, .goto (-13), 3)) DX11_farthest_0 32 rfl
theorem dX11_farthest_55 : decode cX11_farthest 55 = .ok (.iload_n 1, 1) := dAt (x := (55, .iload_n 1, 1)) DX11_farthest_0 33 rfl
theorem dX11_farthest_56 : decode cX11_farthest 56 = .ok (.ifCond .ne 7, 3) := dAt (x := (56, .ifCond .ne 7, 3)) DX11_farthest_0 34 rfl
theorem dX11_farthest_59 : decode cX11_farthest 59 = .ok (.iload_n 2, 1) := dAt (x := (59, .iload_n 2, 1)) DX11_farthest_0 35 rfl
theorem dX11_farthest_60 : decode cX11_farthest 60 = .ok (.goto 4, 3) := dAt (x := (60, .goto 4, 3)) DX11_farthest_0 36 rfl
theorem dX11_farthest_63 : decode cX11_farthest 63 = .ok (.iload_n 3, 1) := dAt (x := (63, .iload_n 3, 1)) DX11_farthest_0 37 rfl
theorem dX11_farthest_64 : decode cX11_farthest 64 = .ok (.ireturn, 1) := dAt (x := (64, .ireturn, 1)) DX11_farthest_0 38 rfl
def lDX11_wide_0 : List (Nat × Instr × Nat) := [(0, .aload_n 0, 1), (1, .iconst 0, 1), (2, .putfield 160, 3), (5, .aload_n 0, 1), (6, .invokevirtual 484, 3), (9, .iconst 0, 1), (10, .istore_n 1, 1), (11, .iload_n 1, 1), (12, .sipush 256, 3), (15, .if_icmp .ge 21, 3), (18, .aload_n 0, 1), (19, .getfield 121, 3), (22, .iload_n 1, 1), (23, .aload_n 0, 1), (24, .getfield 112, 3), (27, .iload_n 1, 1), (28, .iaload, 1), (29, .iastore, 1), (30, .iinc 1 1, 3), (33, .goto (-22), 3), (36, .iconst 0, 1), (37, .istore_n 1, 1), (38, .iconst 0, 1), (39, .istore_n 2, 1), (40, .iload_n 2, 1), (41, .sipush 256, 3), (44, .if_icmp .ge 75, 3), (47, .aload_n 0, 1), (48, .getfield 121, 3), (51, .iload_n 2, 1), (52, .iaload, 1), (53, .ifCond .ge 6, 3), (56, .goto 57, 3), (59, .aload_n 0, 1), (60, .iload_n 2, 1), (61, .iconst (-1), 1), (62, .aload_n 0, 1), (63, .getfield 97, 3), (66, .iconst 0, 1), (67, .iaload, 1), (68, .iconst 0, 1), (69, .invokevirtual 480, 3), (72, .aload_n 0, 1), (73, .getfield 112, 3), (76, .aload_n 0, 1), (77, .getfield 118, 3), (80, .aload_n 0, 1), (81, .getfield 476, 3), (84, .iconst 1, 1), (85, .isub, 1), (86, .iaload, 1), (87, .iaload, 1), (88, .iload_n 1, 1), (89, .if_icmp .le 22, 3), (92, .aload_n 0, 1), (93, .getfield 112, 3), (96, .aload_n 0, 1), (97, .getfield 118, 3), (100, .aload_n 0, 1), (101, .getfield 476, 3)]
theorem DX11_wide_0 : dAll cX11_wide lDX11_wide_0 = true := by decide +kernel
theorem dX11_wide_0 : decode cX11_wide 0 = .ok (.aload_n 0, 1) := dAt (x := (0, .aload_n 0, 1)) DX11_wide_0 0 rfl
theorem dX11_wide_1 : decode cX11_wide 1 = .ok (.iconst 0, 1) := dAt (x := (1, .iconst 0, 1)) DX11_wide_0 1 rfl
theorem dX11_wide_2 : decode cX11_wide 2 = .ok (.putfield 160, 3) := dAt (x := (2, .putfield 160, 3)) DX11_wide_0 2 rfl
theorem dX11_wide_5 : decode cX11_wide 5 = .ok (.aload_n 0, 1) := dAt (x := (5, .aload_n 0, 1)) DX11_wide_0 3 rfl
theorem dX11_wide_6 : decode cX11_wide 6 = .ok (.invokevirtual 484, 3) := dAt (x := (6, .invokevirtual 484, 3)) DX11_wide_0 4 rfl
theorem dX11_wide_9 : decode cX11_wide 9 = .ok (.iconst 0, 1) := dAt (x := (9, .iconst 0, 1)) DX11_wide_0 5 rfl
theorem dX11_wide_10 : decode cX11_wide 10 = .ok (.istore_n 1, 1) := dAt (x := (10, .istore_n 1, 1)) DX11_wide_0 6 rfl
theorem dX11_wide_11 : decode cX11_wide 11 = .ok (.iload_n 1, 1) := dAt (x := (11, .iload_n 1, 1)) DX11_wide_0 7 rfl
theorem dX11_wide_12 : decode cX11_wide 12 = .ok (.sipush 256, 3) := dAt (x := (12, .sipush 256, 3)) DX11_wide_0 8 rfl
theorem dX11_wide_15 : decode cX11_wide 15 = .ok (.if_icmp .ge 21, 3) := dAt (x := (15, .if_icmp .ge 21, 3)) DX11_wide_0 9 rfl
theorem dX11_wide_18 : decode cX11_wide 18 = .ok (.aload_n 0, 1) := dAt (x := (18, .aload_n 0, 1)) DX11_wide_0 10 rfl
theorem dX11_wide_19 : decode cX11_wide 19 = .ok (.getfield 121, 3) := dAt (x := (19, .getfield 121, 3)) DX11_wide_0 11 rfl
theorem dX11_wide_22 : decode cX11_wide 22 = .ok (.iload_n 1, 1) := dAt (x := (22, .iload_n 1, 1)) DX11_wide_0 12 rfl
theorem dX11_wide_23 : decode cX11_wide 23 = .ok (.aload_n 0, 1) := dAt (x := (23, .aload_n 0, 1)) DX11_wide_0 13 rfl
theorem dX11_wide_24 : decode cX11_wide 24 = .ok (.getfield 112, 3) := dAt (x := (24, .getfield 112, 3)) DX11_wide_0 14 rfl
theorem dX11_wide_27 : decode cX11_wide 27 = .ok (.iload_n 1, 1) := dAt (x := (27, .iload_n 1, 1)) DX11_wide_0 15 rfl
theorem dX11_wide_28 : decode cX11_wide 28 = .ok (.iaload, 1) := dAt (x := (28, .iaload, 1)) DX11_wide_0 16 rfl
theorem dX11_wide_29 : decode cX11_wide 29 = .ok (.iastore, 1) := dAt (x := (29, .iastore, 1)) DX11_wide_0 17 rfl
theorem dX11_wide_30 : decode cX11_wide 30 = .ok (.iinc 1 1, 3) := dAt (x := (30, .iinc 1 1, 3)) DX11_wide_0 18 rfl
theorem dX11_wide_33 : decode cX11_wide 33 = .ok (.goto (-22), 3) := dAt (x := (33, .goto (-22), 3)) DX11_wide_0 19 rfl
theorem dX11_wide_36 : decode cX11_wide 36 = .ok (.iconst 0, 1) := dAt (x := (36, .iconst 0, 1)) DX11_wide_0 20 rfl
theorem dX11_wide_37 : decode cX11_wide 37 = .ok (.istore_n 1, 1) := dAt (x := (37, .istore_n 1, 1)) DX11_wide_0 21 rfl
theorem dX11_wide_38 : decode cX11_wide 38 = .ok (.iconst 0, 1) := dAt (x := (38, .iconst 0, 1)) DX11_wide_0 22 rfl
theorem dX11_wide_39 : decode cX11_wide 39 = .ok (.istore_n 2, 1) := dAt (x := (39, .istore_n 2, 1)) DX11_wide_0 23 rfl
theorem dX11_wide_40 : decode cX11_wide 40 = .ok (.iload_n 2, 1) := dAt (x := (40, .iload_n 2, 1)) DX11_wide_0 24 rfl
theorem dX11_wide_41 : decode cX11_wide 41 = .ok (.sipush 256, 3) := dAt (x := (41, .sipush 256, 3)) DX11_wide_0 25 rfl
theorem dX11_wide_44 : decode cX11_wide 44 = .ok (.if_icmp .ge 75, 3) := dAt (x := (44, .if_icmp .ge 75, 3)) DX11_wide_0 26 rfl
theorem dX11_wide_47 : decode cX11_wide 47 = .ok (.aload_n 0, 1) := dAt (x := (47, .aload_n 0, 1)) DX11_wide_0 27 rfl
theorem dX11_wide_48 : decode cX11_wide 48 = .ok (.getfield 121, 3) := dAt (x := (48, .getfield 121, 3)) DX11_wide_0 28 rfl
theorem dX11_wide_51 : decode cX11_wide 51 = .ok (.iload_n 2, 1) := dAt (x := (51, .iload_n 2, 1)) DX11_wide_0 29 rfl
theorem dX11_wide_52 : decode cX11_wide 52 = .ok (.iaload, 1) := dAt (x := (52, .iaload, 1)) DX11_wide_0 30 rfl
theorem dX11_wide_53 : decode cX11_wide 53 = .ok (.ifCond .ge 6, 3) := dAt (x := (53, .ifCond .ge 6, 3)) DX11_wide_0 31 rfl
theorem dX11_wide_56 : decode cX11_wide 56 = .ok (.goto 57, 3) := dAt (x := (56, .goto 57, 3)) DX11_wide_0 32 rfl
theorem dX11_wide_59 : decode cX11_wide 59 = .ok (.aload_n 0, 1) := dAt (x := (59, .aload_n 0, 1)) DX11_wide_0 33 rfl
theorem dX11_wide_60 : decode cX11_wide 60 = .ok (.iload_n 2, 1) := dAt (x := (60, .iload_n 2, 1)) DX11_wide_0 34 rfl
theorem dX11_wide_61 : decode cX11_wide 61 = .ok (.iconst (-1), 1) := dAt (x := (61, .iconst (-1), 1)) DX11_wide_0 35 rfl
theorem dX11_wide_62 : decode cX11_wide 62 = .ok (.aload_n 0, 1) := dAt (x := (62, .aload_n 0, 1)) DX11_wide_0 36 rfl
theorem dX11_wide_63 : decode cX11_wide 63 = .ok (.getfield 97, 3) := dAt (x := (63, .getfield 97, 3)) DX11_wide_0 37 rfl
theorem dX11_wide_66 : decode cX11_wide 66 = .ok (.iconst 0, 1) := dAt (x := (66, .iconst 0, 1)) DX11_wide_0 38 rfl
theorem dX11_wide_67 : decode cX11_wide 67 = .ok (.iaload, 1) := dAt (x := (67, .iaload, 1)) DX11_wide_0 39 rfl
theorem dX11_wide_68 : decode cX11_wide 68 = .ok (.iconst 0, 1) := dAt (x := (68, .iconst 0, 1)) DX11_wide_0 40 rfl
theorem dX11_wide_69 : decode cX11_wide 69 = .ok (.invokevirtual 480, 3) := dAt (x := (69, .invokevirtual 480, 3)) DX11_wide_0 41 rfl
theorem dX11_wide_72 : decode cX11_wide 72 = .ok (.aload_n 0, 1) := dAt (x := (72, .aload_n 0, 1)) DX11_wide_0 42 rfl
theorem dX11_wide_73 : decode cX11_wide 73 = .ok (.getfield 112, 3) := dAt (x := (73, .getfield 112, 3)) DX11_wide_0 43 rfl
theorem dX11_wide_76 : decode cX11_wide 76 = .ok (.aload_n 0, 1) := dAt (x := (76, .aload_n 0, 1)) DX11_wide_0 44 rfl
theorem dX11_wide_77 : decode cX11_wide 77 = .ok (.getfield 118, 3) := dAt (x := (77, .getfield 118, 3)) DX11_wide_0 45 rfl
theorem dX11_wide_80 : decode cX11_wide 80 = .ok (.aload_n 0, 1) := dAt (x := (80, .aload_n 0, 1)) DX11_wide_0 46 rfl
theorem dX11_wide_81 : decode cX11_wide 81 = .ok (.getfield 476, 3) := dAt (x := (81, .getfield 476, 3)) DX11_wide_0 47 rfl
theorem dX11_wide_84 : decode cX11_wide 84 = .ok (.iconst 1, 1) := dAt (x := (84, .iconst 1, 1)) DX11_wide_0 48 rfl
theorem dX11_wide_85 : decode cX11_wide 85 = .ok (.isub, 1) := dAt (x := (85, .isub, 1)) DX11_wide_0 49 rfl
theorem dX11_wide_86 : decode cX11_wide 86 = .ok (.iaload, 1) := dAt (x := (86, .iaload, 1)) DX11_wide_0 50 rfl
theorem dX11_wide_87 : decode cX11_wide 87 = .ok (.iaload, 1) := dAt (x := (87, .iaload, 1)) DX11_wide_0 51 rfl
theorem dX11_wide_88 : decode cX11_wide 88 = .ok (.iload_n 1, 1) := dAt (x := (88, .iload_n 1, 1)) DX11_wide_0 52 rfl
theorem dX11_wide_89 : decode cX11_wide 89 = .ok (.if_icmp .le 22, 3) := dAt (x := (89, .if_icmp .le 22, 3)) DX11_wide_0 53 rfl
theorem dX11_wide_92 : decode cX11_wide 92 = .ok (.aload_n 0, 1) := dAt (x := (92, .aload_n 0, 1)) DX11_wide_0 54 rfl
theorem dX11_wide_93 : decode cX11_wide 93 = .ok (.getfield 112, 3) := dAt (x := (93, .getfield 112, 3)) DX11_wide_0 55 rfl
theorem dX11_wide_96 : decode cX11_wide 96 = .ok (.aload_n 0, 1) := dAt (x := (96, .aload_n 0, 1)) DX11_wide_0 56 rfl
theorem dX11_wide_97 : decode cX11_wide 97 = .ok (.getfield 118, 3) := dAt (x := (97, .getfield 118, 3)) DX11_wide_0 57 rfl
theorem dX11_wide_100 : decode cX11_wide 100 = .ok (.aload_n 0, 1) := dAt (x := (100, .aload_n 0, 1)) DX11_wide_0 58 rfl
theorem dX11_wide_101 : decode cX11_wide 101 = .ok (.getfield 476, 3) := dAt (x := (101, .getfield 476, 3)) DX11_wide_0 59 rfl
def lDX11_wide_1 : List (Nat × Instr × Nat) := [(104, .iconst 1, 1), (105, .isub, 1), (106, .iaload, 1), (107, .iaload, 1), (108, .goto 4, 3), (111, .iload_n 1, 1), (112, .istore_n 1, 1), (113, .iinc 2 1, 3), (116, .goto (-76), 3), (119, .iload_n 1, 1), (120, .ireturn, 1)]
theorem DX11_wide_1 : dAll cX11_wide lDX11_wide_1 = true := by decide +kernel
theorem dX11_wide_104 : decode cX11_wide 104 = .ok (.iconst 1, 1) := dAt (x := (104, .iconst 1, 1)) DX11_wide_1 0 rfl
theorem dX11_wide_105 : decode cX11_wide 105 = .ok (.isub, 1) := dAt (x := (105, .isub, 1)) DX11_wide_1 1 rfl
theorem dX11_wide_106 : decode cX11_wide 106 = .ok (.iaload, 1) := dAt (x := (106, .iaload, 1)) DX11_wide_1 2 rfl
theorem dX11_wide_107 : decode cX11_wide 107 = .ok (.iaload, 1) := dAt (x := (107, .iaload, 1)) DX11_wide_1 3 rfl
theorem dX11_wide_108 : decode cX11_wide 108 = .ok (.goto 4, 3) := dAt (x := (108, .goto 4, 3)) DX11_wide_1 4 rfl
theorem dX11_wide_111 : decode cX11_wide 111 = .ok (.iload_n 1, 1) := dAt (x := (111, .iload_n 1, 1)) DX11_wide_1 5 rfl
theorem dX11_wide_112 : decode cX11_wide 112 = .ok (.istore_n 1, 1) := dAt (x := (112, .istore_n 1, 1)) DX11_wide_1 6 rfl
theorem dX11_wide_113 : decode cX11_wide 113 = .ok (.iinc 2 1, 3) := dAt (x := (113, .iinc 2 1, 3)) DX11_wide_1 7 rfl
theorem dX11_wide_116 : decode cX11_wide 116 = .ok (.goto (-76), 3) := dAt (x := (116, .goto (-76), 3)) DX11_wide_1 8 rfl
theorem dX11_wide_119 : decode cX11_wide 119 = .ok (.iload_n 1, 1) := dAt (x := (119, .iload_n 1, 1)) DX11_wide_1 9 rfl
theorem dX11_wide_120 : decode cX11_wide 120 = .ok (.ireturn, 1) := dAt (x := (120, .ireturn, 1)) DX11_wide_1 10 rfl
def lDX11_parts_0 : List (Nat × Instr × Nat) := [(0, .aload_n 0, 1), (1, .iconst 0, 1), (2, .putfield 160, 3), (5, .iconst 0, 1), (6, .istore_n 1, 1), (7, .iload_n 1, 1), (8, .sipush 256, 3), (11, .if_icmp .ge 16, 3), (14, .aload_n 0, 1), (15, .getfield 124, 3), (18, .iload_n 1, 1), (19, .iconst 0, 1), (20, .bastore, 1), (21, .iinc 1 1, 3), (24, .goto (-17), 3), (27, .iconst 0, 1), (28, .istore_n 1, 1), (29, .iconst 0, 1), (30, .istore_n 2, 1), (31, .iload_n 2, 1), (32, .iconst 1, 1), (33, .aload_n 0, 1), (34, .getfield 240, 3), (37, .ishl, 1), (38, .if_icmp .ge 65, 3), (41, .aload_n 0, 1), (42, .getfield 124, 3), (45, .iload_n 2, 1), (46, .baload, 1), (47, .ifCond .eq 6, 3), (50, .goto 47, 3), (53, .iinc 1 1, 3), (56, .aload_n 0, 1), (57, .iload_n 2, 1), (58, .iconst (-1), 1), (59, .aload_n 0, 1), (60, .getfield 97, 3), (63, .iconst 0, 1), (64, .iaload, 1), (65, .iconst 0, 1), (66, .invokevirtual 480, 3), (69, .iconst 0, 1), (70, .istore_n 3, 1), (71, .iload_n 3, 1), (72, .aload_n 0, 1), (73, .getfield 476, 3), (76, .if_icmp .ge 21, 3), (79, .aload_n 0, 1), (80, .getfield 124, 3), (83, .aload_n 0, 1), (84, .getfield 118, 3), (87, .iload_n 3, 1), (88, .iaload, 1), (89, .iconst 1, 1), (90, .bastore, 1), (91, .iinc 3 1, 3), (94, .goto (-23), 3), (97, .iinc 2 1, 3), (100, .goto (-69), 3), (103, .iload_n 1, 1)]
theorem DX11_parts_0 : dAll cX11_parts lDX11_parts_0 = true := by decide +kernel
theorem dX11_parts_0 : decode cX11_parts 0 = .ok (.aload_n 0, 1) := dAt (x := (0, .aload_n 0, 1)) DX11_parts_0 0 rfl
theorem dX11_parts_1 : decode cX11_parts 1 = .ok (.iconst 0, 1) := dAt (x := (1, .iconst 0, 1)) DX11_parts_0 1 rfl
theorem dX11_parts_2 : decode cX11_parts 2 = .ok (.putfield 160, 3) := dAt (x := (2, .putfield 160, 3)) DX11_parts_0 2 rfl
theorem dX11_parts_5 : decode cX11_parts 5 = .ok (.iconst 0, 1) := dAt (x := (5, .iconst 0, 1)) DX11_parts_0 3 rfl
theorem dX11_parts_6 : decode cX11_parts 6 = .ok (.istore_n 1, 1) := dAt (x := (6, .istore_n 1, 1)) DX11_parts_0 4 rfl
theorem dX11_parts_7 : decode cX11_parts 7 = .ok (.iload_n 1, 1) := dAt (x := (7, .iload_n 1, 1)) DX11_parts_0 5 rfl
theorem dX11_parts_8 : decode cX11_parts 8 = .ok (.sipush 256, 3) := dAt (x := (8, .sipush 256, 3)) DX11_parts_0 6 rfl
theorem dX11_parts_11 : decode cX11_parts 11 = .ok (.if_icmp .ge 16, 3) := dAt (x := (11, .if_icmp .ge 16, 3)) DX11_parts_0 7 rfl
theorem dX11_parts_14 : decode cX11_parts 14 = .ok (.aload_n 0, 1) := dAt (x := (14, .aload_n 0, 1)) DX11_parts_0 8 rfl
theorem dX11_parts_15 : decode cX11_parts 15 = .ok (.getfield 124, 3) := dAt (x := (15, .getfield 124, 3)) DX11_parts_0 9 rfl
theorem dX11_parts_18 : decode cX11_parts 18 = .ok (.iload_n 1, 1) := dAt (x := (18, .iload_n 1, 1)) DX11_parts_0 10 rfl
theorem dX11_parts_19 : decode cX11_parts 19 = .ok (.iconst 0, 1) := dAt (x := (19, .iconst 0, 1)) DX11_parts_0 11 rfl
theorem dX11_parts_20 : decode cX11_parts 20 = .ok (.bastore, 1) := dAt (x := (20, .bastore, 1)) DX11_parts_0 12 rfl
theorem dX11_parts_21 : decode cX11_parts 21 = .ok (.iinc 1 1, 3) := dAt (x := (21, .iinc 1 1, 3)) DX11_parts_0 13 rfl
theorem dX11_parts_24 : decode cX11_parts 24 = .ok (.goto (-17), 3) := dAt (x := (24, .goto (-17), 3)) DX11_parts_0 14 rfl
theorem dX11_parts_27 : decode cX11_parts 27 = .ok (.iconst 0, 1) := dAt (x := (27, .iconst 0, 1)) DX11_parts_0 15 rfl
theorem dX11_parts_28 : decode cX11_parts 28 = .ok (.istore_n 1, 1) := dAt (x := (28, .istore_n 1, 1)) DX11_parts_0 16 rfl
theorem dX11_parts_29 : decode cX11_parts 29 = .ok (.iconst 0, 1) := dAt (x := (29, .iconst 0, 1)) DX11_parts_0 17 rfl
theorem dX11_parts_30 : decode cX11_parts 30 = .ok (.istore_n 2, 1) := dAt (x := (30, .istore_n 2, 1)) DX11_parts_0 18 rfl
theorem dX11_parts_31 : decode cX11_parts 31 = .ok (.iload_n 2, 1) := dAt (x := (31, .iload_n 2, 1)) DX11_parts_0 19 rfl
theorem dX11_parts_32 : decode cX11_parts 32 = .ok (.iconst 1, 1) := dAt (x := (32, .iconst 1, 1)) DX11_parts_0 20 rfl
theorem dX11_parts_33 : decode cX11_parts 33 = .ok (.aload_n 0, 1) := dAt (x := (33, .aload_n 0, 1)) DX11_parts_0 21 rfl
theorem dX11_parts_34 : decode cX11_parts 34 = .ok (.getfield 240, 3) := dAt (x := (34, .getfield 240, 3)) DX11_parts_0 22 rfl
theorem dX11_parts_37 : decode cX11_parts 37 = .ok (.ishl, 1) := dAt (x := (37, .ishl, 1)) DX11_parts_0 23 rfl
theorem dX11_parts_38 : decode cX11_parts 38 = .ok (.if_icmp .ge 65, 3) := dAt (x := (38, .if_icmp .ge 65, 3)) DX11_parts_0 24 rfl
theorem dX11_parts_41 : decode cX11_parts 41 = .ok (.aload_n 0, 1) := dAt (x := (41, .aload_n 0, 1)) DX11_parts_0 25 rfl
theorem dX11_parts_42 : decode cX11_parts 42 = .ok (.getfield 124, 3) := dAt (x := (42, .getfield 124, 3)) DX11_parts_0 26 rfl
theorem dX11_parts_45 : decode cX11_parts 45 = .ok (.iload_n 2, 1) := dAt (x := (45, .iload_n 2, 1)) DX11_parts_0 27 rfl
theorem dX11_parts_46 : decode cX11_parts 46 = .ok (.baload, 1) := dAt (x := (46, .baload, 1)) DX11_parts_0 28 rfl
theorem dX11_parts_47 : decode cX11_parts 47 = .ok (.ifCond .eq 6, 3) := dAt (x := (47, .ifCond .eq 6, 3)) DX11_parts_0 29 rfl
theorem dX11_parts_50 : decode cX11_parts 50 = .ok (.goto 47, 3) := dAt (x := (50, .goto 47, 3)) DX11_parts_0 30 rfl
theorem dX11_parts_53 : decode cX11_parts 53 = .ok (.iinc 1 1, 3) := dAt (x := (53, .iinc 1 1, 3)) DX11_parts_0 31 rfl
theorem dX11_parts_56 : decode cX11_parts 56 = .ok (.aload_n 0, 1) := dAt (x := (56, .aload_n 0, 1)) DX11_parts_0 32 rfl
theorem dX11_parts_57 : decode cX11_parts 57 = .ok (.iload_n 2, 1) := dAt (x := (57, .iload_n 2, 1)) DX11_parts_0 33 rfl
theorem dX11_parts_58 : decode cX11_parts 58 = .ok (.iconst (-1), 1) := dAt (x := (58, .iconst (-1), 1)) DX11_parts_0 34 rfl
theorem dX11_parts_59 : decode cX11_parts 59 = .ok (.aload_n 0, 1) := dAt (x := (59, .aload_n 0, 1)) DX11_parts_0 35 rfl
theorem dX11_parts_60 : decode cX11_parts 60 = .ok (.getfield 97, 3) := dAt (x := (60, .getfield 97, 3)) DX11_parts_0 36 rfl
theorem dX11_parts_63 : decode cX11_parts 63 = .ok (.iconst 0, 1) := dAt (x := (63, .iconst 0, 1)) DX11_parts_0 37 rfl
theorem dX11_parts_64 : decode cX11_parts 64 = .ok (.iaload, 1) := dAt (x := (64, .iaload, 1)) DX11_parts_0 38 rfl
theorem dX11_parts_65 : decode cX11_parts 65 = .ok (.iconst 0, 1) := dAt (x := (65, .iconst 0, 1)) DX11_parts_0 39 rfl
theorem dX11_parts_66 : decode cX11_parts 66 = .ok (.invokevirtual 480, 3) := dAt (x := (66, .invokevirtual 480, 3)) DX11_parts_0 40 rfl
theorem dX11_parts_69 : decode cX11_parts 69 = .ok (.iconst 0, 1) := dAt (x := (69, .iconst 0, 1)) DX11_parts_0 41 rfl
theorem dX11_parts_70 : decode cX11_parts 70 = .ok (.istore_n 3, 1) := dAt (x := (70, .istore_n 3, 1)) DX11_parts_0 42 rfl
theorem dX11_parts_71 : decode cX11_parts 71 = .ok (.iload_n 3, 1) := dAt (x := (71, .iload_n 3, 1)) DX11_parts_0 43 rfl
theorem dX11_parts_72 : decode cX11_parts 72 = .ok (.aload_n 0, 1) := dAt (x := (72, .aload_n 0, 1)) DX11_parts_0 44 rfl
theorem dX11_parts_73 : decode cX11_parts 73 = .ok (.getfield 476, 3) := dAt (x := (73, .getfield 476, 3)) DX11_parts_0 45 rfl
theorem dX11_parts_76 : decode cX11_parts 76 = .ok (.if_icmp .ge 21, 3) := dAt (x := (76, .if_icmp .ge 21, 3)) DX11_parts_0 46 rfl
theorem dX11_parts_79 : decode cX11_parts 79 = .ok (.aload_n 0, 1) := dAt (x := (79, .aload_n 0, 1)) DX11_parts_0 47 rfl
theorem dX11_parts_80 : decode cX11_parts 80 = .ok (.getfield 124, 3) := dAt (x := (80, .getfield 124, 3)) DX11_parts_0 48 rfl
theorem dX11_parts_83 : decode cX11_parts 83 = .ok (.aload_n 0, 1) := dAt (x := (83, .aload_n 0, 1)) DX11_parts_0 49 rfl
theorem dX11_parts_84 : decode cX11_parts 84 = .ok (.getfield 118, 3) := dAt (x := (84, .getfield 118, 3)) DX11_parts_0 50 rfl
theorem dX11_parts_87 : decode cX11_parts 87 = .ok (.iload_n 3, 1) := dAt (x := (87, .iload_n 3, 1)) DX11_parts_0 51 rfl
theorem dX11_parts_88 : decode cX11_parts 88 = .ok (.iaload, 1) := dAt (x := (88, .iaload, 1)) DX11_parts_0 52 rfl
theorem dX11_parts_89 : decode cX11_parts 89 = .ok (.iconst 1, 1) := dAt (x := (89, .iconst 1, 1)) DX11_parts_0 53 rfl
theorem dX11_parts_90 : decode cX11_parts 90 = .ok (.bastore, 1) := dAt (x := (90, .bastore, 1)) DX11_parts_0 54 rfl
theorem dX11_parts_91 : decode cX11_parts 91 = .ok (.iinc 3 1, 3) := dAt (x := (91, .iinc 3 1, 3)) DX11_parts_0 55 rfl
theorem dX11_parts_94 : decode cX11_parts 94 = .ok (.goto (-23), 3) := dAt (x := (94, .goto (-23), 3)) DX11_parts_0 56 rfl
theorem dX11_parts_97 : decode cX11_parts 97 = .ok (.iinc 2 1, 3) := dAt (x := (97, .iinc 2 1, 3)) DX11_parts_0 57 rfl
theorem dX11_parts_100 : decode cX11_parts 100 = .ok (.goto (-69), 3) := dAt (x := (100, .goto (-69), 3)) DX11_parts_0 58 rfl
theorem dX11_parts_103 : decode cX11_parts 103 = .ok (.iload_n 1, 1) := dAt (x := (103, .iload_n 1, 1)) DX11_parts_0 59 rfl
def lDX11_parts_1 : List (Nat × Instr × Nat) := [(104, .ireturn, 1)]
theorem DX11_parts_1 : dAll cX11_parts lDX11_parts_1 = true := by decide +kernel
theorem dX11_parts_104 : decode cX11_parts 104 = .ok (.ireturn, 1) := dAt (x := (104, .ireturn, 1)) DX11_parts_1 0 rfl
def lDX11_past_0 : List (Nat × Instr × Nat) := [(0, .aload_n 0, 1), (1, .iconst 0, 1), (2, .putfield 160, 3), (5, .aload_n 0, 1), (6, .iload_n 1, 1), (7, .invokevirtual 462, 3), (10, .ifCond .eq 17, 3), (13, .iload_n 2, 1), (14, .ifCond .lt 13, 3), (17, .iload_n 1, 1), (18, .aload_n 0, 1), (19, .getfield 94, 3), (22, .iconst 0, 1), (23, .iaload, 1), (24, .if_icmp .ne 5, 3), (27, .iconst (-1), 1), (28, .ireturn, 1), (29, .aload_n 0, 1), (30, .invokevirtual 484, 3), (33, .aload_n 0, 1), (34, .getfield 112, 3), (37, .iload_n 1, 1), (38, .iaload, 1), (39, .ifCond .ge 5, 3), (42, .iconst (-1), 1), (43, .ireturn, 1), (44, .aload_n 0, 1), (45, .getfield 112, 3), (48, .iload_n 1, 1), (49, .iaload, 1), (50, .istore_n 3, 1), (51, .iconst 0, 1), (52, .istore 4, 2), (54, .iload 4, 2), (56, .sipush 256, 3), (59, .if_icmp .ge 31, 3), (62, .aload_n 0, 1), (63, .getfield 121, 3), (66, .iload 4, 2), (68, .aload_n 0, 1), (69, .getfield 112, 3), (72, .iload 4, 2), (74, .iaload, 1), (75, .iastore, 1), (76, .aload_n 0, 1), (77, .getfield 127, 3), (80, .iload 4, 2), (82, .iconst (-1), 1), (83, .iastore, 1), (84, .iinc 4 1, 3), (87, .goto (-33), 3), (90, .iconst 0, 1), (91, .istore 4, 2), (93, .iload 4, 2), (95, .sipush 256, 3), (98, .if_icmp .ge 76, 3), (101, .aload_n 0, 1), (102, .getfield 121, 3), (105, .iload 4, 2), (107, .iaload, 1)]
theorem DX11_past_0 : dAll cX11_past lDX11_past_0 = true := by decide +kernel
theorem dX11_past_0 : decode cX11_past 0 = .ok (.aload_n 0, 1) := dAt (x := (0, .aload_n 0, 1)) DX11_past_0 0 rfl
theorem dX11_past_1 : decode cX11_past 1 = .ok (.iconst 0, 1) := dAt (x := (1, .iconst 0, 1)) DX11_past_0 1 rfl
theorem dX11_past_2 : decode cX11_past 2 = .ok (.putfield 160, 3) := dAt (x := (2, .putfield 160, 3)) DX11_past_0 2 rfl
theorem dX11_past_5 : decode cX11_past 5 = .ok (.aload_n 0, 1) := dAt (x := (5, .aload_n 0, 1)) DX11_past_0 3 rfl
theorem dX11_past_6 : decode cX11_past 6 = .ok (.iload_n 1, 1) := dAt (x := (6, .iload_n 1, 1)) DX11_past_0 4 rfl
theorem dX11_past_7 : decode cX11_past 7 = .ok (.invokevirtual 462, 3) := dAt (x := (7, .invokevirtual 462, 3)) DX11_past_0 5 rfl
theorem dX11_past_10 : decode cX11_past 10 = .ok (.ifCond .eq 17, 3) := dAt (x := (10, .ifCond .eq 17, 3)) DX11_past_0 6 rfl
theorem dX11_past_13 : decode cX11_past 13 = .ok (.iload_n 2, 1) := dAt (x := (13, .iload_n 2, 1)) DX11_past_0 7 rfl
theorem dX11_past_14 : decode cX11_past 14 = .ok (.ifCond .lt 13, 3) := dAt (x := (14, .ifCond .lt 13, 3)) DX11_past_0 8 rfl
theorem dX11_past_17 : decode cX11_past 17 = .ok (.iload_n 1, 1) := dAt (x := (17, .iload_n 1, 1)) DX11_past_0 9 rfl
theorem dX11_past_18 : decode cX11_past 18 = .ok (.aload_n 0, 1) := dAt (x := (18, .aload_n 0, 1)) DX11_past_0 10 rfl
theorem dX11_past_19 : decode cX11_past 19 = .ok (.getfield 94, 3) := dAt (x := (19, .getfield 94, 3)) DX11_past_0 11 rfl
theorem dX11_past_22 : decode cX11_past 22 = .ok (.iconst 0, 1) := dAt (x := (22, .iconst 0, 1)) DX11_past_0 12 rfl
theorem dX11_past_23 : decode cX11_past 23 = .ok (.iaload, 1) := dAt (x := (23, .iaload, 1)) DX11_past_0 13 rfl
theorem dX11_past_24 : decode cX11_past 24 = .ok (.if_icmp .ne 5, 3) := dAt (x := (24, .if_icmp .ne 5, 3)) DX11_past_0 14 rfl
theorem dX11_past_27 : decode cX11_past 27 = .ok (.iconst (-1), 1) := dAt (x := (27, .iconst (-1), 1)) DX11_past_0 15 rfl
theorem dX11_past_28 : decode cX11_past 28 = .ok (.ireturn, 1) := dAt (x := (28, .ireturn, 1)) DX11_past_0 16 rfl
theorem dX11_past_29 : decode cX11_past 29 = .ok (.aload_n 0, 1) := dAt (x := (29, .aload_n 0, 1)) DX11_past_0 17 rfl
theorem dX11_past_30 : decode cX11_past 30 = .ok (.invokevirtual 484, 3) := dAt (x := (30, .invokevirtual 484, 3)) DX11_past_0 18 rfl
theorem dX11_past_33 : decode cX11_past 33 = .ok (.aload_n 0, 1) := dAt (x := (33, .aload_n 0, 1)) DX11_past_0 19 rfl
theorem dX11_past_34 : decode cX11_past 34 = .ok (.getfield 112, 3) := dAt (x := (34, .getfield 112, 3)) DX11_past_0 20 rfl
theorem dX11_past_37 : decode cX11_past 37 = .ok (.iload_n 1, 1) := dAt (x := (37, .iload_n 1, 1)) DX11_past_0 21 rfl
theorem dX11_past_38 : decode cX11_past 38 = .ok (.iaload, 1) := dAt (x := (38, .iaload, 1)) DX11_past_0 22 rfl
theorem dX11_past_39 : decode cX11_past 39 = .ok (.ifCond .ge 5, 3) := dAt (x := (39, .ifCond .ge 5, 3)) DX11_past_0 23 rfl
theorem dX11_past_42 : decode cX11_past 42 = .ok (.iconst (-1), 1) := dAt (x := (42, .iconst (-1), 1)) DX11_past_0 24 rfl
theorem dX11_past_43 : decode cX11_past 43 = .ok (.ireturn, 1) := dAt (x := (43, .ireturn, 1)) DX11_past_0 25 rfl
theorem dX11_past_44 : decode cX11_past 44 = .ok (.aload_n 0, 1) := dAt (x := (44, .aload_n 0, 1)) DX11_past_0 26 rfl
theorem dX11_past_45 : decode cX11_past 45 = .ok (.getfield 112, 3) := dAt (x := (45, .getfield 112, 3)) DX11_past_0 27 rfl
theorem dX11_past_48 : decode cX11_past 48 = .ok (.iload_n 1, 1) := dAt (x := (48, .iload_n 1, 1)) DX11_past_0 28 rfl
theorem dX11_past_49 : decode cX11_past 49 = .ok (.iaload, 1) := dAt (x := (49, .iaload, 1)) DX11_past_0 29 rfl
theorem dX11_past_50 : decode cX11_past 50 = .ok (.istore_n 3, 1) := dAt (x := (50, .istore_n 3, 1)) DX11_past_0 30 rfl
theorem dX11_past_51 : decode cX11_past 51 = .ok (.iconst 0, 1) := dAt (x := (51, .iconst 0, 1)) DX11_past_0 31 rfl
theorem dX11_past_52 : decode cX11_past 52 = .ok (.istore 4, 2) := dAt (x := (52, .istore 4, 2)) DX11_past_0 32 rfl
theorem dX11_past_54 : decode cX11_past 54 = .ok (.iload 4, 2) := dAt (x := (54, .iload 4, 2)) DX11_past_0 33 rfl
theorem dX11_past_56 : decode cX11_past 56 = .ok (.sipush 256, 3) := dAt (x := (56, .sipush 256, 3)) DX11_past_0 34 rfl
theorem dX11_past_59 : decode cX11_past 59 = .ok (.if_icmp .ge 31, 3) := dAt (x := (59, .if_icmp .ge 31, 3)) DX11_past_0 35 rfl
theorem dX11_past_62 : decode cX11_past 62 = .ok (.aload_n 0, 1) := dAt (x := (62, .aload_n 0, 1)) DX11_past_0 36 rfl
theorem dX11_past_63 : decode cX11_past 63 = .ok (.getfield 121, 3) := dAt (x := (63, .getfield 121, 3)) DX11_past_0 37 rfl
theorem dX11_past_66 : decode cX11_past 66 = .ok (.iload 4, 2) := dAt (x := (66, .iload 4, 2)) DX11_past_0 38 rfl
theorem dX11_past_68 : decode cX11_past 68 = .ok (.aload_n 0, 1) := dAt (x := (68, .aload_n 0, 1)) DX11_past_0 39 rfl
theorem dX11_past_69 : decode cX11_past 69 = .ok (.getfield 112, 3) := dAt (x := (69, .getfield 112, 3)) DX11_past_0 40 rfl
theorem dX11_past_72 : decode cX11_past 72 = .ok (.iload 4, 2) := dAt (x := (72, .iload 4, 2)) DX11_past_0 41 rfl
theorem dX11_past_74 : decode cX11_past 74 = .ok (.iaload, 1) := dAt (x := (74, .iaload, 1)) DX11_past_0 42 rfl
theorem dX11_past_75 : decode cX11_past 75 = .ok (.iastore, 1) := dAt (x := (75, .iastore, 1)) DX11_past_0 43 rfl
theorem dX11_past_76 : decode cX11_past 76 = .ok (.aload_n 0, 1) := dAt (x := (76, .aload_n 0, 1)) DX11_past_0 44 rfl
theorem dX11_past_77 : decode cX11_past 77 = .ok (.getfield 127, 3) := dAt (x := (77, .getfield 127, 3)) DX11_past_0 45 rfl
theorem dX11_past_80 : decode cX11_past 80 = .ok (.iload 4, 2) := dAt (x := (80, .iload 4, 2)) DX11_past_0 46 rfl
theorem dX11_past_82 : decode cX11_past 82 = .ok (.iconst (-1), 1) := dAt (x := (82, .iconst (-1), 1)) DX11_past_0 47 rfl
theorem dX11_past_83 : decode cX11_past 83 = .ok (.iastore, 1) := dAt (x := (83, .iastore, 1)) DX11_past_0 48 rfl
theorem dX11_past_84 : decode cX11_past 84 = .ok (.iinc 4 1, 3) := dAt (x := (84, .iinc 4 1, 3)) DX11_past_0 49 rfl
theorem dX11_past_87 : decode cX11_past 87 = .ok (.goto (-33), 3) := dAt (x := (87, .goto (-33), 3)) DX11_past_0 50 rfl
theorem dX11_past_90 : decode cX11_past 90 = .ok (.iconst 0, 1) := dAt (x := (90, .iconst 0, 1)) DX11_past_0 51 rfl
theorem dX11_past_91 : decode cX11_past 91 = .ok (.istore 4, 2) := dAt (x := (91, .istore 4, 2)) DX11_past_0 52 rfl
theorem dX11_past_93 : decode cX11_past 93 = .ok (.iload 4, 2) := dAt (x := (93, .iload 4, 2)) DX11_past_0 53 rfl
theorem dX11_past_95 : decode cX11_past 95 = .ok (.sipush 256, 3) := dAt (x := (95, .sipush 256, 3)) DX11_past_0 54 rfl
theorem dX11_past_98 : decode cX11_past 98 = .ok (.if_icmp .ge 76, 3) := dAt (x := (98, .if_icmp .ge 76, 3)) DX11_past_0 55 rfl
theorem dX11_past_101 : decode cX11_past 101 = .ok (.aload_n 0, 1) := dAt (x := (101, .aload_n 0, 1)) DX11_past_0 56 rfl
theorem dX11_past_102 : decode cX11_past 102 = .ok (.getfield 121, 3) := dAt (x := (102, .getfield 121, 3)) DX11_past_0 57 rfl
theorem dX11_past_105 : decode cX11_past 105 = .ok (.iload 4, 2) := dAt (x := (105, .iload 4, 2)) DX11_past_0 58 rfl
theorem dX11_past_107 : decode cX11_past 107 = .ok (.iaload, 1) := dAt (x := (107, .iaload, 1)) DX11_past_0 59 rfl
def lDX11_past_1 : List (Nat × Instr × Nat) := [(108, .iconst 1, 1), (109, .if_icmp .lt 59, 3), (112, .aload_n 0, 1), (113, .getfield 121, 3), (116, .iload 4, 2), (118, .iaload, 1), (119, .iload_n 3, 1), (120, .if_icmp .lt 6, 3), (123, .goto 45, 3), (126, .aload_n 0, 1), (127, .aload_n 0, 1), (128, .getfield 94, 3), (131, .iconst 0, 1), (132, .iaload, 1), (133, .iload 4, 2), (135, .aload_n 0, 1), (136, .getfield 97, 3), (139, .iconst 0, 1), (140, .iaload, 1), (141, .iconst 0, 1), (142, .invokevirtual 480, 3), (145, .aload_n 0, 1), (146, .getfield 112, 3), (149, .iload_n 1, 1), (150, .iaload, 1), (151, .ifCond .ge 17, 3), (154, .aload_n 0, 1), (155, .getfield 127, 3), (158, .aload_n 0, 1), (159, .getfield 121, 3), (162, .iload 4, 2), (164, .iaload, 1), (165, .iload 4, 2), (167, .iastore, 1), (168, .iinc 4 1, 3), (171, .goto (-78), 3), (174, .iconst 0, 1), (175, .istore 4, 2), (177, .iconst 0, 1), (178, .istore 5, 2), (180, .iload 5, 2), (182, .sipush 256, 3), (185, .if_icmp .ge 39, 3), (188, .aload_n 0, 1), (189, .getfield 127, 3), (192, .iload 5, 2), (194, .iaload, 1), (195, .ifCond .ge 6, 3), (198, .goto 20, 3), (201, .iload 4, 2), (203, .iload_n 2, 1), (204, .if_icmp .ne 11, 3), (207, .aload_n 0, 1), (208, .getfield 127, 3), (211, .iload 5, 2), (213, .iaload, 1), (214, .ireturn, 1), (215, .iinc 4 1, 3), (218, .iinc 5 1, 3), (221, .goto (-41), 3)]
theorem DX11_past_1 : dAll cX11_past lDX11_past_1 = true := by decide +kernel
theorem dX11_past_108 : decode cX11_past 108 = .ok (.iconst 1, 1) := dAt (x := (108, .iconst 1, 1)) DX11_past_1 0 rfl
theorem dX11_past_109 : decode cX11_past 109 = .ok (.if_icmp .lt 59, 3) := dAt (x := (109, .if_icmp .lt 59, 3)) DX11_past_1 1 rfl
theorem dX11_past_112 : decode cX11_past 112 = .ok (.aload_n 0, 1) := dAt (x := (112, .aload_n 0, 1)) DX11_past_1 2 rfl
theorem dX11_past_113 : decode cX11_past 113 = .ok (.getfield 121, 3) := dAt (x := (113, .getfield 121, 3)) DX11_past_1 3 rfl
theorem dX11_past_116 : decode cX11_past 116 = .ok (.iload 4, 2) := dAt (x := (116, .iload 4, 2)) DX11_past_1 4 rfl
theorem dX11_past_118 : decode cX11_past 118 = .ok (.iaload, 1) := dAt (x := (118, .iaload, 1)) DX11_past_1 5 rfl
theorem dX11_past_119 : decode cX11_past 119 = .ok (.iload_n 3, 1) := dAt (x := (119, .iload_n 3, 1)) DX11_past_1 6 rfl
theorem dX11_past_120 : decode cX11_past 120 = .ok (.if_icmp .lt 6, 3) := dAt (x := (120, .if_icmp .lt 6, 3)) DX11_past_1 7 rfl
theorem dX11_past_123 : decode cX11_past 123 = .ok (.goto 45, 3) := dAt (x := (123, .goto 45, 3)) DX11_past_1 8 rfl
theorem dX11_past_126 : decode cX11_past 126 = .ok (.aload_n 0, 1) := dAt (x := (126, .aload_n 0, 1)) DX11_past_1 9 rfl
theorem dX11_past_127 : decode cX11_past 127 = .ok (.aload_n 0, 1) := dAt (x := (127, .aload_n 0, 1)) DX11_past_1 10 rfl
theorem dX11_past_128 : decode cX11_past 128 = .ok (.getfield 94, 3) := dAt (x := (128, .getfield 94, 3)) DX11_past_1 11 rfl
theorem dX11_past_131 : decode cX11_past 131 = .ok (.iconst 0, 1) := dAt (x := (131, .iconst 0, 1)) DX11_past_1 12 rfl
theorem dX11_past_132 : decode cX11_past 132 = .ok (.iaload, 1) := dAt (x := (132, .iaload, 1)) DX11_past_1 13 rfl
theorem dX11_past_133 : decode cX11_past 133 = .ok (.iload 4, 2) := dAt (x := (133, .iload 4, 2)) DX11_past_1 14 rfl
theorem dX11_past_135 : decode cX11_past 135 = .ok (.aload_n 0, 1) := dAt (x := (135, .aload_n 0, 1)) DX11_past_1 15 rfl
theorem dX11_past_136 : decode cX11_past 136 = .ok (.getfield 97, 3) := dAt (x := (136, .getfield 97, 3)) DX11_past_1 16 rfl
theorem dX11_past_139 : decode cX11_past 139 = .ok (.iconst 0, 1) := dAt (x := (139, .iconst 0, 1)) DX11_past_1 17 rfl
theorem dX11_past_140 : decode cX11_past 140 = .ok (.iaload, 1) := dAt (x := (140, .iaload, 1)) DX11_past_1 18 rfl
theorem dX11_past_141 : decode cX11_past 141 = .ok (.iconst 0, 1) := dAt (x := (141, .iconst 0, 1)) DX11_past_1 19 rfl
theorem dX11_past_142 : decode cX11_past 142 = .ok (.invokevirtual 480, 3) := dAt (x := (142, .invokevirtual 480, 3)) DX11_past_1 20 rfl
theorem dX11_past_145 : decode cX11_past 145 = .ok (.aload_n 0, 1) := dAt (x := (145, .aload_n 0, 1)) DX11_past_1 21 rfl
theorem dX11_past_146 : decode cX11_past 146 = .ok (.getfield 112, 3) := dAt (x := (146, .getfield 112, 3)) DX11_past_1 22 rfl
theorem dX11_past_149 : decode cX11_past 149 = .ok (.iload_n 1, 1) := dAt (x := (149, .iload_n 1, 1)) DX11_past_1 23 rfl
theorem dX11_past_150 : decode cX11_past 150 = .ok (.iaload, 1) := dAt (x := (150, .iaload, 1)) DX11_past_1 24 rfl
theorem dX11_past_151 : decode cX11_past 151 = .ok (.ifCond .ge 17, 3) := dAt (x := (151, .ifCond .ge 17, 3)) DX11_past_1 25 rfl
theorem dX11_past_154 : decode cX11_past 154 = .ok (.aload_n 0, 1) := dAt (x := (154, .aload_n 0, 1)) DX11_past_1 26 rfl
theorem dX11_past_155 : decode cX11_past 155 = .ok (.getfield 127, 3) := dAt (x := (155, .getfield 127, 3)) DX11_past_1 27 rfl
theorem dX11_past_158 : decode cX11_past 158 = .ok (.aload_n 0, 1) := dAt (x := (158, .aload_n 0, 1)) DX11_past_1 28 rfl
theorem dX11_past_159 : decode cX11_past 159 = .ok (.getfield 121, 3) := dAt (x := (159, .getfield 121, 3)) DX11_past_1 29 rfl
theorem dX11_past_162 : decode cX11_past 162 = .ok (.iload 4, 2) := dAt (x := (162, .iload 4, 2)) DX11_past_1 30 rfl
theorem dX11_past_164 : decode cX11_past 164 = .ok (.iaload, 1) := dAt (x := (164, .iaload, 1)) DX11_past_1 31 rfl
theorem dX11_past_165 : decode cX11_past 165 = .ok (.iload 4, 2) := dAt (x := (165, .iload 4, 2)) DX11_past_1 32 rfl
theorem dX11_past_167 : decode cX11_past 167 = .ok (.iastore, 1) := dAt (x := (167, .iastore, 1)) DX11_past_1 33 rfl
theorem dX11_past_168 : decode cX11_past 168 = .ok (.iinc 4 1, 3) := dAt (x := (168, .iinc 4 1, 3)) DX11_past_1 34 rfl
theorem dX11_past_171 : decode cX11_past 171 = .ok (.goto (-78), 3) := dAt (x := (171, .goto (-78), 3)) DX11_past_1 35 rfl
theorem dX11_past_174 : decode cX11_past 174 = .ok (.iconst 0, 1) := dAt (x := (174, .iconst 0, 1)) DX11_past_1 36 rfl
theorem dX11_past_175 : decode cX11_past 175 = .ok (.istore 4, 2) := dAt (x := (175, .istore 4, 2)) DX11_past_1 37 rfl
theorem dX11_past_177 : decode cX11_past 177 = .ok (.iconst 0, 1) := dAt (x := (177, .iconst 0, 1)) DX11_past_1 38 rfl
theorem dX11_past_178 : decode cX11_past 178 = .ok (.istore 5, 2) := dAt (x := (178, .istore 5, 2)) DX11_past_1 39 rfl
theorem dX11_past_180 : decode cX11_past 180 = .ok (.iload 5, 2) := dAt (x := (180, .iload 5, 2)) DX11_past_1 40 rfl
theorem dX11_past_182 : decode cX11_past 182 = .ok (.sipush 256, 3) := dAt (x := (182, .sipush 256, 3)) DX11_past_1 41 rfl
theorem dX11_past_185 : decode cX11_past 185 = .ok (.if_icmp .ge 39, 3) := dAt (x := (185, .if_icmp .ge 39, 3)) DX11_past_1 42 rfl
theorem dX11_past_188 : decode cX11_past 188 = .ok (.aload_n 0, 1) := dAt (x := (188, .aload_n 0, 1)) DX11_past_1 43 rfl
theorem dX11_past_189 : decode cX11_past 189 = .ok (.getfield 127, 3) := dAt (x := (189, .getfield 127, 3)) DX11_past_1 44 rfl
theorem dX11_past_192 : decode cX11_past 192 = .ok (.iload 5, 2) := dAt (x := (192, .iload 5, 2)) DX11_past_1 45 rfl
theorem dX11_past_194 : decode cX11_past 194 = .ok (.iaload, 1) := dAt (x := (194, .iaload, 1)) DX11_past_1 46 rfl
theorem dX11_past_195 : decode cX11_past 195 = .ok (.ifCond .ge 6, 3) := dAt (x := (195, .ifCond .ge 6, 3)) DX11_past_1 47 rfl
theorem dX11_past_198 : decode cX11_past 198 = .ok (.goto 20, 3) := dAt (x := (198, .goto 20, 3)) DX11_past_1 48 rfl
theorem dX11_past_201 : decode cX11_past 201 = .ok (.iload 4, 2) := dAt (x := (201, .iload 4, 2)) DX11_past_1 49 rfl
theorem dX11_past_203 : decode cX11_past 203 = .ok (.iload_n 2, 1) := dAt (x := (203, .iload_n 2, 1)) DX11_past_1 50 rfl
theorem dX11_past_204 : decode cX11_past 204 = .ok (.if_icmp .ne 11, 3) := dAt (x := (204, .if_icmp .ne 11, 3)) DX11_past_1 51 rfl
theorem dX11_past_207 : decode cX11_past 207 = .ok (.aload_n 0, 1) := dAt (x := (207, .aload_n 0, 1)) DX11_past_1 52 rfl
theorem dX11_past_208 : decode cX11_past 208 = .ok (.getfield 127, 3) := dAt (x := (208, .getfield 127, 3)) DX11_past_1 53 rfl
theorem dX11_past_211 : decode cX11_past 211 = .ok (.iload 5, 2) := dAt (x := (211, .iload 5, 2)) DX11_past_1 54 rfl
theorem dX11_past_213 : decode cX11_past 213 = .ok (.iaload, 1) := dAt (x := (213, .iaload, 1)) DX11_past_1 55 rfl
theorem dX11_past_214 : decode cX11_past 214 = .ok (.ireturn, 1) := dAt (x := (214, .ireturn, 1)) DX11_past_1 56 rfl
theorem dX11_past_215 : decode cX11_past 215 = .ok (.iinc 4 1, 3) := dAt (x := (215, .iinc 4 1, 3)) DX11_past_1 57 rfl
theorem dX11_past_218 : decode cX11_past 218 = .ok (.iinc 5 1, 3) := dAt (x := (218, .iinc 5 1, 3)) DX11_past_1 58 rfl
theorem dX11_past_221 : decode cX11_past 221 = .ok (.goto (-41), 3) := dAt (x := (221, .goto (-41), 3)) DX11_past_1 59 rfl
def lDX11_past_2 : List (Nat × Instr × Nat) := [(224, .bipush (-2), 2), (226, .ireturn, 1)]
theorem DX11_past_2 : dAll cX11_past lDX11_past_2 = true := by decide +kernel
theorem dX11_past_224 : decode cX11_past 224 = .ok (.bipush (-2), 2) := dAt (x := (224, .bipush (-2), 2)) DX11_past_2 0 rfl
theorem dX11_past_226 : decode cX11_past 226 = .ok (.ireturn, 1) := dAt (x := (226, .ireturn, 1)) DX11_past_2 1 rfl
def lDX11_must_0 : List (Nat × Instr × Nat) := [(0, .aload_n 0, 1), (1, .iconst 0, 1), (2, .putfield 160, 3), (5, .aload_n 0, 1), (6, .iload_n 1, 1), (7, .invokevirtual 462, 3), (10, .ifCond .ne 5, 3), (13, .iconst (-1), 1), (14, .ireturn, 1), (15, .aload_n 0, 1), (16, .invokevirtual 484, 3), (19, .aload_n 0, 1), (20, .getfield 112, 3), (23, .iload_n 1, 1), (24, .iaload, 1), (25, .ifCond .ge 6, 3), (28, .bipush (-2), 2), (30, .ireturn, 1), (31, .iconst 0, 1), (32, .istore_n 2, 1), (33, .iconst 0, 1), (34, .istore_n 3, 1), (35, .iload_n 3, 1), (36, .aload_n 0, 1), (37, .getfield 240, 3), (40, .if_icmp .ge 50, 3), (43, .aload_n 0, 1), (44, .aload_n 0, 1), (45, .getfield 94, 3), (48, .iconst 0, 1), (49, .iaload, 1), (50, .iconst (-1), 1), (51, .aload_n 0, 1), (52, .getfield 97, 3), (55, .iconst 0, 1), (56, .iaload, 1), (57, .iconst 1, 1), (58, .iload_n 3, 1), (59, .ishl, 1), (60, .ior, 1), (61, .iconst 0, 1), (62, .invokevirtual 480, 3), (65, .iload_n 2, 1), (66, .aload_n 0, 1), (67, .getfield 112, 3), (70, .iload_n 1, 1), (71, .iaload, 1), (72, .ifCond .ge 9, 3), (75, .iconst 1, 1), (76, .iload_n 3, 1), (77, .ishl, 1), (78, .goto 4, 3), (81, .iconst 0, 1), (82, .ior, 1), (83, .istore_n 2, 1), (84, .iinc 3 1, 3), (87, .goto (-52), 3), (90, .iload_n 2, 1), (91, .ireturn, 1)]
theorem DX11_must_0 : dAll cX11_must lDX11_must_0 = true := by decide +kernel
theorem dX11_must_0 : decode cX11_must 0 = .ok (.aload_n 0, 1) := dAt (x := (0, .aload_n 0, 1)) DX11_must_0 0 rfl
theorem dX11_must_1 : decode cX11_must 1 = .ok (.iconst 0, 1) := dAt (x := (1, .iconst 0, 1)) DX11_must_0 1 rfl
theorem dX11_must_2 : decode cX11_must 2 = .ok (.putfield 160, 3) := dAt (x := (2, .putfield 160, 3)) DX11_must_0 2 rfl
theorem dX11_must_5 : decode cX11_must 5 = .ok (.aload_n 0, 1) := dAt (x := (5, .aload_n 0, 1)) DX11_must_0 3 rfl
theorem dX11_must_6 : decode cX11_must 6 = .ok (.iload_n 1, 1) := dAt (x := (6, .iload_n 1, 1)) DX11_must_0 4 rfl
theorem dX11_must_7 : decode cX11_must 7 = .ok (.invokevirtual 462, 3) := dAt (x := (7, .invokevirtual 462, 3)) DX11_must_0 5 rfl
theorem dX11_must_10 : decode cX11_must 10 = .ok (.ifCond .ne 5, 3) := dAt (x := (10, .ifCond .ne 5, 3)) DX11_must_0 6 rfl
theorem dX11_must_13 : decode cX11_must 13 = .ok (.iconst (-1), 1) := dAt (x := (13, .iconst (-1), 1)) DX11_must_0 7 rfl
theorem dX11_must_14 : decode cX11_must 14 = .ok (.ireturn, 1) := dAt (x := (14, .ireturn, 1)) DX11_must_0 8 rfl
theorem dX11_must_15 : decode cX11_must 15 = .ok (.aload_n 0, 1) := dAt (x := (15, .aload_n 0, 1)) DX11_must_0 9 rfl
theorem dX11_must_16 : decode cX11_must 16 = .ok (.invokevirtual 484, 3) := dAt (x := (16, .invokevirtual 484, 3)) DX11_must_0 10 rfl
theorem dX11_must_19 : decode cX11_must 19 = .ok (.aload_n 0, 1) := dAt (x := (19, .aload_n 0, 1)) DX11_must_0 11 rfl
theorem dX11_must_20 : decode cX11_must 20 = .ok (.getfield 112, 3) := dAt (x := (20, .getfield 112, 3)) DX11_must_0 12 rfl
theorem dX11_must_23 : decode cX11_must 23 = .ok (.iload_n 1, 1) := dAt (x := (23, .iload_n 1, 1)) DX11_must_0 13 rfl
theorem dX11_must_24 : decode cX11_must 24 = .ok (.iaload, 1) := dAt (x := (24, .iaload, 1)) DX11_must_0 14 rfl
theorem dX11_must_25 : decode cX11_must 25 = .ok (.ifCond .ge 6, 3) := dAt (x := (25, .ifCond .ge 6, 3)) DX11_must_0 15 rfl
theorem dX11_must_28 : decode cX11_must 28 = .ok (.bipush (-2), 2) := dAt (x := (28, .bipush (-2), 2)) DX11_must_0 16 rfl
theorem dX11_must_30 : decode cX11_must 30 = .ok (.ireturn, 1) := dAt (x := (30, .ireturn, 1)) DX11_must_0 17 rfl
theorem dX11_must_31 : decode cX11_must 31 = .ok (.iconst 0, 1) := dAt (x := (31, .iconst 0, 1)) DX11_must_0 18 rfl
theorem dX11_must_32 : decode cX11_must 32 = .ok (.istore_n 2, 1) := dAt (x := (32, .istore_n 2, 1)) DX11_must_0 19 rfl
theorem dX11_must_33 : decode cX11_must 33 = .ok (.iconst 0, 1) := dAt (x := (33, .iconst 0, 1)) DX11_must_0 20 rfl
theorem dX11_must_34 : decode cX11_must 34 = .ok (.istore_n 3, 1) := dAt (x := (34, .istore_n 3, 1)) DX11_must_0 21 rfl
theorem dX11_must_35 : decode cX11_must 35 = .ok (.iload_n 3, 1) := dAt (x := (35, .iload_n 3, 1)) DX11_must_0 22 rfl
theorem dX11_must_36 : decode cX11_must 36 = .ok (.aload_n 0, 1) := dAt (x := (36, .aload_n 0, 1)) DX11_must_0 23 rfl
theorem dX11_must_37 : decode cX11_must 37 = .ok (.getfield 240, 3) := dAt (x := (37, .getfield 240, 3)) DX11_must_0 24 rfl
theorem dX11_must_40 : decode cX11_must 40 = .ok (.if_icmp .ge 50, 3) := dAt (x := (40, .if_icmp .ge 50, 3)) DX11_must_0 25 rfl
theorem dX11_must_43 : decode cX11_must 43 = .ok (.aload_n 0, 1) := dAt (x := (43, .aload_n 0, 1)) DX11_must_0 26 rfl
theorem dX11_must_44 : decode cX11_must 44 = .ok (.aload_n 0, 1) := dAt (x := (44, .aload_n 0, 1)) DX11_must_0 27 rfl
theorem dX11_must_45 : decode cX11_must 45 = .ok (.getfield 94, 3) := dAt (x := (45, .getfield 94, 3)) DX11_must_0 28 rfl
theorem dX11_must_48 : decode cX11_must 48 = .ok (.iconst 0, 1) := dAt (x := (48, .iconst 0, 1)) DX11_must_0 29 rfl
theorem dX11_must_49 : decode cX11_must 49 = .ok (.iaload, 1) := dAt (x := (49, .iaload, 1)) DX11_must_0 30 rfl
theorem dX11_must_50 : decode cX11_must 50 = .ok (.iconst (-1), 1) := dAt (x := (50, .iconst (-1), 1)) DX11_must_0 31 rfl
theorem dX11_must_51 : decode cX11_must 51 = .ok (.aload_n 0, 1) := dAt (x := (51, .aload_n 0, 1)) DX11_must_0 32 rfl
theorem dX11_must_52 : decode cX11_must 52 = .ok (.getfield 97, 3) := dAt (x := (52, .getfield 97, 3)) DX11_must_0 33 rfl
theorem dX11_must_55 : decode cX11_must 55 = .ok (.iconst 0, 1) := dAt (x := (55, .iconst 0, 1)) DX11_must_0 34 rfl
theorem dX11_must_56 : decode cX11_must 56 = .ok (.iaload, 1) := dAt (x := (56, .iaload, 1)) DX11_must_0 35 rfl
theorem dX11_must_57 : decode cX11_must 57 = .ok (.iconst 1, 1) := dAt (x := (57, .iconst 1, 1)) DX11_must_0 36 rfl
theorem dX11_must_58 : decode cX11_must 58 = .ok (.iload_n 3, 1) := dAt (x := (58, .iload_n 3, 1)) DX11_must_0 37 rfl
theorem dX11_must_59 : decode cX11_must 59 = .ok (.ishl, 1) := dAt (x := (59, .ishl, 1)) DX11_must_0 38 rfl
theorem dX11_must_60 : decode cX11_must 60 = .ok (.ior, 1) := dAt (x := (60, .ior, 1)) DX11_must_0 39 rfl
theorem dX11_must_61 : decode cX11_must 61 = .ok (.iconst 0, 1) := dAt (x := (61, .iconst 0, 1)) DX11_must_0 40 rfl
theorem dX11_must_62 : decode cX11_must 62 = .ok (.invokevirtual 480, 3) := dAt (x := (62, .invokevirtual 480, 3)) DX11_must_0 41 rfl
theorem dX11_must_65 : decode cX11_must 65 = .ok (.iload_n 2, 1) := dAt (x := (65, .iload_n 2, 1)) DX11_must_0 42 rfl
theorem dX11_must_66 : decode cX11_must 66 = .ok (.aload_n 0, 1) := dAt (x := (66, .aload_n 0, 1)) DX11_must_0 43 rfl
theorem dX11_must_67 : decode cX11_must 67 = .ok (.getfield 112, 3) := dAt (x := (67, .getfield 112, 3)) DX11_must_0 44 rfl
theorem dX11_must_70 : decode cX11_must 70 = .ok (.iload_n 1, 1) := dAt (x := (70, .iload_n 1, 1)) DX11_must_0 45 rfl
theorem dX11_must_71 : decode cX11_must 71 = .ok (.iaload, 1) := dAt (x := (71, .iaload, 1)) DX11_must_0 46 rfl
theorem dX11_must_72 : decode cX11_must 72 = .ok (.ifCond .ge 9, 3) := dAt (x := (72, .ifCond .ge 9, 3)) DX11_must_0 47 rfl
theorem dX11_must_75 : decode cX11_must 75 = .ok (.iconst 1, 1) := dAt (x := (75, .iconst 1, 1)) DX11_must_0 48 rfl
theorem dX11_must_76 : decode cX11_must 76 = .ok (.iload_n 3, 1) := dAt (x := (76, .iload_n 3, 1)) DX11_must_0 49 rfl
theorem dX11_must_77 : decode cX11_must 77 = .ok (.ishl, 1) := dAt (x := (77, .ishl, 1)) DX11_must_0 50 rfl
theorem dX11_must_78 : decode cX11_must 78 = .ok (.goto 4, 3) := dAt (x := (78, .goto 4, 3)) DX11_must_0 51 rfl
theorem dX11_must_81 : decode cX11_must 81 = .ok (.iconst 0, 1) := dAt (x := (81, .iconst 0, 1)) DX11_must_0 52 rfl
theorem dX11_must_82 : decode cX11_must 82 = .ok (.ior, 1) := dAt (x := (82, .ior, 1)) DX11_must_0 53 rfl
theorem dX11_must_83 : decode cX11_must 83 = .ok (.istore_n 2, 1) := dAt (x := (83, .istore_n 2, 1)) DX11_must_0 54 rfl
theorem dX11_must_84 : decode cX11_must 84 = .ok (.iinc 3 1, 3) := dAt (x := (84, .iinc 3 1, 3)) DX11_must_0 55 rfl
theorem dX11_must_87 : decode cX11_must 87 = .ok (.goto (-52), 3) := dAt (x := (87, .goto (-52), 3)) DX11_must_0 56 rfl
theorem dX11_must_90 : decode cX11_must 90 = .ok (.iload_n 2, 1) := dAt (x := (90, .iload_n 2, 1)) DX11_must_0 57 rfl
theorem dX11_must_91 : decode cX11_must 91 = .ok (.ireturn, 1) := dAt (x := (91, .ireturn, 1)) DX11_must_0 58 rfl
def lDX11_free_0 : List (Nat × Instr × Nat) := [(0, .aload_n 0, 1), (1, .iconst 0, 1), (2, .putfield 160, 3), (5, .aload_n 0, 1), (6, .iload_n 1, 1), (7, .invokevirtual 456, 3), (10, .ifCond .ne 5, 3), (13, .iconst (-1), 1), (14, .ireturn, 1), (15, .aload_n 0, 1), (16, .invokevirtual 484, 3), (19, .iconst 0, 1), (20, .istore_n 2, 1), (21, .iload_n 2, 1), (22, .aload_n 0, 1), (23, .getfield 476, 3), (26, .if_icmp .ge 50, 3), (29, .aload_n 0, 1), (30, .getfield 88, 3), (33, .aload_n 0, 1), (34, .getfield 118, 3), (37, .iload_n 2, 1), (38, .iaload, 1), (39, .iaload, 1), (40, .aload_n 0, 1), (41, .getfield 97, 3), (44, .iconst 0, 1), (45, .iaload, 1), (46, .iconst (-1), 1), (47, .ixor, 1), (48, .iand, 1), (49, .iload_n 1, 1), (50, .invokestatic 372, 3), (53, .ifCond .eq 17, 3), (56, .aload_n 0, 1), (57, .getfield 112, 3), (60, .aload_n 0, 1), (61, .getfield 118, 3), (64, .iload_n 2, 1), (65, .iaload, 1), (66, .iaload, 1), (67, .iconst 1, 1), (68, .iadd, 1), (69, .ireturn, 1), (70, .iinc 2 1, 3), (73, .goto (-52), 3), (76, .bipush (-2), 2), (78, .ireturn, 1)]
theorem DX11_free_0 : dAll cX11_free lDX11_free_0 = true := by decide +kernel
theorem dX11_free_0 : decode cX11_free 0 = .ok (.aload_n 0, 1) := dAt (x := (0, .aload_n 0, 1)) DX11_free_0 0 rfl
theorem dX11_free_1 : decode cX11_free 1 = .ok (.iconst 0, 1) := dAt (x := (1, .iconst 0, 1)) DX11_free_0 1 rfl
theorem dX11_free_2 : decode cX11_free 2 = .ok (.putfield 160, 3) := dAt (x := (2, .putfield 160, 3)) DX11_free_0 2 rfl
theorem dX11_free_5 : decode cX11_free 5 = .ok (.aload_n 0, 1) := dAt (x := (5, .aload_n 0, 1)) DX11_free_0 3 rfl
theorem dX11_free_6 : decode cX11_free 6 = .ok (.iload_n 1, 1) := dAt (x := (6, .iload_n 1, 1)) DX11_free_0 4 rfl
theorem dX11_free_7 : decode cX11_free 7 = .ok (.invokevirtual 456, 3) := dAt (x := (7, .invokevirtual 456, 3)) DX11_free_0 5 rfl
theorem dX11_free_10 : decode cX11_free 10 = .ok (.ifCond .ne 5, 3) := dAt (x := (10, .ifCond .ne 5, 3)) DX11_free_0 6 rfl
theorem dX11_free_13 : decode cX11_free 13 = .ok (.iconst (-1), 1) := dAt (x := (13, .iconst (-1), 1)) DX11_free_0 7 rfl
theorem dX11_free_14 : decode cX11_free 14 = .ok (.ireturn, 1) := dAt (x := (14, .ireturn, 1)) DX11_free_0 8 rfl
theorem dX11_free_15 : decode cX11_free 15 = .ok (.aload_n 0, 1) := dAt (x := (15, .aload_n 0, 1)) DX11_free_0 9 rfl
theorem dX11_free_16 : decode cX11_free 16 = .ok (.invokevirtual 484, 3) := dAt (x := (16, .invokevirtual 484, 3)) DX11_free_0 10 rfl
theorem dX11_free_19 : decode cX11_free 19 = .ok (.iconst 0, 1) := dAt (x := (19, .iconst 0, 1)) DX11_free_0 11 rfl
theorem dX11_free_20 : decode cX11_free 20 = .ok (.istore_n 2, 1) := dAt (x := (20, .istore_n 2, 1)) DX11_free_0 12 rfl
theorem dX11_free_21 : decode cX11_free 21 = .ok (.iload_n 2, 1) := dAt (x := (21, .iload_n 2, 1)) DX11_free_0 13 rfl
theorem dX11_free_22 : decode cX11_free 22 = .ok (.aload_n 0, 1) := dAt (x := (22, .aload_n 0, 1)) DX11_free_0 14 rfl
theorem dX11_free_23 : decode cX11_free 23 = .ok (.getfield 476, 3) := dAt (x := (23, .getfield 476, 3)) DX11_free_0 15 rfl
theorem dX11_free_26 : decode cX11_free 26 = .ok (.if_icmp .ge 50, 3) := dAt (x := (26, .if_icmp .ge 50, 3)) DX11_free_0 16 rfl
theorem dX11_free_29 : decode cX11_free 29 = .ok (.aload_n 0, 1) := dAt (x := (29, .aload_n 0, 1)) DX11_free_0 17 rfl
theorem dX11_free_30 : decode cX11_free 30 = .ok (.getfield 88, 3) := dAt (x := (30, .getfield 88, 3)) DX11_free_0 18 rfl
theorem dX11_free_33 : decode cX11_free 33 = .ok (.aload_n 0, 1) := dAt (x := (33, .aload_n 0, 1)) DX11_free_0 19 rfl
theorem dX11_free_34 : decode cX11_free 34 = .ok (.getfield 118, 3) := dAt (x := (34, .getfield 118, 3)) DX11_free_0 20 rfl
theorem dX11_free_37 : decode cX11_free 37 = .ok (.iload_n 2, 1) := dAt (x := (37, .iload_n 2, 1)) DX11_free_0 21 rfl
theorem dX11_free_38 : decode cX11_free 38 = .ok (.iaload, 1) := dAt (x := (38, .iaload, 1)) DX11_free_0 22 rfl
theorem dX11_free_39 : decode cX11_free 39 = .ok (.iaload, 1) := dAt (x := (39, .iaload, 1)) DX11_free_0 23 rfl
theorem dX11_free_40 : decode cX11_free 40 = .ok (.aload_n 0, 1) := dAt (x := (40, .aload_n 0, 1)) DX11_free_0 24 rfl
theorem dX11_free_41 : decode cX11_free 41 = .ok (.getfield 97, 3) := dAt (x := (41, .getfield 97, 3)) DX11_free_0 25 rfl
theorem dX11_free_44 : decode cX11_free 44 = .ok (.iconst 0, 1) := dAt (x := (44, .iconst 0, 1)) DX11_free_0 26 rfl
theorem dX11_free_45 : decode cX11_free 45 = .ok (.iaload, 1) := dAt (x := (45, .iaload, 1)) DX11_free_0 27 rfl
theorem dX11_free_46 : decode cX11_free 46 = .ok (.iconst (-1), 1) := dAt (x := (46, .iconst (-1), 1)) DX11_free_0 28 rfl
theorem dX11_free_47 : decode cX11_free 47 = .ok (.ixor, 1) := dAt (x := (47, .ixor, 1)) DX11_free_0 29 rfl
theorem dX11_free_48 : decode cX11_free 48 = .ok (.iand, 1) := dAt (x := (48, .iand, 1)) DX11_free_0 30 rfl
theorem dX11_free_49 : decode cX11_free 49 = .ok (.iload_n 1, 1) := dAt (x := (49, .iload_n 1, 1)) DX11_free_0 31 rfl
theorem dX11_free_50 : decode cX11_free 50 = .ok (.invokestatic 372, 3) := dAt (x := (50, .invokestatic 372, 3)) DX11_free_0 32 rfl
theorem dX11_free_53 : decode cX11_free 53 = .ok (.ifCond .eq 17, 3) := dAt (x := (53, .ifCond .eq 17, 3)) DX11_free_0 33 rfl
theorem dX11_free_56 : decode cX11_free 56 = .ok (.aload_n 0, 1) := dAt (x := (56, .aload_n 0, 1)) DX11_free_0 34 rfl
theorem dX11_free_57 : decode cX11_free 57 = .ok (.getfield 112, 3) := dAt (x := (57, .getfield 112, 3)) DX11_free_0 35 rfl
theorem dX11_free_60 : decode cX11_free 60 = .ok (.aload_n 0, 1) := dAt (x := (60, .aload_n 0, 1)) DX11_free_0 36 rfl
theorem dX11_free_61 : decode cX11_free 61 = .ok (.getfield 118, 3) := dAt (x := (61, .getfield 118, 3)) DX11_free_0 37 rfl
theorem dX11_free_64 : decode cX11_free 64 = .ok (.iload_n 2, 1) := dAt (x := (64, .iload_n 2, 1)) DX11_free_0 38 rfl
theorem dX11_free_65 : decode cX11_free 65 = .ok (.iaload, 1) := dAt (x := (65, .iaload, 1)) DX11_free_0 39 rfl
theorem dX11_free_66 : decode cX11_free 66 = .ok (.iaload, 1) := dAt (x := (66, .iaload, 1)) DX11_free_0 40 rfl
theorem dX11_free_67 : decode cX11_free 67 = .ok (.iconst 1, 1) := dAt (x := (67, .iconst 1, 1)) DX11_free_0 41 rfl
theorem dX11_free_68 : decode cX11_free 68 = .ok (.iadd, 1) := dAt (x := (68, .iadd, 1)) DX11_free_0 42 rfl
theorem dX11_free_69 : decode cX11_free 69 = .ok (.ireturn, 1) := dAt (x := (69, .ireturn, 1)) DX11_free_0 43 rfl
theorem dX11_free_70 : decode cX11_free 70 = .ok (.iinc 2 1, 3) := dAt (x := (70, .iinc 2 1, 3)) DX11_free_0 44 rfl
theorem dX11_free_73 : decode cX11_free 73 = .ok (.goto (-52), 3) := dAt (x := (73, .goto (-52), 3)) DX11_free_0 45 rfl
theorem dX11_free_76 : decode cX11_free 76 = .ok (.bipush (-2), 2) := dAt (x := (76, .bipush (-2), 2)) DX11_free_0 46 rfl
theorem dX11_free_78 : decode cX11_free 78 = .ok (.ireturn, 1) := dAt (x := (78, .ireturn, 1)) DX11_free_0 47 rfl
def lDX11_ease_0 : List (Nat × Instr × Nat) := [(0, .aload_n 0, 1), (1, .iconst 0, 1), (2, .putfield 160, 3), (5, .aload_n 0, 1), (6, .iload_n 1, 1), (7, .invokevirtual 462, 3), (10, .ifCond .ne 5, 3), (13, .iconst (-1), 1), (14, .ireturn, 1), (15, .bipush (-2), 2), (17, .istore_n 2, 1), (18, .iconst 0, 1), (19, .istore_n 3, 1), (20, .iload_n 3, 1), (21, .iconst 1, 1), (22, .aload_n 0, 1), (23, .getfield 240, 3), (26, .ishl, 1), (27, .if_icmp .ge 56, 3), (30, .iload_n 2, 1), (31, .ifCond .lt 17, 3), (34, .iload_n 3, 1), (35, .invokestatic 381, 3), (38, .iload_n 2, 1), (39, .invokestatic 381, 3), (42, .if_icmp .lt 6, 3), (45, .goto 32, 3), (48, .aload_n 0, 1), (49, .aload_n 0, 1), (50, .getfield 94, 3), (53, .iconst 0, 1), (54, .iaload, 1), (55, .iconst (-1), 1), (56, .aload_n 0, 1), (57, .getfield 97, 3), (60, .iconst 0, 1), (61, .iaload, 1), (62, .iload_n 3, 1), (63, .invokevirtual 480, 3), (66, .aload_n 0, 1), (67, .getfield 112, 3), (70, .iload_n 1, 1), (71, .iaload, 1), (72, .ifCond .lt 5, 3), (75, .iload_n 3, 1), (76, .istore_n 2, 1), (77, .iinc 3 1, 3), (80, .goto (-60), 3), (83, .iload_n 2, 1), (84, .ireturn, 1)]
theorem DX11_ease_0 : dAll cX11_ease lDX11_ease_0 = true := by decide +kernel
theorem dX11_ease_0 : decode cX11_ease 0 = .ok (.aload_n 0, 1) := dAt (x := (0, .aload_n 0, 1)) DX11_ease_0 0 rfl
theorem dX11_ease_1 : decode cX11_ease 1 = .ok (.iconst 0, 1) := dAt (x := (1, .iconst 0, 1)) DX11_ease_0 1 rfl
theorem dX11_ease_2 : decode cX11_ease 2 = .ok (.putfield 160, 3) := dAt (x := (2, .putfield 160, 3)) DX11_ease_0 2 rfl
theorem dX11_ease_5 : decode cX11_ease 5 = .ok (.aload_n 0, 1) := dAt (x := (5, .aload_n 0, 1)) DX11_ease_0 3 rfl
theorem dX11_ease_6 : decode cX11_ease 6 = .ok (.iload_n 1, 1) := dAt (x := (6, .iload_n 1, 1)) DX11_ease_0 4 rfl
theorem dX11_ease_7 : decode cX11_ease 7 = .ok (.invokevirtual 462, 3) := dAt (x := (7, .invokevirtual 462, 3)) DX11_ease_0 5 rfl
theorem dX11_ease_10 : decode cX11_ease 10 = .ok (.ifCond .ne 5, 3) := dAt (x := (10, .ifCond .ne 5, 3)) DX11_ease_0 6 rfl
theorem dX11_ease_13 : decode cX11_ease 13 = .ok (.iconst (-1), 1) := dAt (x := (13, .iconst (-1), 1)) DX11_ease_0 7 rfl
theorem dX11_ease_14 : decode cX11_ease 14 = .ok (.ireturn, 1) := dAt (x := (14, .ireturn, 1)) DX11_ease_0 8 rfl
theorem dX11_ease_15 : decode cX11_ease 15 = .ok (.bipush (-2), 2) := dAt (x := (15, .bipush (-2), 2)) DX11_ease_0 9 rfl
theorem dX11_ease_17 : decode cX11_ease 17 = .ok (.istore_n 2, 1) := dAt (x := (17, .istore_n 2, 1)) DX11_ease_0 10 rfl
theorem dX11_ease_18 : decode cX11_ease 18 = .ok (.iconst 0, 1) := dAt (x := (18, .iconst 0, 1)) DX11_ease_0 11 rfl
theorem dX11_ease_19 : decode cX11_ease 19 = .ok (.istore_n 3, 1) := dAt (x := (19, .istore_n 3, 1)) DX11_ease_0 12 rfl
theorem dX11_ease_20 : decode cX11_ease 20 = .ok (.iload_n 3, 1) := dAt (x := (20, .iload_n 3, 1)) DX11_ease_0 13 rfl
theorem dX11_ease_21 : decode cX11_ease 21 = .ok (.iconst 1, 1) := dAt (x := (21, .iconst 1, 1)) DX11_ease_0 14 rfl
theorem dX11_ease_22 : decode cX11_ease 22 = .ok (.aload_n 0, 1) := dAt (x := (22, .aload_n 0, 1)) DX11_ease_0 15 rfl
theorem dX11_ease_23 : decode cX11_ease 23 = .ok (.getfield 240, 3) := dAt (x := (23, .getfield 240, 3)) DX11_ease_0 16 rfl
theorem dX11_ease_26 : decode cX11_ease 26 = .ok (.ishl, 1) := dAt (x := (26, .ishl, 1)) DX11_ease_0 17 rfl
theorem dX11_ease_27 : decode cX11_ease 27 = .ok (.if_icmp .ge 56, 3) := dAt (x := (27, .if_icmp .ge 56, 3)) DX11_ease_0 18 rfl
theorem dX11_ease_30 : decode cX11_ease 30 = .ok (.iload_n 2, 1) := dAt (x := (30, .iload_n 2, 1)) DX11_ease_0 19 rfl
theorem dX11_ease_31 : decode cX11_ease 31 = .ok (.ifCond .lt 17, 3) := dAt (x := (31, .ifCond .lt 17, 3)) DX11_ease_0 20 rfl
theorem dX11_ease_34 : decode cX11_ease 34 = .ok (.iload_n 3, 1) := dAt (x := (34, .iload_n 3, 1)) DX11_ease_0 21 rfl
theorem dX11_ease_35 : decode cX11_ease 35 = .ok (.invokestatic 381, 3) := dAt (x := (35, .invokestatic 381, 3)) DX11_ease_0 22 rfl
theorem dX11_ease_38 : decode cX11_ease 38 = .ok (.iload_n 2, 1) := dAt (x := (38, .iload_n 2, 1)) DX11_ease_0 23 rfl
theorem dX11_ease_39 : decode cX11_ease 39 = .ok (.invokestatic 381, 3) := dAt (x := (39, .invokestatic 381, 3)) DX11_ease_0 24 rfl
theorem dX11_ease_42 : decode cX11_ease 42 = .ok (.if_icmp .lt 6, 3) := dAt (x := (42, .if_icmp .lt 6, 3)) DX11_ease_0 25 rfl
theorem dX11_ease_45 : decode cX11_ease 45 = .ok (.goto 32, 3) := dAt (x := (45, .goto 32, 3)) DX11_ease_0 26 rfl
theorem dX11_ease_48 : decode cX11_ease 48 = .ok (.aload_n 0, 1) := dAt (x := (48, .aload_n 0, 1)) DX11_ease_0 27 rfl
theorem dX11_ease_49 : decode cX11_ease 49 = .ok (.aload_n 0, 1) := dAt (x := (49, .aload_n 0, 1)) DX11_ease_0 28 rfl
theorem dX11_ease_50 : decode cX11_ease 50 = .ok (.getfield 94, 3) := dAt (x := (50, .getfield 94, 3)) DX11_ease_0 29 rfl
theorem dX11_ease_53 : decode cX11_ease 53 = .ok (.iconst 0, 1) := dAt (x := (53, .iconst 0, 1)) DX11_ease_0 30 rfl
theorem dX11_ease_54 : decode cX11_ease 54 = .ok (.iaload, 1) := dAt (x := (54, .iaload, 1)) DX11_ease_0 31 rfl
theorem dX11_ease_55 : decode cX11_ease 55 = .ok (.iconst (-1), 1) := dAt (x := (55, .iconst (-1), 1)) DX11_ease_0 32 rfl
theorem dX11_ease_56 : decode cX11_ease 56 = .ok (.aload_n 0, 1) := dAt (x := (56, .aload_n 0, 1)) DX11_ease_0 33 rfl
theorem dX11_ease_57 : decode cX11_ease 57 = .ok (.getfield 97, 3) := dAt (x := (57, .getfield 97, 3)) DX11_ease_0 34 rfl
theorem dX11_ease_60 : decode cX11_ease 60 = .ok (.iconst 0, 1) := dAt (x := (60, .iconst 0, 1)) DX11_ease_0 35 rfl
theorem dX11_ease_61 : decode cX11_ease 61 = .ok (.iaload, 1) := dAt (x := (61, .iaload, 1)) DX11_ease_0 36 rfl
theorem dX11_ease_62 : decode cX11_ease 62 = .ok (.iload_n 3, 1) := dAt (x := (62, .iload_n 3, 1)) DX11_ease_0 37 rfl
theorem dX11_ease_63 : decode cX11_ease 63 = .ok (.invokevirtual 480, 3) := dAt (x := (63, .invokevirtual 480, 3)) DX11_ease_0 38 rfl
theorem dX11_ease_66 : decode cX11_ease 66 = .ok (.aload_n 0, 1) := dAt (x := (66, .aload_n 0, 1)) DX11_ease_0 39 rfl
theorem dX11_ease_67 : decode cX11_ease 67 = .ok (.getfield 112, 3) := dAt (x := (67, .getfield 112, 3)) DX11_ease_0 40 rfl
theorem dX11_ease_70 : decode cX11_ease 70 = .ok (.iload_n 1, 1) := dAt (x := (70, .iload_n 1, 1)) DX11_ease_0 41 rfl
theorem dX11_ease_71 : decode cX11_ease 71 = .ok (.iaload, 1) := dAt (x := (71, .iaload, 1)) DX11_ease_0 42 rfl
theorem dX11_ease_72 : decode cX11_ease 72 = .ok (.ifCond .lt 5, 3) := dAt (x := (72, .ifCond .lt 5, 3)) DX11_ease_0 43 rfl
theorem dX11_ease_75 : decode cX11_ease 75 = .ok (.iload_n 3, 1) := dAt (x := (75, .iload_n 3, 1)) DX11_ease_0 44 rfl
theorem dX11_ease_76 : decode cX11_ease 76 = .ok (.istore_n 2, 1) := dAt (x := (76, .istore_n 2, 1)) DX11_ease_0 45 rfl
theorem dX11_ease_77 : decode cX11_ease 77 = .ok (.iinc 3 1, 3) := dAt (x := (77, .iinc 3 1, 3)) DX11_ease_0 46 rfl
theorem dX11_ease_80 : decode cX11_ease 80 = .ok (.goto (-60), 3) := dAt (x := (80, .goto (-60), 3)) DX11_ease_0 47 rfl
theorem dX11_ease_83 : decode cX11_ease 83 = .ok (.iload_n 2, 1) := dAt (x := (83, .iload_n 2, 1)) DX11_ease_0 48 rfl
theorem dX11_ease_84 : decode cX11_ease 84 = .ok (.ireturn, 1) := dAt (x := (84, .ireturn, 1)) DX11_ease_0 49 rfl
def lDX11_winsBy_0 : List (Nat × Instr × Nat) := [(0, .aload_n 0, 1), (1, .getfield 88, 3), (4, .iload_n 1, 1), (5, .iaload, 1), (6, .aload_n 0, 1), (7, .getfield 97, 3), (10, .iconst 0, 1), (11, .iaload, 1), (12, .iconst (-1), 1), (13, .ixor, 1), (14, .iand, 1), (15, .iload_n 1, 1), (16, .iconst (-1), 1), (17, .ixor, 1), (18, .iand, 1), (19, .istore_n 2, 1), (20, .iconst 0, 1), (21, .istore_n 3, 1), (22, .iload_n 3, 1), (23, .aload_n 0, 1), (24, .getfield 240, 3), (27, .if_icmp .ge 32, 3), (30, .iload_n 2, 1), (31, .iload_n 3, 1), (32, .invokestatic 372, 3), (35, .ifCond .eq 18, 3), (38, .aload_n 0, 1), (39, .getfield 130, 3), (42, .iload_n 1, 1), (43, .iconst 1, 1), (44, .iload_n 3, 1), (45, .ishl, 1), (46, .ior, 1), (47, .baload, 1), (48, .ifCond .ne 5, 3), (51, .iload_n 3, 1), (52, .ireturn, 1), (53, .iinc 3 1, 3), (56, .goto (-34), 3), (59, .iconst (-1), 1), (60, .ireturn, 1)]
theorem DX11_winsBy_0 : dAll cX11_winsBy lDX11_winsBy_0 = true := by decide +kernel
theorem dX11_winsBy_0 : decode cX11_winsBy 0 = .ok (.aload_n 0, 1) := dAt (x := (0, .aload_n 0, 1)) DX11_winsBy_0 0 rfl
theorem dX11_winsBy_1 : decode cX11_winsBy 1 = .ok (.getfield 88, 3) := dAt (x := (1, .getfield 88, 3)) DX11_winsBy_0 1 rfl
theorem dX11_winsBy_4 : decode cX11_winsBy 4 = .ok (.iload_n 1, 1) := dAt (x := (4, .iload_n 1, 1)) DX11_winsBy_0 2 rfl
theorem dX11_winsBy_5 : decode cX11_winsBy 5 = .ok (.iaload, 1) := dAt (x := (5, .iaload, 1)) DX11_winsBy_0 3 rfl
theorem dX11_winsBy_6 : decode cX11_winsBy 6 = .ok (.aload_n 0, 1) := dAt (x := (6, .aload_n 0, 1)) DX11_winsBy_0 4 rfl
theorem dX11_winsBy_7 : decode cX11_winsBy 7 = .ok (.getfield 97, 3) := dAt (x := (7, .getfield 97, 3)) DX11_winsBy_0 5 rfl
theorem dX11_winsBy_10 : decode cX11_winsBy 10 = .ok (.iconst 0, 1) := dAt (x := (10, .iconst 0, 1)) DX11_winsBy_0 6 rfl
theorem dX11_winsBy_11 : decode cX11_winsBy 11 = .ok (.iaload, 1) := dAt (x := (11, .iaload, 1)) DX11_winsBy_0 7 rfl
theorem dX11_winsBy_12 : decode cX11_winsBy 12 = .ok (.iconst (-1), 1) := dAt (x := (12, .iconst (-1), 1)) DX11_winsBy_0 8 rfl
theorem dX11_winsBy_13 : decode cX11_winsBy 13 = .ok (.ixor, 1) := dAt (x := (13, .ixor, 1)) DX11_winsBy_0 9 rfl
theorem dX11_winsBy_14 : decode cX11_winsBy 14 = .ok (.iand, 1) := dAt (x := (14, .iand, 1)) DX11_winsBy_0 10 rfl
theorem dX11_winsBy_15 : decode cX11_winsBy 15 = .ok (.iload_n 1, 1) := dAt (x := (15, .iload_n 1, 1)) DX11_winsBy_0 11 rfl
theorem dX11_winsBy_16 : decode cX11_winsBy 16 = .ok (.iconst (-1), 1) := dAt (x := (16, .iconst (-1), 1)) DX11_winsBy_0 12 rfl
theorem dX11_winsBy_17 : decode cX11_winsBy 17 = .ok (.ixor, 1) := dAt (x := (17, .ixor, 1)) DX11_winsBy_0 13 rfl
theorem dX11_winsBy_18 : decode cX11_winsBy 18 = .ok (.iand, 1) := dAt (x := (18, .iand, 1)) DX11_winsBy_0 14 rfl
theorem dX11_winsBy_19 : decode cX11_winsBy 19 = .ok (.istore_n 2, 1) := dAt (x := (19, .istore_n 2, 1)) DX11_winsBy_0 15 rfl
theorem dX11_winsBy_20 : decode cX11_winsBy 20 = .ok (.iconst 0, 1) := dAt (x := (20, .iconst 0, 1)) DX11_winsBy_0 16 rfl
theorem dX11_winsBy_21 : decode cX11_winsBy 21 = .ok (.istore_n 3, 1) := dAt (x := (21, .istore_n 3, 1)) DX11_winsBy_0 17 rfl
theorem dX11_winsBy_22 : decode cX11_winsBy 22 = .ok (.iload_n 3, 1) := dAt (x := (22, .iload_n 3, 1)) DX11_winsBy_0 18 rfl
theorem dX11_winsBy_23 : decode cX11_winsBy 23 = .ok (.aload_n 0, 1) := dAt (x := (23, .aload_n 0, 1)) DX11_winsBy_0 19 rfl
theorem dX11_winsBy_24 : decode cX11_winsBy 24 = .ok (.getfield 240, 3) := dAt (x := (24, .getfield 240, 3)) DX11_winsBy_0 20 rfl
theorem dX11_winsBy_27 : decode cX11_winsBy 27 = .ok (.if_icmp .ge 32, 3) := dAt (x := (27, .if_icmp .ge 32, 3)) DX11_winsBy_0 21 rfl
theorem dX11_winsBy_30 : decode cX11_winsBy 30 = .ok (.iload_n 2, 1) := dAt (x := (30, .iload_n 2, 1)) DX11_winsBy_0 22 rfl
theorem dX11_winsBy_31 : decode cX11_winsBy 31 = .ok (.iload_n 3, 1) := dAt (x := (31, .iload_n 3, 1)) DX11_winsBy_0 23 rfl
theorem dX11_winsBy_32 : decode cX11_winsBy 32 = .ok (.invokestatic 372, 3) := dAt (x := (32, .invokestatic 372, 3)) DX11_winsBy_0 24 rfl
theorem dX11_winsBy_35 : decode cX11_winsBy 35 = .ok (.ifCond .eq 18, 3) := dAt (x := (35, .ifCond .eq 18, 3)) DX11_winsBy_0 25 rfl
theorem dX11_winsBy_38 : decode cX11_winsBy 38 = .ok (.aload_n 0, 1) := dAt (x := (38, .aload_n 0, 1)) DX11_winsBy_0 26 rfl
theorem dX11_winsBy_39 : decode cX11_winsBy 39 = .ok (.getfield 130, 3) := dAt (x := (39, .getfield 130, 3)) DX11_winsBy_0 27 rfl
theorem dX11_winsBy_42 : decode cX11_winsBy 42 = .ok (.iload_n 1, 1) := dAt (x := (42, .iload_n 1, 1)) DX11_winsBy_0 28 rfl
theorem dX11_winsBy_43 : decode cX11_winsBy 43 = .ok (.iconst 1, 1) := dAt (x := (43, .iconst 1, 1)) DX11_winsBy_0 29 rfl
theorem dX11_winsBy_44 : decode cX11_winsBy 44 = .ok (.iload_n 3, 1) := dAt (x := (44, .iload_n 3, 1)) DX11_winsBy_0 30 rfl
theorem dX11_winsBy_45 : decode cX11_winsBy 45 = .ok (.ishl, 1) := dAt (x := (45, .ishl, 1)) DX11_winsBy_0 31 rfl
theorem dX11_winsBy_46 : decode cX11_winsBy 46 = .ok (.ior, 1) := dAt (x := (46, .ior, 1)) DX11_winsBy_0 32 rfl
theorem dX11_winsBy_47 : decode cX11_winsBy 47 = .ok (.baload, 1) := dAt (x := (47, .baload, 1)) DX11_winsBy_0 33 rfl
theorem dX11_winsBy_48 : decode cX11_winsBy 48 = .ok (.ifCond .ne 5, 3) := dAt (x := (48, .ifCond .ne 5, 3)) DX11_winsBy_0 34 rfl
theorem dX11_winsBy_51 : decode cX11_winsBy 51 = .ok (.iload_n 3, 1) := dAt (x := (51, .iload_n 3, 1)) DX11_winsBy_0 35 rfl
theorem dX11_winsBy_52 : decode cX11_winsBy 52 = .ok (.ireturn, 1) := dAt (x := (52, .ireturn, 1)) DX11_winsBy_0 36 rfl
theorem dX11_winsBy_53 : decode cX11_winsBy 53 = .ok (.iinc 3 1, 3) := dAt (x := (53, .iinc 3 1, 3)) DX11_winsBy_0 37 rfl
theorem dX11_winsBy_56 : decode cX11_winsBy 56 = .ok (.goto (-34), 3) := dAt (x := (56, .goto (-34), 3)) DX11_winsBy_0 38 rfl
theorem dX11_winsBy_59 : decode cX11_winsBy 59 = .ok (.iconst (-1), 1) := dAt (x := (59, .iconst (-1), 1)) DX11_winsBy_0 39 rfl
theorem dX11_winsBy_60 : decode cX11_winsBy 60 = .ok (.ireturn, 1) := dAt (x := (60, .ireturn, 1)) DX11_winsBy_0 40 rfl
def lDX11_game_0 : List (Nat × Instr × Nat) := [(0, .aload_n 0, 1), (1, .iconst 0, 1), (2, .putfield 160, 3), (5, .iload_n 1, 1), (6, .iconst 0, 1), (7, .iconst 1, 1), (8, .invokestatic 205, 3), (11, .ifCond .ne 5, 3), (14, .iconst (-1), 1), (15, .ireturn, 1), (16, .iconst 1, 1), (17, .aload_n 0, 1), (18, .getfield 240, 3), (21, .ishl, 1), (22, .iconst 1, 1), (23, .isub, 1), (24, .istore_n 2, 1), (25, .iload_n 2, 1), (26, .ifCond .lt 28, 3), (29, .aload_n 0, 1), (30, .getfield 130, 3), (33, .iload_n 2, 1), (34, .aload_n 0, 1), (35, .iload_n 2, 1), (36, .invokevirtual 487, 3), (39, .ifCond .lt 7, 3), (42, .iconst 1, 1), (43, .goto 4, 3), (46, .iconst 0, 1), (47, .bastore, 1), (48, .iinc 2 (-1), 3), (51, .goto (-26), 3), (54, .aload_n 0, 1), (55, .aload_n 0, 1), (56, .getfield 94, 3), (59, .iconst 0, 1), (60, .iaload, 1), (61, .invokevirtual 487, 3), (64, .istore_n 2, 1), (65, .iload_n 1, 1), (66, .ifCond .ne 15, 3), (69, .iload_n 2, 1), (70, .ifCond .ge 7, 3), (73, .iconst 1, 1), (74, .goto 17, 3), (77, .iconst 0, 1), (78, .goto 13, 3), (81, .iload_n 2, 1), (82, .ifCond .ge 8, 3), (85, .bipush (-2), 2), (87, .goto 4, 3), (90, .iload_n 2, 1), (91, .ireturn, 1)]
theorem DX11_game_0 : dAll cX11_game lDX11_game_0 = true := by decide +kernel
theorem dX11_game_0 : decode cX11_game 0 = .ok (.aload_n 0, 1) := dAt (x := (0, .aload_n 0, 1)) DX11_game_0 0 rfl
theorem dX11_game_1 : decode cX11_game 1 = .ok (.iconst 0, 1) := dAt (x := (1, .iconst 0, 1)) DX11_game_0 1 rfl
theorem dX11_game_2 : decode cX11_game 2 = .ok (.putfield 160, 3) := dAt (x := (2, .putfield 160, 3)) DX11_game_0 2 rfl
theorem dX11_game_5 : decode cX11_game 5 = .ok (.iload_n 1, 1) := dAt (x := (5, .iload_n 1, 1)) DX11_game_0 3 rfl
theorem dX11_game_6 : decode cX11_game 6 = .ok (.iconst 0, 1) := dAt (x := (6, .iconst 0, 1)) DX11_game_0 4 rfl
theorem dX11_game_7 : decode cX11_game 7 = .ok (.iconst 1, 1) := dAt (x := (7, .iconst 1, 1)) DX11_game_0 5 rfl
theorem dX11_game_8 : decode cX11_game 8 = .ok (.invokestatic 205, 3) := dAt (x := (8, .invokestatic 205, 3)) DX11_game_0 6 rfl
theorem dX11_game_11 : decode cX11_game 11 = .ok (.ifCond .ne 5, 3) := dAt (x := (11, .ifCond .ne 5, 3)) DX11_game_0 7 rfl
theorem dX11_game_14 : decode cX11_game 14 = .ok (.iconst (-1), 1) := dAt (x := (14, .iconst (-1), 1)) DX11_game_0 8 rfl
theorem dX11_game_15 : decode cX11_game 15 = .ok (.ireturn, 1) := dAt (x := (15, .ireturn, 1)) DX11_game_0 9 rfl
theorem dX11_game_16 : decode cX11_game 16 = .ok (.iconst 1, 1) := dAt (x := (16, .iconst 1, 1)) DX11_game_0 10 rfl
theorem dX11_game_17 : decode cX11_game 17 = .ok (.aload_n 0, 1) := dAt (x := (17, .aload_n 0, 1)) DX11_game_0 11 rfl
theorem dX11_game_18 : decode cX11_game 18 = .ok (.getfield 240, 3) := dAt (x := (18, .getfield 240, 3)) DX11_game_0 12 rfl
theorem dX11_game_21 : decode cX11_game 21 = .ok (.ishl, 1) := dAt (x := (21, .ishl, 1)) DX11_game_0 13 rfl
theorem dX11_game_22 : decode cX11_game 22 = .ok (.iconst 1, 1) := dAt (x := (22, .iconst 1, 1)) DX11_game_0 14 rfl
theorem dX11_game_23 : decode cX11_game 23 = .ok (.isub, 1) := dAt (x := (23, .isub, 1)) DX11_game_0 15 rfl
theorem dX11_game_24 : decode cX11_game 24 = .ok (.istore_n 2, 1) := dAt (x := (24, .istore_n 2, 1)) DX11_game_0 16 rfl
theorem dX11_game_25 : decode cX11_game 25 = .ok (.iload_n 2, 1) := dAt (x := (25, .iload_n 2, 1)) DX11_game_0 17 rfl
theorem dX11_game_26 : decode cX11_game 26 = .ok (.ifCond .lt 28, 3) := dAt (x := (26, .ifCond .lt 28, 3)) DX11_game_0 18 rfl
theorem dX11_game_29 : decode cX11_game 29 = .ok (.aload_n 0, 1) := dAt (x := (29, .aload_n 0, 1)) DX11_game_0 19 rfl
theorem dX11_game_30 : decode cX11_game 30 = .ok (.getfield 130, 3) := dAt (x := (30, .getfield 130, 3)) DX11_game_0 20 rfl
theorem dX11_game_33 : decode cX11_game 33 = .ok (.iload_n 2, 1) := dAt (x := (33, .iload_n 2, 1)) DX11_game_0 21 rfl
theorem dX11_game_34 : decode cX11_game 34 = .ok (.aload_n 0, 1) := dAt (x := (34, .aload_n 0, 1)) DX11_game_0 22 rfl
theorem dX11_game_35 : decode cX11_game 35 = .ok (.iload_n 2, 1) := dAt (x := (35, .iload_n 2, 1)) DX11_game_0 23 rfl
theorem dX11_game_36 : decode cX11_game 36 = .ok (.invokevirtual 487, 3) := dAt (x := (36, .invokevirtual 487, 3)) DX11_game_0 24 rfl
theorem dX11_game_39 : decode cX11_game 39 = .ok (.ifCond .lt 7, 3) := dAt (x := (39, .ifCond .lt 7, 3)) DX11_game_0 25 rfl
theorem dX11_game_42 : decode cX11_game 42 = .ok (.iconst 1, 1) := dAt (x := (42, .iconst 1, 1)) DX11_game_0 26 rfl
theorem dX11_game_43 : decode cX11_game 43 = .ok (.goto 4, 3) := dAt (x := (43, .goto 4, 3)) DX11_game_0 27 rfl
theorem dX11_game_46 : decode cX11_game 46 = .ok (.iconst 0, 1) := dAt (x := (46, .iconst 0, 1)) DX11_game_0 28 rfl
theorem dX11_game_47 : decode cX11_game 47 = .ok (.bastore, 1) := dAt (x := (47, .bastore, 1)) DX11_game_0 29 rfl
theorem dX11_game_48 : decode cX11_game 48 = .ok (.iinc 2 (-1), 3) := dAt (x := (48, .iinc 2 (-1), 3)) DX11_game_0 30 rfl
theorem dX11_game_51 : decode cX11_game 51 = .ok (.goto (-26), 3) := dAt (x := (51, .goto (-26), 3)) DX11_game_0 31 rfl
theorem dX11_game_54 : decode cX11_game 54 = .ok (.aload_n 0, 1) := dAt (x := (54, .aload_n 0, 1)) DX11_game_0 32 rfl
theorem dX11_game_55 : decode cX11_game 55 = .ok (.aload_n 0, 1) := dAt (x := (55, .aload_n 0, 1)) DX11_game_0 33 rfl
theorem dX11_game_56 : decode cX11_game 56 = .ok (.getfield 94, 3) := dAt (x := (56, .getfield 94, 3)) DX11_game_0 34 rfl
theorem dX11_game_59 : decode cX11_game 59 = .ok (.iconst 0, 1) := dAt (x := (59, .iconst 0, 1)) DX11_game_0 35 rfl
theorem dX11_game_60 : decode cX11_game 60 = .ok (.iaload, 1) := dAt (x := (60, .iaload, 1)) DX11_game_0 36 rfl
theorem dX11_game_61 : decode cX11_game 61 = .ok (.invokevirtual 487, 3) := dAt (x := (61, .invokevirtual 487, 3)) DX11_game_0 37 rfl
theorem dX11_game_64 : decode cX11_game 64 = .ok (.istore_n 2, 1) := dAt (x := (64, .istore_n 2, 1)) DX11_game_0 38 rfl
theorem dX11_game_65 : decode cX11_game 65 = .ok (.iload_n 1, 1) := dAt (x := (65, .iload_n 1, 1)) DX11_game_0 39 rfl
theorem dX11_game_66 : decode cX11_game 66 = .ok (.ifCond .ne 15, 3) := dAt (x := (66, .ifCond .ne 15, 3)) DX11_game_0 40 rfl
theorem dX11_game_69 : decode cX11_game 69 = .ok (.iload_n 2, 1) := dAt (x := (69, .iload_n 2, 1)) DX11_game_0 41 rfl
theorem dX11_game_70 : decode cX11_game 70 = .ok (.ifCond .ge 7, 3) := dAt (x := (70, .ifCond .ge 7, 3)) DX11_game_0 42 rfl
theorem dX11_game_73 : decode cX11_game 73 = .ok (.iconst 1, 1) := dAt (x := (73, .iconst 1, 1)) DX11_game_0 43 rfl
theorem dX11_game_74 : decode cX11_game 74 = .ok (.goto 17, 3) := dAt (x := (74, .goto 17, 3)) DX11_game_0 44 rfl
theorem dX11_game_77 : decode cX11_game 77 = .ok (.iconst 0, 1) := dAt (x := (77, .iconst 0, 1)) DX11_game_0 45 rfl
theorem dX11_game_78 : decode cX11_game 78 = .ok (.goto 13, 3) := dAt (x := (78, .goto 13, 3)) DX11_game_0 46 rfl
theorem dX11_game_81 : decode cX11_game 81 = .ok (.iload_n 2, 1) := dAt (x := (81, .iload_n 2, 1)) DX11_game_0 47 rfl
theorem dX11_game_82 : decode cX11_game 82 = .ok (.ifCond .ge 8, 3) := dAt (x := (82, .ifCond .ge 8, 3)) DX11_game_0 48 rfl
theorem dX11_game_85 : decode cX11_game 85 = .ok (.bipush (-2), 2) := dAt (x := (85, .bipush (-2), 2)) DX11_game_0 49 rfl
theorem dX11_game_87 : decode cX11_game 87 = .ok (.goto 4, 3) := dAt (x := (87, .goto 4, 3)) DX11_game_0 50 rfl
theorem dX11_game_90 : decode cX11_game 90 = .ok (.iload_n 2, 1) := dAt (x := (90, .iload_n 2, 1)) DX11_game_0 51 rfl
theorem dX11_game_91 : decode cX11_game 91 = .ok (.ireturn, 1) := dAt (x := (91, .ireturn, 1)) DX11_game_0 52 rfl
def lDX11_shared_0 : List (Nat × Instr × Nat) := [(0, .lload_n 2, 1), (1, .lconst 0, 1), (2, .lcmp, 1), (3, .ifCond .eq 16, 3), (6, .lload_n 0, 1), (7, .lload_n 2, 1), (8, .lrem, 1), (9, .lstore 4, 2), (11, .lload_n 2, 1), (12, .lstore_n 0, 1), (13, .lload 4, 2), (15, .lstore_n 2, 1), (16, .goto (-16), 3), (19, .lload_n 0, 1), (20, .lreturn, 1)]
theorem DX11_shared_0 : dAll cX11_shared lDX11_shared_0 = true := by decide +kernel
theorem dX11_shared_0 : decode cX11_shared 0 = .ok (.lload_n 2, 1) := dAt (x := (0, .lload_n 2, 1)) DX11_shared_0 0 rfl
theorem dX11_shared_1 : decode cX11_shared 1 = .ok (.lconst 0, 1) := dAt (x := (1, .lconst 0, 1)) DX11_shared_0 1 rfl
theorem dX11_shared_2 : decode cX11_shared 2 = .ok (.lcmp, 1) := dAt (x := (2, .lcmp, 1)) DX11_shared_0 2 rfl
theorem dX11_shared_3 : decode cX11_shared 3 = .ok (.ifCond .eq 16, 3) := dAt (x := (3, .ifCond .eq 16, 3)) DX11_shared_0 3 rfl
theorem dX11_shared_6 : decode cX11_shared 6 = .ok (.lload_n 0, 1) := dAt (x := (6, .lload_n 0, 1)) DX11_shared_0 4 rfl
theorem dX11_shared_7 : decode cX11_shared 7 = .ok (.lload_n 2, 1) := dAt (x := (7, .lload_n 2, 1)) DX11_shared_0 5 rfl
theorem dX11_shared_8 : decode cX11_shared 8 = .ok (.lrem, 1) := dAt (x := (8, .lrem, 1)) DX11_shared_0 6 rfl
theorem dX11_shared_9 : decode cX11_shared 9 = .ok (.lstore 4, 2) := dAt (x := (9, .lstore 4, 2)) DX11_shared_0 7 rfl
theorem dX11_shared_11 : decode cX11_shared 11 = .ok (.lload_n 2, 1) := dAt (x := (11, .lload_n 2, 1)) DX11_shared_0 8 rfl
theorem dX11_shared_12 : decode cX11_shared 12 = .ok (.lstore_n 0, 1) := dAt (x := (12, .lstore_n 0, 1)) DX11_shared_0 9 rfl
theorem dX11_shared_13 : decode cX11_shared 13 = .ok (.lload 4, 2) := dAt (x := (13, .lload 4, 2)) DX11_shared_0 10 rfl
theorem dX11_shared_15 : decode cX11_shared 15 = .ok (.lstore_n 2, 1) := dAt (x := (15, .lstore_n 2, 1)) DX11_shared_0 11 rfl
theorem dX11_shared_16 : decode cX11_shared 16 = .ok (.goto (-16), 3) := dAt (x := (16, .goto (-16), 3)) DX11_shared_0 12 rfl
theorem dX11_shared_19 : decode cX11_shared 19 = .ok (.lload_n 0, 1) := dAt (x := (19, .lload_n 0, 1)) DX11_shared_0 13 rfl
theorem dX11_shared_20 : decode cX11_shared 20 = .ok (.lreturn, 1) := dAt (x := (20, .lreturn, 1)) DX11_shared_0 14 rfl
def lDX11_drunk_0 : List (Nat × Instr × Nat) := [(0, .aload_n 0, 1), (1, .iconst 0, 1), (2, .putfield 160, 3), (5, .aload_n 0, 1), (6, .iload_n 1, 1), (7, .invokevirtual 462, 3), (10, .ifCond .eq 21, 3), (13, .iload_n 2, 1), (14, .iconst 0, 1), (15, .iconst 5, 1), (16, .invokestatic 205, 3), (19, .ifCond .eq 12, 3), (22, .iload_n 3, 1), (23, .iconst 0, 1), (24, .iconst 1, 1), (25, .invokestatic 205, 3), (28, .ifCond .ne 7, 3), (31, .ldc2_w 490, 3), (34, .lreturn, 1), (35, .iconst 0, 1), (36, .istore 4, 2), (38, .iload 4, 2), (40, .sipush 256, 3), (43, .if_icmp .ge 17, 3), (46, .aload_n 0, 1), (47, .getfield 133, 3), (50, .iload 4, 2), (52, .lconst 0, 1), (53, .lastore, 1), (54, .iinc 4 1, 3), (57, .goto (-19), 3), (60, .aload_n 0, 1), (61, .getfield 133, 3), (64, .aload_n 0, 1), (65, .getfield 94, 3), (68, .iconst 0, 1), (69, .iaload, 1), (70, .lconst 1, 1), (71, .lastore, 1), (72, .lconst 1, 1), (73, .lstore 4, 2), (75, .iconst 0, 1), (76, .istore 6, 2), (78, .iload 6, 2), (80, .iload_n 2, 1), (81, .if_icmp .ge 202, 3), (84, .iconst 0, 1), (85, .istore 7, 2), (87, .iload 7, 2), (89, .sipush 256, 3), (92, .if_icmp .ge 17, 3), (95, .aload_n 0, 1), (96, .getfield 136, 3), (99, .iload 7, 2), (101, .lconst 0, 1), (102, .lastore, 1), (103, .iinc 7 1, 3), (106, .goto (-19), 3), (109, .iconst 0, 1), (110, .istore 7, 2)]
theorem DX11_drunk_0 : dAll cX11_drunk lDX11_drunk_0 = true := by decide +kernel
theorem dX11_drunk_0 : decode cX11_drunk 0 = .ok (.aload_n 0, 1) := dAt (x := (0, .aload_n 0, 1)) DX11_drunk_0 0 rfl
theorem dX11_drunk_1 : decode cX11_drunk 1 = .ok (.iconst 0, 1) := dAt (x := (1, .iconst 0, 1)) DX11_drunk_0 1 rfl
theorem dX11_drunk_2 : decode cX11_drunk 2 = .ok (.putfield 160, 3) := dAt (x := (2, .putfield 160, 3)) DX11_drunk_0 2 rfl
theorem dX11_drunk_5 : decode cX11_drunk 5 = .ok (.aload_n 0, 1) := dAt (x := (5, .aload_n 0, 1)) DX11_drunk_0 3 rfl
theorem dX11_drunk_6 : decode cX11_drunk 6 = .ok (.iload_n 1, 1) := dAt (x := (6, .iload_n 1, 1)) DX11_drunk_0 4 rfl
theorem dX11_drunk_7 : decode cX11_drunk 7 = .ok (.invokevirtual 462, 3) := dAt (x := (7, .invokevirtual 462, 3)) DX11_drunk_0 5 rfl
theorem dX11_drunk_10 : decode cX11_drunk 10 = .ok (.ifCond .eq 21, 3) := dAt (x := (10, .ifCond .eq 21, 3)) DX11_drunk_0 6 rfl
theorem dX11_drunk_13 : decode cX11_drunk 13 = .ok (.iload_n 2, 1) := dAt (x := (13, .iload_n 2, 1)) DX11_drunk_0 7 rfl
theorem dX11_drunk_14 : decode cX11_drunk 14 = .ok (.iconst 0, 1) := dAt (x := (14, .iconst 0, 1)) DX11_drunk_0 8 rfl
theorem dX11_drunk_15 : decode cX11_drunk 15 = .ok (.iconst 5, 1) := dAt (x := (15, .iconst 5, 1)) DX11_drunk_0 9 rfl
theorem dX11_drunk_16 : decode cX11_drunk 16 = .ok (.invokestatic 205, 3) := dAt (x := (16, .invokestatic 205, 3)) DX11_drunk_0 10 rfl
theorem dX11_drunk_19 : decode cX11_drunk 19 = .ok (.ifCond .eq 12, 3) := dAt (x := (19, .ifCond .eq 12, 3)) DX11_drunk_0 11 rfl
theorem dX11_drunk_22 : decode cX11_drunk 22 = .ok (.iload_n 3, 1) := dAt (x := (22, .iload_n 3, 1)) DX11_drunk_0 12 rfl
theorem dX11_drunk_23 : decode cX11_drunk 23 = .ok (.iconst 0, 1) := dAt (x := (23, .iconst 0, 1)) DX11_drunk_0 13 rfl
theorem dX11_drunk_24 : decode cX11_drunk 24 = .ok (.iconst 1, 1) := dAt (x := (24, .iconst 1, 1)) DX11_drunk_0 14 rfl
theorem dX11_drunk_25 : decode cX11_drunk 25 = .ok (.invokestatic 205, 3) := dAt (x := (25, .invokestatic 205, 3)) DX11_drunk_0 15 rfl
theorem dX11_drunk_28 : decode cX11_drunk 28 = .ok (.ifCond .ne 7, 3) := dAt (x := (28, .ifCond .ne 7, 3)) DX11_drunk_0 16 rfl
theorem dX11_drunk_31 : decode cX11_drunk 31 = .ok (.ldc2_w 490, 3) := dAt (x := (31, .ldc2_w 490, 3)) DX11_drunk_0 17 rfl
theorem dX11_drunk_34 : decode cX11_drunk 34 = .ok (.lreturn, 1) := dAt (x := (34, .lreturn, 1)) DX11_drunk_0 18 rfl
theorem dX11_drunk_35 : decode cX11_drunk 35 = .ok (.iconst 0, 1) := dAt (x := (35, .iconst 0, 1)) DX11_drunk_0 19 rfl
theorem dX11_drunk_36 : decode cX11_drunk 36 = .ok (.istore 4, 2) := dAt (x := (36, .istore 4, 2)) DX11_drunk_0 20 rfl
theorem dX11_drunk_38 : decode cX11_drunk 38 = .ok (.iload 4, 2) := dAt (x := (38, .iload 4, 2)) DX11_drunk_0 21 rfl
theorem dX11_drunk_40 : decode cX11_drunk 40 = .ok (.sipush 256, 3) := dAt (x := (40, .sipush 256, 3)) DX11_drunk_0 22 rfl
theorem dX11_drunk_43 : decode cX11_drunk 43 = .ok (.if_icmp .ge 17, 3) := dAt (x := (43, .if_icmp .ge 17, 3)) DX11_drunk_0 23 rfl
theorem dX11_drunk_46 : decode cX11_drunk 46 = .ok (.aload_n 0, 1) := dAt (x := (46, .aload_n 0, 1)) DX11_drunk_0 24 rfl
theorem dX11_drunk_47 : decode cX11_drunk 47 = .ok (.getfield 133, 3) := dAt (x := (47, .getfield 133, 3)) DX11_drunk_0 25 rfl
theorem dX11_drunk_50 : decode cX11_drunk 50 = .ok (.iload 4, 2) := dAt (x := (50, .iload 4, 2)) DX11_drunk_0 26 rfl
theorem dX11_drunk_52 : decode cX11_drunk 52 = .ok (.lconst 0, 1) := dAt (x := (52, .lconst 0, 1)) DX11_drunk_0 27 rfl
theorem dX11_drunk_53 : decode cX11_drunk 53 = .ok (.lastore, 1) := dAt (x := (53, .lastore, 1)) DX11_drunk_0 28 rfl
theorem dX11_drunk_54 : decode cX11_drunk 54 = .ok (.iinc 4 1, 3) := dAt (x := (54, .iinc 4 1, 3)) DX11_drunk_0 29 rfl
theorem dX11_drunk_57 : decode cX11_drunk 57 = .ok (.goto (-19), 3) := dAt (x := (57, .goto (-19), 3)) DX11_drunk_0 30 rfl
theorem dX11_drunk_60 : decode cX11_drunk 60 = .ok (.aload_n 0, 1) := dAt (x := (60, .aload_n 0, 1)) DX11_drunk_0 31 rfl
theorem dX11_drunk_61 : decode cX11_drunk 61 = .ok (.getfield 133, 3) := dAt (x := (61, .getfield 133, 3)) DX11_drunk_0 32 rfl
theorem dX11_drunk_64 : decode cX11_drunk 64 = .ok (.aload_n 0, 1) := dAt (x := (64, .aload_n 0, 1)) DX11_drunk_0 33 rfl
theorem dX11_drunk_65 : decode cX11_drunk 65 = .ok (.getfield 94, 3) := dAt (x := (65, .getfield 94, 3)) DX11_drunk_0 34 rfl
theorem dX11_drunk_68 : decode cX11_drunk 68 = .ok (.iconst 0, 1) := dAt (x := (68, .iconst 0, 1)) DX11_drunk_0 35 rfl
theorem dX11_drunk_69 : decode cX11_drunk 69 = .ok (.iaload, 1) := dAt (x := (69, .iaload, 1)) DX11_drunk_0 36 rfl
theorem dX11_drunk_70 : decode cX11_drunk 70 = .ok (.lconst 1, 1) := dAt (x := (70, .lconst 1, 1)) DX11_drunk_0 37 rfl
theorem dX11_drunk_71 : decode cX11_drunk 71 = .ok (.lastore, 1) := dAt (x := (71, .lastore, 1)) DX11_drunk_0 38 rfl
theorem dX11_drunk_72 : decode cX11_drunk 72 = .ok (.lconst 1, 1) := dAt (x := (72, .lconst 1, 1)) DX11_drunk_0 39 rfl
theorem dX11_drunk_73 : decode cX11_drunk 73 = .ok (.lstore 4, 2) := dAt (x := (73, .lstore 4, 2)) DX11_drunk_0 40 rfl
theorem dX11_drunk_75 : decode cX11_drunk 75 = .ok (.iconst 0, 1) := dAt (x := (75, .iconst 0, 1)) DX11_drunk_0 41 rfl
theorem dX11_drunk_76 : decode cX11_drunk 76 = .ok (.istore 6, 2) := dAt (x := (76, .istore 6, 2)) DX11_drunk_0 42 rfl
theorem dX11_drunk_78 : decode cX11_drunk 78 = .ok (.iload 6, 2) := dAt (x := (78, .iload 6, 2)) DX11_drunk_0 43 rfl
theorem dX11_drunk_80 : decode cX11_drunk 80 = .ok (.iload_n 2, 1) := dAt (x := (80, .iload_n 2, 1)) DX11_drunk_0 44 rfl
theorem dX11_drunk_81 : decode cX11_drunk 81 = .ok (.if_icmp .ge 202, 3) := dAt (x := (81, .if_icmp .ge 202, 3)) DX11_drunk_0 45 rfl
theorem dX11_drunk_84 : decode cX11_drunk 84 = .ok (.iconst 0, 1) := dAt (x := (84, .iconst 0, 1)) DX11_drunk_0 46 rfl
theorem dX11_drunk_85 : decode cX11_drunk 85 = .ok (.istore 7, 2) := dAt (x := (85, .istore 7, 2)) DX11_drunk_0 47 rfl
theorem dX11_drunk_87 : decode cX11_drunk 87 = .ok (.iload 7, 2) := dAt (x := (87, .iload 7, 2)) DX11_drunk_0 48 rfl
theorem dX11_drunk_89 : decode cX11_drunk 89 = .ok (.sipush 256, 3) := dAt (x := (89, .sipush 256, 3)) DX11_drunk_0 49 rfl
theorem dX11_drunk_92 : decode cX11_drunk 92 = .ok (.if_icmp .ge 17, 3) := dAt (x := (92, .if_icmp .ge 17, 3)) DX11_drunk_0 50 rfl
theorem dX11_drunk_95 : decode cX11_drunk 95 = .ok (.aload_n 0, 1) := dAt (x := (95, .aload_n 0, 1)) DX11_drunk_0 51 rfl
theorem dX11_drunk_96 : decode cX11_drunk 96 = .ok (.getfield 136, 3) := dAt (x := (96, .getfield 136, 3)) DX11_drunk_0 52 rfl
theorem dX11_drunk_99 : decode cX11_drunk 99 = .ok (.iload 7, 2) := dAt (x := (99, .iload 7, 2)) DX11_drunk_0 53 rfl
theorem dX11_drunk_101 : decode cX11_drunk 101 = .ok (.lconst 0, 1) := dAt (x := (101, .lconst 0, 1)) DX11_drunk_0 54 rfl
theorem dX11_drunk_102 : decode cX11_drunk 102 = .ok (.lastore, 1) := dAt (x := (102, .lastore, 1)) DX11_drunk_0 55 rfl
theorem dX11_drunk_103 : decode cX11_drunk 103 = .ok (.iinc 7 1, 3) := dAt (x := (103, .iinc 7 1, 3)) DX11_drunk_0 56 rfl
theorem dX11_drunk_106 : decode cX11_drunk 106 = .ok (.goto (-19), 3) := dAt (x := (106, .goto (-19), 3)) DX11_drunk_0 57 rfl
theorem dX11_drunk_109 : decode cX11_drunk 109 = .ok (.iconst 0, 1) := dAt (x := (109, .iconst 0, 1)) DX11_drunk_0 58 rfl
theorem dX11_drunk_110 : decode cX11_drunk 110 = .ok (.istore 7, 2) := dAt (x := (110, .istore 7, 2)) DX11_drunk_0 59 rfl
def lDX11_drunk_1 : List (Nat × Instr × Nat) := [(112, .iload 7, 2), (114, .iconst 1, 1), (115, .aload_n 0, 1), (116, .getfield 240, 3), (119, .ishl, 1), (120, .if_icmp .ge 118, 3), (123, .aload_n 0, 1), (124, .getfield 88, 3), (127, .iload 7, 2), (129, .iaload, 1), (130, .aload_n 0, 1), (131, .getfield 97, 3), (134, .iconst 0, 1), (135, .iaload, 1), (136, .iconst (-1), 1), (137, .ixor, 1), (138, .iand, 1), (139, .istore 8, 2), (141, .iload 8, 2), (143, .ifCond .ne 24, 3), (146, .aload_n 0, 1), (147, .getfield 136, 3), (150, .iload 7, 2), (152, .dup2, 1), (153, .laload, 1), (154, .aload_n 0, 1), (155, .getfield 133, 3), (158, .iload 7, 2), (160, .laload, 1), (161, .ldc2_w 492, 3), (164, .lmul, 1), (165, .ladd, 1), (166, .lastore, 1), (167, .iconst 0, 1), (168, .istore 9, 2), (170, .iload 9, 2), (172, .aload_n 0, 1), (173, .getfield 240, 3), (176, .if_icmp .ge 56, 3), (179, .aload_n 0, 1), (180, .getfield 136, 3), (183, .iload 7, 2), (185, .iconst 1, 1), (186, .iload 9, 2), (188, .ishl, 1), (189, .ixor, 1), (190, .dup2, 1), (191, .laload, 1), (192, .iload 8, 2), (194, .iload 9, 2), (196, .invokestatic 372, 3), (199, .ifCond .eq 24, 3), (202, .aload_n 0, 1), (203, .getfield 133, 3), (206, .iload 7, 2), (208, .laload, 1), (209, .ldc2_w 492, 3), (212, .iload 8, 2), (214, .invokestatic 381, 3), (217, .i2l, 1)]
theorem DX11_drunk_1 : dAll cX11_drunk lDX11_drunk_1 = true := by decide +kernel
theorem dX11_drunk_112 : decode cX11_drunk 112 = .ok (.iload 7, 2) := dAt (x := (112, .iload 7, 2)) DX11_drunk_1 0 rfl
theorem dX11_drunk_114 : decode cX11_drunk 114 = .ok (.iconst 1, 1) := dAt (x := (114, .iconst 1, 1)) DX11_drunk_1 1 rfl
theorem dX11_drunk_115 : decode cX11_drunk 115 = .ok (.aload_n 0, 1) := dAt (x := (115, .aload_n 0, 1)) DX11_drunk_1 2 rfl
theorem dX11_drunk_116 : decode cX11_drunk 116 = .ok (.getfield 240, 3) := dAt (x := (116, .getfield 240, 3)) DX11_drunk_1 3 rfl
theorem dX11_drunk_119 : decode cX11_drunk 119 = .ok (.ishl, 1) := dAt (x := (119, .ishl, 1)) DX11_drunk_1 4 rfl
theorem dX11_drunk_120 : decode cX11_drunk 120 = .ok (.if_icmp .ge 118, 3) := dAt (x := (120, .if_icmp .ge 118, 3)) DX11_drunk_1 5 rfl
theorem dX11_drunk_123 : decode cX11_drunk 123 = .ok (.aload_n 0, 1) := dAt (x := (123, .aload_n 0, 1)) DX11_drunk_1 6 rfl
theorem dX11_drunk_124 : decode cX11_drunk 124 = .ok (.getfield 88, 3) := dAt (x := (124, .getfield 88, 3)) DX11_drunk_1 7 rfl
theorem dX11_drunk_127 : decode cX11_drunk 127 = .ok (.iload 7, 2) := dAt (x := (127, .iload 7, 2)) DX11_drunk_1 8 rfl
theorem dX11_drunk_129 : decode cX11_drunk 129 = .ok (.iaload, 1) := dAt (x := (129, .iaload, 1)) DX11_drunk_1 9 rfl
theorem dX11_drunk_130 : decode cX11_drunk 130 = .ok (.aload_n 0, 1) := dAt (x := (130, .aload_n 0, 1)) DX11_drunk_1 10 rfl
theorem dX11_drunk_131 : decode cX11_drunk 131 = .ok (.getfield 97, 3) := dAt (x := (131, .getfield 97, 3)) DX11_drunk_1 11 rfl
theorem dX11_drunk_134 : decode cX11_drunk 134 = .ok (.iconst 0, 1) := dAt (x := (134, .iconst 0, 1)) DX11_drunk_1 12 rfl
theorem dX11_drunk_135 : decode cX11_drunk 135 = .ok (.iaload, 1) := dAt (x := (135, .iaload, 1)) DX11_drunk_1 13 rfl
theorem dX11_drunk_136 : decode cX11_drunk 136 = .ok (.iconst (-1), 1) := dAt (x := (136, .iconst (-1), 1)) DX11_drunk_1 14 rfl
theorem dX11_drunk_137 : decode cX11_drunk 137 = .ok (.ixor, 1) := dAt (x := (137, .ixor, 1)) DX11_drunk_1 15 rfl
theorem dX11_drunk_138 : decode cX11_drunk 138 = .ok (.iand, 1) := dAt (x := (138, .iand, 1)) DX11_drunk_1 16 rfl
theorem dX11_drunk_139 : decode cX11_drunk 139 = .ok (.istore 8, 2) := dAt (x := (139, .istore 8, 2)) DX11_drunk_1 17 rfl
theorem dX11_drunk_141 : decode cX11_drunk 141 = .ok (.iload 8, 2) := dAt (x := (141, .iload 8, 2)) DX11_drunk_1 18 rfl
theorem dX11_drunk_143 : decode cX11_drunk 143 = .ok (.ifCond .ne 24, 3) := dAt (x := (143, .ifCond .ne 24, 3)) DX11_drunk_1 19 rfl
theorem dX11_drunk_146 : decode cX11_drunk 146 = .ok (.aload_n 0, 1) := dAt (x := (146, .aload_n 0, 1)) DX11_drunk_1 20 rfl
theorem dX11_drunk_147 : decode cX11_drunk 147 = .ok (.getfield 136, 3) := dAt (x := (147, .getfield 136, 3)) DX11_drunk_1 21 rfl
theorem dX11_drunk_150 : decode cX11_drunk 150 = .ok (.iload 7, 2) := dAt (x := (150, .iload 7, 2)) DX11_drunk_1 22 rfl
theorem dX11_drunk_152 : decode cX11_drunk 152 = .ok (.dup2, 1) := dAt (x := (152, .dup2, 1)) DX11_drunk_1 23 rfl
theorem dX11_drunk_153 : decode cX11_drunk 153 = .ok (.laload, 1) := dAt (x := (153, .laload, 1)) DX11_drunk_1 24 rfl
theorem dX11_drunk_154 : decode cX11_drunk 154 = .ok (.aload_n 0, 1) := dAt (x := (154, .aload_n 0, 1)) DX11_drunk_1 25 rfl
theorem dX11_drunk_155 : decode cX11_drunk 155 = .ok (.getfield 133, 3) := dAt (x := (155, .getfield 133, 3)) DX11_drunk_1 26 rfl
theorem dX11_drunk_158 : decode cX11_drunk 158 = .ok (.iload 7, 2) := dAt (x := (158, .iload 7, 2)) DX11_drunk_1 27 rfl
theorem dX11_drunk_160 : decode cX11_drunk 160 = .ok (.laload, 1) := dAt (x := (160, .laload, 1)) DX11_drunk_1 28 rfl
theorem dX11_drunk_161 : decode cX11_drunk 161 = .ok (.ldc2_w 492, 3) := dAt (x := (161, .ldc2_w 492, 3)) DX11_drunk_1 29 rfl
theorem dX11_drunk_164 : decode cX11_drunk 164 = .ok (.lmul, 1) := dAt (x := (164, .lmul, 1)) DX11_drunk_1 30 rfl
theorem dX11_drunk_165 : decode cX11_drunk 165 = .ok (.ladd, 1) := dAt (x := (165, .ladd, 1)) DX11_drunk_1 31 rfl
theorem dX11_drunk_166 : decode cX11_drunk 166 = .ok (.lastore, 1) := dAt (x := (166, .lastore, 1)) DX11_drunk_1 32 rfl
theorem dX11_drunk_167 : decode cX11_drunk 167 = .ok (.iconst 0, 1) := dAt (x := (167, .iconst 0, 1)) DX11_drunk_1 33 rfl
theorem dX11_drunk_168 : decode cX11_drunk 168 = .ok (.istore 9, 2) := dAt (x := (168, .istore 9, 2)) DX11_drunk_1 34 rfl
theorem dX11_drunk_170 : decode cX11_drunk 170 = .ok (.iload 9, 2) := dAt (x := (170, .iload 9, 2)) DX11_drunk_1 35 rfl
theorem dX11_drunk_172 : decode cX11_drunk 172 = .ok (.aload_n 0, 1) := dAt (x := (172, .aload_n 0, 1)) DX11_drunk_1 36 rfl
theorem dX11_drunk_173 : decode cX11_drunk 173 = .ok (.getfield 240, 3) := dAt (x := (173, .getfield 240, 3)) DX11_drunk_1 37 rfl
theorem dX11_drunk_176 : decode cX11_drunk 176 = .ok (.if_icmp .ge 56, 3) := dAt (x := (176, .if_icmp .ge 56, 3)) DX11_drunk_1 38 rfl
theorem dX11_drunk_179 : decode cX11_drunk 179 = .ok (.aload_n 0, 1) := dAt (x := (179, .aload_n 0, 1)) DX11_drunk_1 39 rfl
theorem dX11_drunk_180 : decode cX11_drunk 180 = .ok (.getfield 136, 3) := dAt (x := (180, .getfield 136, 3)) DX11_drunk_1 40 rfl
theorem dX11_drunk_183 : decode cX11_drunk 183 = .ok (.iload 7, 2) := dAt (x := (183, .iload 7, 2)) DX11_drunk_1 41 rfl
theorem dX11_drunk_185 : decode cX11_drunk 185 = .ok (.iconst 1, 1) := dAt (x := (185, .iconst 1, 1)) DX11_drunk_1 42 rfl
theorem dX11_drunk_186 : decode cX11_drunk 186 = .ok (.iload 9, 2) := dAt (x := (186, .iload 9, 2)) DX11_drunk_1 43 rfl
theorem dX11_drunk_188 : decode cX11_drunk 188 = .ok (.ishl, 1) := dAt (x := (188, .ishl, 1)) DX11_drunk_1 44 rfl
theorem dX11_drunk_189 : decode cX11_drunk 189 = .ok (.ixor, 1) := dAt (x := (189, .ixor, 1)) DX11_drunk_1 45 rfl
theorem dX11_drunk_190 : decode cX11_drunk 190 = .ok (.dup2, 1) := dAt (x := (190, .dup2, 1)) DX11_drunk_1 46 rfl
theorem dX11_drunk_191 : decode cX11_drunk 191 = .ok (.laload, 1) := dAt (x := (191, .laload, 1)) DX11_drunk_1 47 rfl
theorem dX11_drunk_192 : decode cX11_drunk 192 = .ok (.iload 8, 2) := dAt (x := (192, .iload 8, 2)) DX11_drunk_1 48 rfl
theorem dX11_drunk_194 : decode cX11_drunk 194 = .ok (.iload 9, 2) := dAt (x := (194, .iload 9, 2)) DX11_drunk_1 49 rfl
theorem dX11_drunk_196 : decode cX11_drunk 196 = .ok (.invokestatic 372, 3) := dAt (x := (196, .invokestatic 372, 3)) DX11_drunk_1 50 rfl
theorem dX11_drunk_199 : decode cX11_drunk 199 = .ok (.ifCond .eq 24, 3) := dAt (x := (199, .ifCond .eq 24, 3)) DX11_drunk_1 51 rfl
theorem dX11_drunk_202 : decode cX11_drunk 202 = .ok (.aload_n 0, 1) := dAt (x := (202, .aload_n 0, 1)) DX11_drunk_1 52 rfl
theorem dX11_drunk_203 : decode cX11_drunk 203 = .ok (.getfield 133, 3) := dAt (x := (203, .getfield 133, 3)) DX11_drunk_1 53 rfl
theorem dX11_drunk_206 : decode cX11_drunk 206 = .ok (.iload 7, 2) := dAt (x := (206, .iload 7, 2)) DX11_drunk_1 54 rfl
theorem dX11_drunk_208 : decode cX11_drunk 208 = .ok (.laload, 1) := dAt (x := (208, .laload, 1)) DX11_drunk_1 55 rfl
theorem dX11_drunk_209 : decode cX11_drunk 209 = .ok (.ldc2_w 492, 3) := dAt (x := (209, .ldc2_w 492, 3)) DX11_drunk_1 56 rfl
theorem dX11_drunk_212 : decode cX11_drunk 212 = .ok (.iload 8, 2) := dAt (x := (212, .iload 8, 2)) DX11_drunk_1 57 rfl
theorem dX11_drunk_214 : decode cX11_drunk 214 = .ok (.invokestatic 381, 3) := dAt (x := (214, .invokestatic 381, 3)) DX11_drunk_1 58 rfl
theorem dX11_drunk_217 : decode cX11_drunk 217 = .ok (.i2l, 1) := dAt (x := (217, .i2l, 1)) DX11_drunk_1 59 rfl
def lDX11_drunk_2 : List (Nat × Instr × Nat) := [(218, .ldiv, 1), (219, .lmul, 1), (220, .goto 4, 3), (223, .lconst 0, 1), (224, .ladd, 1), (225, .lastore, 1), (226, .iinc 9 1, 3), (229, .goto (-59), 3), (232, .iinc 7 1, 3), (235, .goto (-123), 3), (238, .iconst 0, 1), (239, .istore 7, 2), (241, .iload 7, 2), (243, .sipush 256, 3), (246, .if_icmp .ge 23, 3), (249, .aload_n 0, 1), (250, .getfield 133, 3), (253, .iload 7, 2), (255, .aload_n 0, 1), (256, .getfield 136, 3), (259, .iload 7, 2), (261, .laload, 1), (262, .lastore, 1), (263, .iinc 7 1, 3), (266, .goto (-25), 3), (269, .lload 4, 2), (271, .ldc2_w 492, 3), (274, .lmul, 1), (275, .lstore 4, 2), (277, .iinc 6 1, 3), (280, .goto (-202), 3), (283, .lload 4, 2), (285, .aload_n 0, 1), (286, .getfield 133, 3), (289, .iload_n 1, 1), (290, .laload, 1), (291, .invokestatic 494, 3), (294, .lstore 6, 2), (296, .iload_n 3, 1), (297, .ifCond .ne 15, 3), (300, .aload_n 0, 1), (301, .getfield 133, 3), (304, .iload_n 1, 1), (305, .laload, 1), (306, .lload 6, 2), (308, .ldiv, 1), (309, .goto 8, 3), (312, .lload 4, 2), (314, .lload 6, 2), (316, .ldiv, 1), (317, .lreturn, 1)]
theorem DX11_drunk_2 : dAll cX11_drunk lDX11_drunk_2 = true := by decide +kernel
theorem dX11_drunk_218 : decode cX11_drunk 218 = .ok (.ldiv, 1) := dAt (x := (218, .ldiv, 1)) DX11_drunk_2 0 rfl
theorem dX11_drunk_219 : decode cX11_drunk 219 = .ok (.lmul, 1) := dAt (x := (219, .lmul, 1)) DX11_drunk_2 1 rfl
theorem dX11_drunk_220 : decode cX11_drunk 220 = .ok (.goto 4, 3) := dAt (x := (220, .goto 4, 3)) DX11_drunk_2 2 rfl
theorem dX11_drunk_223 : decode cX11_drunk 223 = .ok (.lconst 0, 1) := dAt (x := (223, .lconst 0, 1)) DX11_drunk_2 3 rfl
theorem dX11_drunk_224 : decode cX11_drunk 224 = .ok (.ladd, 1) := dAt (x := (224, .ladd, 1)) DX11_drunk_2 4 rfl
theorem dX11_drunk_225 : decode cX11_drunk 225 = .ok (.lastore, 1) := dAt (x := (225, .lastore, 1)) DX11_drunk_2 5 rfl
theorem dX11_drunk_226 : decode cX11_drunk 226 = .ok (.iinc 9 1, 3) := dAt (x := (226, .iinc 9 1, 3)) DX11_drunk_2 6 rfl
theorem dX11_drunk_229 : decode cX11_drunk 229 = .ok (.goto (-59), 3) := dAt (x := (229, .goto (-59), 3)) DX11_drunk_2 7 rfl
theorem dX11_drunk_232 : decode cX11_drunk 232 = .ok (.iinc 7 1, 3) := dAt (x := (232, .iinc 7 1, 3)) DX11_drunk_2 8 rfl
theorem dX11_drunk_235 : decode cX11_drunk 235 = .ok (.goto (-123), 3) := dAt (x := (235, .goto (-123), 3)) DX11_drunk_2 9 rfl
theorem dX11_drunk_238 : decode cX11_drunk 238 = .ok (.iconst 0, 1) := dAt (x := (238, .iconst 0, 1)) DX11_drunk_2 10 rfl
theorem dX11_drunk_239 : decode cX11_drunk 239 = .ok (.istore 7, 2) := dAt (x := (239, .istore 7, 2)) DX11_drunk_2 11 rfl
theorem dX11_drunk_241 : decode cX11_drunk 241 = .ok (.iload 7, 2) := dAt (x := (241, .iload 7, 2)) DX11_drunk_2 12 rfl
theorem dX11_drunk_243 : decode cX11_drunk 243 = .ok (.sipush 256, 3) := dAt (x := (243, .sipush 256, 3)) DX11_drunk_2 13 rfl
theorem dX11_drunk_246 : decode cX11_drunk 246 = .ok (.if_icmp .ge 23, 3) := dAt (x := (246, .if_icmp .ge 23, 3)) DX11_drunk_2 14 rfl
theorem dX11_drunk_249 : decode cX11_drunk 249 = .ok (.aload_n 0, 1) := dAt (x := (249, .aload_n 0, 1)) DX11_drunk_2 15 rfl
theorem dX11_drunk_250 : decode cX11_drunk 250 = .ok (.getfield 133, 3) := dAt (x := (250, .getfield 133, 3)) DX11_drunk_2 16 rfl
theorem dX11_drunk_253 : decode cX11_drunk 253 = .ok (.iload 7, 2) := dAt (x := (253, .iload 7, 2)) DX11_drunk_2 17 rfl
theorem dX11_drunk_255 : decode cX11_drunk 255 = .ok (.aload_n 0, 1) := dAt (x := (255, .aload_n 0, 1)) DX11_drunk_2 18 rfl
theorem dX11_drunk_256 : decode cX11_drunk 256 = .ok (.getfield 136, 3) := dAt (x := (256, .getfield 136, 3)) DX11_drunk_2 19 rfl
theorem dX11_drunk_259 : decode cX11_drunk 259 = .ok (.iload 7, 2) := dAt (x := (259, .iload 7, 2)) DX11_drunk_2 20 rfl
theorem dX11_drunk_261 : decode cX11_drunk 261 = .ok (.laload, 1) := dAt (x := (261, .laload, 1)) DX11_drunk_2 21 rfl
theorem dX11_drunk_262 : decode cX11_drunk 262 = .ok (.lastore, 1) := dAt (x := (262, .lastore, 1)) DX11_drunk_2 22 rfl
theorem dX11_drunk_263 : decode cX11_drunk 263 = .ok (.iinc 7 1, 3) := dAt (x := (263, .iinc 7 1, 3)) DX11_drunk_2 23 rfl
theorem dX11_drunk_266 : decode cX11_drunk 266 = .ok (.goto (-25), 3) := dAt (x := (266, .goto (-25), 3)) DX11_drunk_2 24 rfl
theorem dX11_drunk_269 : decode cX11_drunk 269 = .ok (.lload 4, 2) := dAt (x := (269, .lload 4, 2)) DX11_drunk_2 25 rfl
theorem dX11_drunk_271 : decode cX11_drunk 271 = .ok (.ldc2_w 492, 3) := dAt (x := (271, .ldc2_w 492, 3)) DX11_drunk_2 26 rfl
theorem dX11_drunk_274 : decode cX11_drunk 274 = .ok (.lmul, 1) := dAt (x := (274, .lmul, 1)) DX11_drunk_2 27 rfl
theorem dX11_drunk_275 : decode cX11_drunk 275 = .ok (.lstore 4, 2) := dAt (x := (275, .lstore 4, 2)) DX11_drunk_2 28 rfl
theorem dX11_drunk_277 : decode cX11_drunk 277 = .ok (.iinc 6 1, 3) := dAt (x := (277, .iinc 6 1, 3)) DX11_drunk_2 29 rfl
theorem dX11_drunk_280 : decode cX11_drunk 280 = .ok (.goto (-202), 3) := dAt (x := (280, .goto (-202), 3)) DX11_drunk_2 30 rfl
theorem dX11_drunk_283 : decode cX11_drunk 283 = .ok (.lload 4, 2) := dAt (x := (283, .lload 4, 2)) DX11_drunk_2 31 rfl
theorem dX11_drunk_285 : decode cX11_drunk 285 = .ok (.aload_n 0, 1) := dAt (x := (285, .aload_n 0, 1)) DX11_drunk_2 32 rfl
theorem dX11_drunk_286 : decode cX11_drunk 286 = .ok (.getfield 133, 3) := dAt (x := (286, .getfield 133, 3)) DX11_drunk_2 33 rfl
theorem dX11_drunk_289 : decode cX11_drunk 289 = .ok (.iload_n 1, 1) := dAt (x := (289, .iload_n 1, 1)) DX11_drunk_2 34 rfl
theorem dX11_drunk_290 : decode cX11_drunk 290 = .ok (.laload, 1) := dAt (x := (290, .laload, 1)) DX11_drunk_2 35 rfl
theorem dX11_drunk_291 : decode cX11_drunk 291 = .ok (.invokestatic 494, 3) := dAt (x := (291, .invokestatic 494, 3)) DX11_drunk_2 36 rfl
theorem dX11_drunk_294 : decode cX11_drunk 294 = .ok (.lstore 6, 2) := dAt (x := (294, .lstore 6, 2)) DX11_drunk_2 37 rfl
theorem dX11_drunk_296 : decode cX11_drunk 296 = .ok (.iload_n 3, 1) := dAt (x := (296, .iload_n 3, 1)) DX11_drunk_2 38 rfl
theorem dX11_drunk_297 : decode cX11_drunk 297 = .ok (.ifCond .ne 15, 3) := dAt (x := (297, .ifCond .ne 15, 3)) DX11_drunk_2 39 rfl
theorem dX11_drunk_300 : decode cX11_drunk 300 = .ok (.aload_n 0, 1) := dAt (x := (300, .aload_n 0, 1)) DX11_drunk_2 40 rfl
theorem dX11_drunk_301 : decode cX11_drunk 301 = .ok (.getfield 133, 3) := dAt (x := (301, .getfield 133, 3)) DX11_drunk_2 41 rfl
theorem dX11_drunk_304 : decode cX11_drunk 304 = .ok (.iload_n 1, 1) := dAt (x := (304, .iload_n 1, 1)) DX11_drunk_2 42 rfl
theorem dX11_drunk_305 : decode cX11_drunk 305 = .ok (.laload, 1) := dAt (x := (305, .laload, 1)) DX11_drunk_2 43 rfl
theorem dX11_drunk_306 : decode cX11_drunk 306 = .ok (.lload 6, 2) := dAt (x := (306, .lload 6, 2)) DX11_drunk_2 44 rfl
theorem dX11_drunk_308 : decode cX11_drunk 308 = .ok (.ldiv, 1) := dAt (x := (308, .ldiv, 1)) DX11_drunk_2 45 rfl
theorem dX11_drunk_309 : decode cX11_drunk 309 = .ok (.goto 8, 3) := dAt (x := (309, .goto 8, 3)) DX11_drunk_2 46 rfl
theorem dX11_drunk_312 : decode cX11_drunk 312 = .ok (.lload 4, 2) := dAt (x := (312, .lload 4, 2)) DX11_drunk_2 47 rfl
theorem dX11_drunk_314 : decode cX11_drunk 314 = .ok (.lload 6, 2) := dAt (x := (314, .lload 6, 2)) DX11_drunk_2 48 rfl
theorem dX11_drunk_316 : decode cX11_drunk 316 = .ok (.ldiv, 1) := dAt (x := (316, .ldiv, 1)) DX11_drunk_2 49 rfl
theorem dX11_drunk_317 : decode cX11_drunk 317 = .ok (.lreturn, 1) := dAt (x := (317, .lreturn, 1)) DX11_drunk_2 50 rfl
def lDX11_holds_0 : List (Nat × Instr × Nat) := [(0, .aload_n 0, 1), (1, .iconst 0, 1), (2, .putfield 160, 3), (5, .iload_n 1, 1), (6, .iconst 0, 1), (7, .bipush 6, 2), (9, .invokestatic 205, 3), (12, .ifCond .eq 12, 3), (15, .iload_n 2, 1), (16, .iconst 0, 1), (17, .iconst 1, 1), (18, .invokestatic 205, 3), (21, .ifCond .ne 7, 3), (24, .ldc2_w 490, 3), (27, .lreturn, 1), (28, .lconst 1, 1), (29, .lstore_n 3, 1), (30, .lconst 1, 1), (31, .lstore 5, 2), (33, .iconst 0, 1), (34, .istore 7, 2), (36, .iload 7, 2), (38, .iload_n 1, 1), (39, .if_icmp .ge 30, 3), (42, .lload_n 3, 1), (43, .bipush 100, 2), (45, .aload_n 0, 1), (46, .getfield 24, 3), (49, .iconst 0, 1), (50, .iaload, 1), (51, .isub, 1), (52, .i2l, 1), (53, .lmul, 1), (54, .lstore_n 3, 1), (55, .lload 5, 2), (57, .ldc2_w 497, 3), (60, .lmul, 1), (61, .lstore 5, 2), (63, .iinc 7 1, 3), (66, .goto (-30), 3), (69, .lload 5, 2), (71, .lload_n 3, 1), (72, .invokestatic 494, 3), (75, .lstore 7, 2), (77, .iload_n 2, 1), (78, .ifCond .ne 10, 3), (81, .lload_n 3, 1), (82, .lload 7, 2), (84, .ldiv, 1), (85, .goto 8, 3), (88, .lload 5, 2), (90, .lload 7, 2), (92, .ldiv, 1), (93, .lreturn, 1)]
theorem DX11_holds_0 : dAll cX11_holds lDX11_holds_0 = true := by decide +kernel
theorem dX11_holds_0 : decode cX11_holds 0 = .ok (.aload_n 0, 1) := dAt (x := (0, .aload_n 0, 1)) DX11_holds_0 0 rfl
theorem dX11_holds_1 : decode cX11_holds 1 = .ok (.iconst 0, 1) := dAt (x := (1, .iconst 0, 1)) DX11_holds_0 1 rfl
theorem dX11_holds_2 : decode cX11_holds 2 = .ok (.putfield 160, 3) := dAt (x := (2, .putfield 160, 3)) DX11_holds_0 2 rfl
theorem dX11_holds_5 : decode cX11_holds 5 = .ok (.iload_n 1, 1) := dAt (x := (5, .iload_n 1, 1)) DX11_holds_0 3 rfl
theorem dX11_holds_6 : decode cX11_holds 6 = .ok (.iconst 0, 1) := dAt (x := (6, .iconst 0, 1)) DX11_holds_0 4 rfl
theorem dX11_holds_7 : decode cX11_holds 7 = .ok (.bipush 6, 2) := dAt (x := (7, .bipush 6, 2)) DX11_holds_0 5 rfl
theorem dX11_holds_9 : decode cX11_holds 9 = .ok (.invokestatic 205, 3) := dAt (x := (9, .invokestatic 205, 3)) DX11_holds_0 6 rfl
theorem dX11_holds_12 : decode cX11_holds 12 = .ok (.ifCond .eq 12, 3) := dAt (x := (12, .ifCond .eq 12, 3)) DX11_holds_0 7 rfl
theorem dX11_holds_15 : decode cX11_holds 15 = .ok (.iload_n 2, 1) := dAt (x := (15, .iload_n 2, 1)) DX11_holds_0 8 rfl
theorem dX11_holds_16 : decode cX11_holds 16 = .ok (.iconst 0, 1) := dAt (x := (16, .iconst 0, 1)) DX11_holds_0 9 rfl
theorem dX11_holds_17 : decode cX11_holds 17 = .ok (.iconst 1, 1) := dAt (x := (17, .iconst 1, 1)) DX11_holds_0 10 rfl
theorem dX11_holds_18 : decode cX11_holds 18 = .ok (.invokestatic 205, 3) := dAt (x := (18, .invokestatic 205, 3)) DX11_holds_0 11 rfl
theorem dX11_holds_21 : decode cX11_holds 21 = .ok (.ifCond .ne 7, 3) := dAt (x := (21, .ifCond .ne 7, 3)) DX11_holds_0 12 rfl
theorem dX11_holds_24 : decode cX11_holds 24 = .ok (.ldc2_w 490, 3) := dAt (x := (24, .ldc2_w 490, 3)) DX11_holds_0 13 rfl
theorem dX11_holds_27 : decode cX11_holds 27 = .ok (.lreturn, 1) := dAt (x := (27, .lreturn, 1)) DX11_holds_0 14 rfl
theorem dX11_holds_28 : decode cX11_holds 28 = .ok (.lconst 1, 1) := dAt (x := (28, .lconst 1, 1)) DX11_holds_0 15 rfl
theorem dX11_holds_29 : decode cX11_holds 29 = .ok (.lstore_n 3, 1) := dAt (x := (29, .lstore_n 3, 1)) DX11_holds_0 16 rfl
theorem dX11_holds_30 : decode cX11_holds 30 = .ok (.lconst 1, 1) := dAt (x := (30, .lconst 1, 1)) DX11_holds_0 17 rfl
theorem dX11_holds_31 : decode cX11_holds 31 = .ok (.lstore 5, 2) := dAt (x := (31, .lstore 5, 2)) DX11_holds_0 18 rfl
theorem dX11_holds_33 : decode cX11_holds 33 = .ok (.iconst 0, 1) := dAt (x := (33, .iconst 0, 1)) DX11_holds_0 19 rfl
theorem dX11_holds_34 : decode cX11_holds 34 = .ok (.istore 7, 2) := dAt (x := (34, .istore 7, 2)) DX11_holds_0 20 rfl
theorem dX11_holds_36 : decode cX11_holds 36 = .ok (.iload 7, 2) := dAt (x := (36, .iload 7, 2)) DX11_holds_0 21 rfl
theorem dX11_holds_38 : decode cX11_holds 38 = .ok (.iload_n 1, 1) := dAt (x := (38, .iload_n 1, 1)) DX11_holds_0 22 rfl
theorem dX11_holds_39 : decode cX11_holds 39 = .ok (.if_icmp .ge 30, 3) := dAt (x := (39, .if_icmp .ge 30, 3)) DX11_holds_0 23 rfl
theorem dX11_holds_42 : decode cX11_holds 42 = .ok (.lload_n 3, 1) := dAt (x := (42, .lload_n 3, 1)) DX11_holds_0 24 rfl
theorem dX11_holds_43 : decode cX11_holds 43 = .ok (.bipush 100, 2) := dAt (x := (43, .bipush 100, 2)) DX11_holds_0 25 rfl
theorem dX11_holds_45 : decode cX11_holds 45 = .ok (.aload_n 0, 1) := dAt (x := (45, .aload_n 0, 1)) DX11_holds_0 26 rfl
theorem dX11_holds_46 : decode cX11_holds 46 = .ok (.getfield 24, 3) := dAt (x := (46, .getfield 24, 3)) DX11_holds_0 27 rfl
theorem dX11_holds_49 : decode cX11_holds 49 = .ok (.iconst 0, 1) := dAt (x := (49, .iconst 0, 1)) DX11_holds_0 28 rfl
theorem dX11_holds_50 : decode cX11_holds 50 = .ok (.iaload, 1) := dAt (x := (50, .iaload, 1)) DX11_holds_0 29 rfl
theorem dX11_holds_51 : decode cX11_holds 51 = .ok (.isub, 1) := dAt (x := (51, .isub, 1)) DX11_holds_0 30 rfl
theorem dX11_holds_52 : decode cX11_holds 52 = .ok (.i2l, 1) := dAt (x := (52, .i2l, 1)) DX11_holds_0 31 rfl
theorem dX11_holds_53 : decode cX11_holds 53 = .ok (.lmul, 1) := dAt (x := (53, .lmul, 1)) DX11_holds_0 32 rfl
theorem dX11_holds_54 : decode cX11_holds 54 = .ok (.lstore_n 3, 1) := dAt (x := (54, .lstore_n 3, 1)) DX11_holds_0 33 rfl
theorem dX11_holds_55 : decode cX11_holds 55 = .ok (.lload 5, 2) := dAt (x := (55, .lload 5, 2)) DX11_holds_0 34 rfl
theorem dX11_holds_57 : decode cX11_holds 57 = .ok (.ldc2_w 497, 3) := dAt (x := (57, .ldc2_w 497, 3)) DX11_holds_0 35 rfl
theorem dX11_holds_60 : decode cX11_holds 60 = .ok (.lmul, 1) := dAt (x := (60, .lmul, 1)) DX11_holds_0 36 rfl
theorem dX11_holds_61 : decode cX11_holds 61 = .ok (.lstore 5, 2) := dAt (x := (61, .lstore 5, 2)) DX11_holds_0 37 rfl
theorem dX11_holds_63 : decode cX11_holds 63 = .ok (.iinc 7 1, 3) := dAt (x := (63, .iinc 7 1, 3)) DX11_holds_0 38 rfl
theorem dX11_holds_66 : decode cX11_holds 66 = .ok (.goto (-30), 3) := dAt (x := (66, .goto (-30), 3)) DX11_holds_0 39 rfl
theorem dX11_holds_69 : decode cX11_holds 69 = .ok (.lload 5, 2) := dAt (x := (69, .lload 5, 2)) DX11_holds_0 40 rfl
theorem dX11_holds_71 : decode cX11_holds 71 = .ok (.lload_n 3, 1) := dAt (x := (71, .lload_n 3, 1)) DX11_holds_0 41 rfl
theorem dX11_holds_72 : decode cX11_holds 72 = .ok (.invokestatic 494, 3) := dAt (x := (72, .invokestatic 494, 3)) DX11_holds_0 42 rfl
theorem dX11_holds_75 : decode cX11_holds 75 = .ok (.lstore 7, 2) := dAt (x := (75, .lstore 7, 2)) DX11_holds_0 43 rfl
theorem dX11_holds_77 : decode cX11_holds 77 = .ok (.iload_n 2, 1) := dAt (x := (77, .iload_n 2, 1)) DX11_holds_0 44 rfl
theorem dX11_holds_78 : decode cX11_holds 78 = .ok (.ifCond .ne 10, 3) := dAt (x := (78, .ifCond .ne 10, 3)) DX11_holds_0 45 rfl
theorem dX11_holds_81 : decode cX11_holds 81 = .ok (.lload_n 3, 1) := dAt (x := (81, .lload_n 3, 1)) DX11_holds_0 46 rfl
theorem dX11_holds_82 : decode cX11_holds 82 = .ok (.lload 7, 2) := dAt (x := (82, .lload 7, 2)) DX11_holds_0 47 rfl
theorem dX11_holds_84 : decode cX11_holds 84 = .ok (.ldiv, 1) := dAt (x := (84, .ldiv, 1)) DX11_holds_0 48 rfl
theorem dX11_holds_85 : decode cX11_holds 85 = .ok (.goto 8, 3) := dAt (x := (85, .goto 8, 3)) DX11_holds_0 49 rfl
theorem dX11_holds_88 : decode cX11_holds 88 = .ok (.lload 5, 2) := dAt (x := (88, .lload 5, 2)) DX11_holds_0 50 rfl
theorem dX11_holds_90 : decode cX11_holds 90 = .ok (.lload 7, 2) := dAt (x := (90, .lload 7, 2)) DX11_holds_0 51 rfl
theorem dX11_holds_92 : decode cX11_holds 92 = .ok (.ldiv, 1) := dAt (x := (92, .ldiv, 1)) DX11_holds_0 52 rfl
theorem dX11_holds_93 : decode cX11_holds 93 = .ok (.lreturn, 1) := dAt (x := (93, .lreturn, 1)) DX11_holds_0 53 rfl
def lDX11_notes1_0 : List (Nat × Instr × Nat) := [(0, .aload_n 0, 1), (1, .getfield 394, 3), (4, .bipush 24, 2), (6, .if_icmp .ne 5, 3), (9, .iconst (-1), 1), (10, .ireturn, 1), (11, .iconst 3, 1), (12, .aload_n 0, 1), (13, .getfield 394, 3), (16, .imul, 1), (17, .istore 4, 2), (19, .aload_n 0, 1), (20, .getfield 142, 3), (23, .iload 4, 2), (25, .iload_n 1, 1), (26, .iastore, 1), (27, .aload_n 0, 1), (28, .getfield 142, 3), (31, .iload 4, 2), (33, .iconst 1, 1), (34, .iadd, 1), (35, .iload_n 2, 1), (36, .iastore, 1), (37, .aload_n 0, 1), (38, .getfield 142, 3), (41, .iload 4, 2), (43, .iconst 2, 1), (44, .iadd, 1), (45, .iload_n 3, 1), (46, .iastore, 1), (47, .aload_n 0, 1), (48, .dup, 1), (49, .getfield 394, 3), (52, .iconst 1, 1), (53, .iadd, 1), (54, .putfield 394, 3), (57, .aload_n 0, 1), (58, .getfield 394, 3), (61, .iconst 1, 1), (62, .isub, 1), (63, .ireturn, 1)]
theorem DX11_notes1_0 : dAll cX11_notes1 lDX11_notes1_0 = true := by decide +kernel
theorem dX11_notes1_0 : decode cX11_notes1 0 = .ok (.aload_n 0, 1) := dAt (x := (0, .aload_n 0, 1)) DX11_notes1_0 0 rfl
theorem dX11_notes1_1 : decode cX11_notes1 1 = .ok (.getfield 394, 3) := dAt (x := (1, .getfield 394, 3)) DX11_notes1_0 1 rfl
theorem dX11_notes1_4 : decode cX11_notes1 4 = .ok (.bipush 24, 2) := dAt (x := (4, .bipush 24, 2)) DX11_notes1_0 2 rfl
theorem dX11_notes1_6 : decode cX11_notes1 6 = .ok (.if_icmp .ne 5, 3) := dAt (x := (6, .if_icmp .ne 5, 3)) DX11_notes1_0 3 rfl
theorem dX11_notes1_9 : decode cX11_notes1 9 = .ok (.iconst (-1), 1) := dAt (x := (9, .iconst (-1), 1)) DX11_notes1_0 4 rfl
theorem dX11_notes1_10 : decode cX11_notes1 10 = .ok (.ireturn, 1) := dAt (x := (10, .ireturn, 1)) DX11_notes1_0 5 rfl
theorem dX11_notes1_11 : decode cX11_notes1 11 = .ok (.iconst 3, 1) := dAt (x := (11, .iconst 3, 1)) DX11_notes1_0 6 rfl
theorem dX11_notes1_12 : decode cX11_notes1 12 = .ok (.aload_n 0, 1) := dAt (x := (12, .aload_n 0, 1)) DX11_notes1_0 7 rfl
theorem dX11_notes1_13 : decode cX11_notes1 13 = .ok (.getfield 394, 3) := dAt (x := (13, .getfield 394, 3)) DX11_notes1_0 8 rfl
theorem dX11_notes1_16 : decode cX11_notes1 16 = .ok (.imul, 1) := dAt (x := (16, .imul, 1)) DX11_notes1_0 9 rfl
theorem dX11_notes1_17 : decode cX11_notes1 17 = .ok (.istore 4, 2) := dAt (x := (17, .istore 4, 2)) DX11_notes1_0 10 rfl
theorem dX11_notes1_19 : decode cX11_notes1 19 = .ok (.aload_n 0, 1) := dAt (x := (19, .aload_n 0, 1)) DX11_notes1_0 11 rfl
theorem dX11_notes1_20 : decode cX11_notes1 20 = .ok (.getfield 142, 3) := dAt (x := (20, .getfield 142, 3)) DX11_notes1_0 12 rfl
theorem dX11_notes1_23 : decode cX11_notes1 23 = .ok (.iload 4, 2) := dAt (x := (23, .iload 4, 2)) DX11_notes1_0 13 rfl
theorem dX11_notes1_25 : decode cX11_notes1 25 = .ok (.iload_n 1, 1) := dAt (x := (25, .iload_n 1, 1)) DX11_notes1_0 14 rfl
theorem dX11_notes1_26 : decode cX11_notes1 26 = .ok (.iastore, 1) := dAt (x := (26, .iastore, 1)) DX11_notes1_0 15 rfl
theorem dX11_notes1_27 : decode cX11_notes1 27 = .ok (.aload_n 0, 1) := dAt (x := (27, .aload_n 0, 1)) DX11_notes1_0 16 rfl
theorem dX11_notes1_28 : decode cX11_notes1 28 = .ok (.getfield 142, 3) := dAt (x := (28, .getfield 142, 3)) DX11_notes1_0 17 rfl
theorem dX11_notes1_31 : decode cX11_notes1 31 = .ok (.iload 4, 2) := dAt (x := (31, .iload 4, 2)) DX11_notes1_0 18 rfl
theorem dX11_notes1_33 : decode cX11_notes1 33 = .ok (.iconst 1, 1) := dAt (x := (33, .iconst 1, 1)) DX11_notes1_0 19 rfl
theorem dX11_notes1_34 : decode cX11_notes1 34 = .ok (.iadd, 1) := dAt (x := (34, .iadd, 1)) DX11_notes1_0 20 rfl
theorem dX11_notes1_35 : decode cX11_notes1 35 = .ok (.iload_n 2, 1) := dAt (x := (35, .iload_n 2, 1)) DX11_notes1_0 21 rfl
theorem dX11_notes1_36 : decode cX11_notes1 36 = .ok (.iastore, 1) := dAt (x := (36, .iastore, 1)) DX11_notes1_0 22 rfl
theorem dX11_notes1_37 : decode cX11_notes1 37 = .ok (.aload_n 0, 1) := dAt (x := (37, .aload_n 0, 1)) DX11_notes1_0 23 rfl
theorem dX11_notes1_38 : decode cX11_notes1 38 = .ok (.getfield 142, 3) := dAt (x := (38, .getfield 142, 3)) DX11_notes1_0 24 rfl
theorem dX11_notes1_41 : decode cX11_notes1 41 = .ok (.iload 4, 2) := dAt (x := (41, .iload 4, 2)) DX11_notes1_0 25 rfl
theorem dX11_notes1_43 : decode cX11_notes1 43 = .ok (.iconst 2, 1) := dAt (x := (43, .iconst 2, 1)) DX11_notes1_0 26 rfl
theorem dX11_notes1_44 : decode cX11_notes1 44 = .ok (.iadd, 1) := dAt (x := (44, .iadd, 1)) DX11_notes1_0 27 rfl
theorem dX11_notes1_45 : decode cX11_notes1 45 = .ok (.iload_n 3, 1) := dAt (x := (45, .iload_n 3, 1)) DX11_notes1_0 28 rfl
theorem dX11_notes1_46 : decode cX11_notes1 46 = .ok (.iastore, 1) := dAt (x := (46, .iastore, 1)) DX11_notes1_0 29 rfl
theorem dX11_notes1_47 : decode cX11_notes1 47 = .ok (.aload_n 0, 1) := dAt (x := (47, .aload_n 0, 1)) DX11_notes1_0 30 rfl
theorem dX11_notes1_48 : decode cX11_notes1 48 = .ok (.dup, 1) := dAt (x := (48, .dup, 1)) DX11_notes1_0 31 rfl
theorem dX11_notes1_49 : decode cX11_notes1 49 = .ok (.getfield 394, 3) := dAt (x := (49, .getfield 394, 3)) DX11_notes1_0 32 rfl
theorem dX11_notes1_52 : decode cX11_notes1 52 = .ok (.iconst 1, 1) := dAt (x := (52, .iconst 1, 1)) DX11_notes1_0 33 rfl
theorem dX11_notes1_53 : decode cX11_notes1 53 = .ok (.iadd, 1) := dAt (x := (53, .iadd, 1)) DX11_notes1_0 34 rfl
theorem dX11_notes1_54 : decode cX11_notes1 54 = .ok (.putfield 394, 3) := dAt (x := (54, .putfield 394, 3)) DX11_notes1_0 35 rfl
theorem dX11_notes1_57 : decode cX11_notes1 57 = .ok (.aload_n 0, 1) := dAt (x := (57, .aload_n 0, 1)) DX11_notes1_0 36 rfl
theorem dX11_notes1_58 : decode cX11_notes1 58 = .ok (.getfield 394, 3) := dAt (x := (58, .getfield 394, 3)) DX11_notes1_0 37 rfl
theorem dX11_notes1_61 : decode cX11_notes1 61 = .ok (.iconst 1, 1) := dAt (x := (61, .iconst 1, 1)) DX11_notes1_0 38 rfl
theorem dX11_notes1_62 : decode cX11_notes1 62 = .ok (.isub, 1) := dAt (x := (62, .isub, 1)) DX11_notes1_0 39 rfl
theorem dX11_notes1_63 : decode cX11_notes1 63 = .ok (.ireturn, 1) := dAt (x := (63, .ireturn, 1)) DX11_notes1_0 40 rfl
def lDX11_note_0 : List (Nat × Instr × Nat) := [(0, .aload_n 0, 1), (1, .iconst 0, 1), (2, .putfield 160, 3), (5, .aload_n 0, 1), (6, .iload_n 1, 1), (7, .invokevirtual 462, 3), (10, .ifCond .eq 29, 3), (13, .aload_n 0, 1), (14, .iload_n 2, 1), (15, .invokevirtual 456, 3), (18, .ifCond .eq 21, 3), (21, .aload_n 0, 1), (22, .iload_n 1, 1), (23, .iload_n 2, 1), (24, .iload_n 3, 1), (25, .ifCond .eq 7, 3), (28, .iconst 1, 1), (29, .goto 4, 3), (32, .iconst 0, 1), (33, .invokevirtual 499, 3), (36, .goto 4, 3), (39, .iconst (-1), 1), (40, .ireturn, 1)]
theorem DX11_note_0 : dAll cX11_note lDX11_note_0 = true := by decide +kernel
theorem dX11_note_0 : decode cX11_note 0 = .ok (.aload_n 0, 1) := dAt (x := (0, .aload_n 0, 1)) DX11_note_0 0 rfl
theorem dX11_note_1 : decode cX11_note 1 = .ok (.iconst 0, 1) := dAt (x := (1, .iconst 0, 1)) DX11_note_0 1 rfl
theorem dX11_note_2 : decode cX11_note 2 = .ok (.putfield 160, 3) := dAt (x := (2, .putfield 160, 3)) DX11_note_0 2 rfl
theorem dX11_note_5 : decode cX11_note 5 = .ok (.aload_n 0, 1) := dAt (x := (5, .aload_n 0, 1)) DX11_note_0 3 rfl
theorem dX11_note_6 : decode cX11_note 6 = .ok (.iload_n 1, 1) := dAt (x := (6, .iload_n 1, 1)) DX11_note_0 4 rfl
theorem dX11_note_7 : decode cX11_note 7 = .ok (.invokevirtual 462, 3) := dAt (x := (7, .invokevirtual 462, 3)) DX11_note_0 5 rfl
theorem dX11_note_10 : decode cX11_note 10 = .ok (.ifCond .eq 29, 3) := dAt (x := (10, .ifCond .eq 29, 3)) DX11_note_0 6 rfl
theorem dX11_note_13 : decode cX11_note 13 = .ok (.aload_n 0, 1) := dAt (x := (13, .aload_n 0, 1)) DX11_note_0 7 rfl
theorem dX11_note_14 : decode cX11_note 14 = .ok (.iload_n 2, 1) := dAt (x := (14, .iload_n 2, 1)) DX11_note_0 8 rfl
theorem dX11_note_15 : decode cX11_note 15 = .ok (.invokevirtual 456, 3) := dAt (x := (15, .invokevirtual 456, 3)) DX11_note_0 9 rfl
theorem dX11_note_18 : decode cX11_note 18 = .ok (.ifCond .eq 21, 3) := dAt (x := (18, .ifCond .eq 21, 3)) DX11_note_0 10 rfl
theorem dX11_note_21 : decode cX11_note 21 = .ok (.aload_n 0, 1) := dAt (x := (21, .aload_n 0, 1)) DX11_note_0 11 rfl
theorem dX11_note_22 : decode cX11_note 22 = .ok (.iload_n 1, 1) := dAt (x := (22, .iload_n 1, 1)) DX11_note_0 12 rfl
theorem dX11_note_23 : decode cX11_note 23 = .ok (.iload_n 2, 1) := dAt (x := (23, .iload_n 2, 1)) DX11_note_0 13 rfl
theorem dX11_note_24 : decode cX11_note 24 = .ok (.iload_n 3, 1) := dAt (x := (24, .iload_n 3, 1)) DX11_note_0 14 rfl
theorem dX11_note_25 : decode cX11_note 25 = .ok (.ifCond .eq 7, 3) := dAt (x := (25, .ifCond .eq 7, 3)) DX11_note_0 15 rfl
theorem dX11_note_28 : decode cX11_note 28 = .ok (.iconst 1, 1) := dAt (x := (28, .iconst 1, 1)) DX11_note_0 16 rfl
theorem dX11_note_29 : decode cX11_note 29 = .ok (.goto 4, 3) := dAt (x := (29, .goto 4, 3)) DX11_note_0 17 rfl
theorem dX11_note_32 : decode cX11_note 32 = .ok (.iconst 0, 1) := dAt (x := (32, .iconst 0, 1)) DX11_note_0 18 rfl
theorem dX11_note_33 : decode cX11_note 33 = .ok (.invokevirtual 499, 3) := dAt (x := (33, .invokevirtual 499, 3)) DX11_note_0 19 rfl
theorem dX11_note_36 : decode cX11_note 36 = .ok (.goto 4, 3) := dAt (x := (36, .goto 4, 3)) DX11_note_0 20 rfl
theorem dX11_note_39 : decode cX11_note 39 = .ok (.iconst (-1), 1) := dAt (x := (39, .iconst (-1), 1)) DX11_note_0 21 rfl
theorem dX11_note_40 : decode cX11_note 40 = .ok (.ireturn, 1) := dAt (x := (40, .ireturn, 1)) DX11_note_0 22 rfl
def lDX11_strike_0 : List (Nat × Instr × Nat) := [(0, .aload_n 0, 1), (1, .iconst 0, 1), (2, .putfield 160, 3), (5, .iload_n 1, 1), (6, .ifCond .lt 11, 3), (9, .iload_n 1, 1), (10, .aload_n 0, 1), (11, .getfield 394, 3), (14, .if_icmp .lt 7, 3), (17, .iconst (-1), 1), (18, .goto 10, 3), (21, .aload_n 0, 1), (22, .iconst (-1), 1), (23, .iload_n 1, 1), (24, .iconst 0, 1), (25, .invokevirtual 499, 3), (28, .ireturn, 1)]
theorem DX11_strike_0 : dAll cX11_strike lDX11_strike_0 = true := by decide +kernel
theorem dX11_strike_0 : decode cX11_strike 0 = .ok (.aload_n 0, 1) := dAt (x := (0, .aload_n 0, 1)) DX11_strike_0 0 rfl
theorem dX11_strike_1 : decode cX11_strike 1 = .ok (.iconst 0, 1) := dAt (x := (1, .iconst 0, 1)) DX11_strike_0 1 rfl
theorem dX11_strike_2 : decode cX11_strike 2 = .ok (.putfield 160, 3) := dAt (x := (2, .putfield 160, 3)) DX11_strike_0 2 rfl
theorem dX11_strike_5 : decode cX11_strike 5 = .ok (.iload_n 1, 1) := dAt (x := (5, .iload_n 1, 1)) DX11_strike_0 3 rfl
theorem dX11_strike_6 : decode cX11_strike 6 = .ok (.ifCond .lt 11, 3) := dAt (x := (6, .ifCond .lt 11, 3)) DX11_strike_0 4 rfl
theorem dX11_strike_9 : decode cX11_strike 9 = .ok (.iload_n 1, 1) := dAt (x := (9, .iload_n 1, 1)) DX11_strike_0 5 rfl
theorem dX11_strike_10 : decode cX11_strike 10 = .ok (.aload_n 0, 1) := dAt (x := (10, .aload_n 0, 1)) DX11_strike_0 6 rfl
theorem dX11_strike_11 : decode cX11_strike 11 = .ok (.getfield 394, 3) := dAt (x := (11, .getfield 394, 3)) DX11_strike_0 7 rfl
theorem dX11_strike_14 : decode cX11_strike 14 = .ok (.if_icmp .lt 7, 3) := dAt (x := (14, .if_icmp .lt 7, 3)) DX11_strike_0 8 rfl
theorem dX11_strike_17 : decode cX11_strike 17 = .ok (.iconst (-1), 1) := dAt (x := (17, .iconst (-1), 1)) DX11_strike_0 9 rfl
theorem dX11_strike_18 : decode cX11_strike 18 = .ok (.goto 10, 3) := dAt (x := (18, .goto 10, 3)) DX11_strike_0 10 rfl
theorem dX11_strike_21 : decode cX11_strike 21 = .ok (.aload_n 0, 1) := dAt (x := (21, .aload_n 0, 1)) DX11_strike_0 11 rfl
theorem dX11_strike_22 : decode cX11_strike 22 = .ok (.iconst (-1), 1) := dAt (x := (22, .iconst (-1), 1)) DX11_strike_0 12 rfl
theorem dX11_strike_23 : decode cX11_strike 23 = .ok (.iload_n 1, 1) := dAt (x := (23, .iload_n 1, 1)) DX11_strike_0 13 rfl
theorem dX11_strike_24 : decode cX11_strike 24 = .ok (.iconst 0, 1) := dAt (x := (24, .iconst 0, 1)) DX11_strike_0 14 rfl
theorem dX11_strike_25 : decode cX11_strike 25 = .ok (.invokevirtual 499, 3) := dAt (x := (25, .invokevirtual 499, 3)) DX11_strike_0 15 rfl
theorem dX11_strike_28 : decode cX11_strike 28 = .ok (.ireturn, 1) := dAt (x := (28, .ireturn, 1)) DX11_strike_0 16 rfl
def lDX11_known_0 : List (Nat × Instr × Nat) := [(0, .aload_n 0, 1), (1, .iconst 0, 1), (2, .putfield 160, 3), (5, .iload_n 1, 1), (6, .iconst (-1), 1), (7, .aload_n 0, 1), (8, .getfield 394, 3), (11, .invokestatic 205, 3), (14, .ifCond .ne 5, 3), (17, .iconst 0, 1), (18, .ireturn, 1), (19, .aload_n 0, 1), (20, .iload_n 1, 1), (21, .putfield 139, 3), (24, .iconst 1, 1), (25, .ireturn, 1)]
theorem DX11_known_0 : dAll cX11_known lDX11_known_0 = true := by decide +kernel
theorem dX11_known_0 : decode cX11_known 0 = .ok (.aload_n 0, 1) := dAt (x := (0, .aload_n 0, 1)) DX11_known_0 0 rfl
theorem dX11_known_1 : decode cX11_known 1 = .ok (.iconst 0, 1) := dAt (x := (1, .iconst 0, 1)) DX11_known_0 1 rfl
theorem dX11_known_2 : decode cX11_known 2 = .ok (.putfield 160, 3) := dAt (x := (2, .putfield 160, 3)) DX11_known_0 2 rfl
theorem dX11_known_5 : decode cX11_known 5 = .ok (.iload_n 1, 1) := dAt (x := (5, .iload_n 1, 1)) DX11_known_0 3 rfl
theorem dX11_known_6 : decode cX11_known 6 = .ok (.iconst (-1), 1) := dAt (x := (6, .iconst (-1), 1)) DX11_known_0 4 rfl
theorem dX11_known_7 : decode cX11_known 7 = .ok (.aload_n 0, 1) := dAt (x := (7, .aload_n 0, 1)) DX11_known_0 5 rfl
theorem dX11_known_8 : decode cX11_known 8 = .ok (.getfield 394, 3) := dAt (x := (8, .getfield 394, 3)) DX11_known_0 6 rfl
theorem dX11_known_11 : decode cX11_known 11 = .ok (.invokestatic 205, 3) := dAt (x := (11, .invokestatic 205, 3)) DX11_known_0 7 rfl
theorem dX11_known_14 : decode cX11_known 14 = .ok (.ifCond .ne 5, 3) := dAt (x := (14, .ifCond .ne 5, 3)) DX11_known_0 8 rfl
theorem dX11_known_17 : decode cX11_known 17 = .ok (.iconst 0, 1) := dAt (x := (17, .iconst 0, 1)) DX11_known_0 9 rfl
theorem dX11_known_18 : decode cX11_known 18 = .ok (.ireturn, 1) := dAt (x := (18, .ireturn, 1)) DX11_known_0 10 rfl
theorem dX11_known_19 : decode cX11_known 19 = .ok (.aload_n 0, 1) := dAt (x := (19, .aload_n 0, 1)) DX11_known_0 11 rfl
theorem dX11_known_20 : decode cX11_known 20 = .ok (.iload_n 1, 1) := dAt (x := (20, .iload_n 1, 1)) DX11_known_0 12 rfl
theorem dX11_known_21 : decode cX11_known 21 = .ok (.putfield 139, 3) := dAt (x := (21, .putfield 139, 3)) DX11_known_0 13 rfl
theorem dX11_known_24 : decode cX11_known 24 = .ok (.iconst 1, 1) := dAt (x := (24, .iconst 1, 1)) DX11_known_0 14 rfl
theorem dX11_known_25 : decode cX11_known 25 = .ok (.ireturn, 1) := dAt (x := (25, .ireturn, 1)) DX11_known_0 15 rfl
def lDX11_knownBy_0 : List (Nat × Instr × Nat) := [(0, .aload_n 0, 1), (1, .getfield 139, 3), (4, .ifCond .ge 10, 3), (7, .aload_n 0, 1), (8, .getfield 394, 3), (11, .goto 7, 3), (14, .aload_n 0, 1), (15, .getfield 139, 3), (18, .ireturn, 1)]
theorem DX11_knownBy_0 : dAll cX11_knownBy lDX11_knownBy_0 = true := by decide +kernel
theorem dX11_knownBy_0 : decode cX11_knownBy 0 = .ok (.aload_n 0, 1) := dAt (x := (0, .aload_n 0, 1)) DX11_knownBy_0 0 rfl
theorem dX11_knownBy_1 : decode cX11_knownBy 1 = .ok (.getfield 139, 3) := dAt (x := (1, .getfield 139, 3)) DX11_knownBy_0 1 rfl
theorem dX11_knownBy_4 : decode cX11_knownBy 4 = .ok (.ifCond .ge 10, 3) := dAt (x := (4, .ifCond .ge 10, 3)) DX11_knownBy_0 2 rfl
theorem dX11_knownBy_7 : decode cX11_knownBy 7 = .ok (.aload_n 0, 1) := dAt (x := (7, .aload_n 0, 1)) DX11_knownBy_0 3 rfl
theorem dX11_knownBy_8 : decode cX11_knownBy 8 = .ok (.getfield 394, 3) := dAt (x := (8, .getfield 394, 3)) DX11_knownBy_0 4 rfl
theorem dX11_knownBy_11 : decode cX11_knownBy 11 = .ok (.goto 7, 3) := dAt (x := (11, .goto 7, 3)) DX11_knownBy_0 5 rfl
theorem dX11_knownBy_14 : decode cX11_knownBy 14 = .ok (.aload_n 0, 1) := dAt (x := (14, .aload_n 0, 1)) DX11_knownBy_0 6 rfl
theorem dX11_knownBy_15 : decode cX11_knownBy 15 = .ok (.getfield 139, 3) := dAt (x := (15, .getfield 139, 3)) DX11_knownBy_0 7 rfl
theorem dX11_knownBy_18 : decode cX11_knownBy 18 = .ok (.ireturn, 1) := dAt (x := (18, .ireturn, 1)) DX11_knownBy_0 8 rfl
def lDX11_isBy_0 : List (Nat × Instr × Nat) := [(0, .iload_n 0, 1), (1, .ifCond .eq 27, 3), (4, .iload_n 1, 1), (5, .iload_n 0, 1), (6, .iconst 1, 1), (7, .isub, 1), (8, .iconst 2, 1), (9, .idiv, 1), (10, .invokestatic 372, 3), (13, .iload_n 0, 1), (14, .iconst 2, 1), (15, .irem, 1), (16, .iconst 1, 1), (17, .if_icmp .ne 7, 3), (20, .iconst 1, 1), (21, .goto 4, 3), (24, .iconst 0, 1), (25, .if_icmp .ne 7, 3), (28, .iconst 1, 1), (29, .goto 4, 3), (32, .iconst 0, 1), (33, .ireturn, 1)]
theorem DX11_isBy_0 : dAll cX11_isBy lDX11_isBy_0 = true := by decide +kernel
theorem dX11_isBy_0 : decode cX11_isBy 0 = .ok (.iload_n 0, 1) := dAt (x := (0, .iload_n 0, 1)) DX11_isBy_0 0 rfl
theorem dX11_isBy_1 : decode cX11_isBy 1 = .ok (.ifCond .eq 27, 3) := dAt (x := (1, .ifCond .eq 27, 3)) DX11_isBy_0 1 rfl
theorem dX11_isBy_4 : decode cX11_isBy 4 = .ok (.iload_n 1, 1) := dAt (x := (4, .iload_n 1, 1)) DX11_isBy_0 2 rfl
theorem dX11_isBy_5 : decode cX11_isBy 5 = .ok (.iload_n 0, 1) := dAt (x := (5, .iload_n 0, 1)) DX11_isBy_0 3 rfl
theorem dX11_isBy_6 : decode cX11_isBy 6 = .ok (.iconst 1, 1) := dAt (x := (6, .iconst 1, 1)) DX11_isBy_0 4 rfl
theorem dX11_isBy_7 : decode cX11_isBy 7 = .ok (.isub, 1) := dAt (x := (7, .isub, 1)) DX11_isBy_0 5 rfl
theorem dX11_isBy_8 : decode cX11_isBy 8 = .ok (.iconst 2, 1) := dAt (x := (8, .iconst 2, 1)) DX11_isBy_0 6 rfl
theorem dX11_isBy_9 : decode cX11_isBy 9 = .ok (.idiv, 1) := dAt (x := (9, .idiv, 1)) DX11_isBy_0 7 rfl
theorem dX11_isBy_10 : decode cX11_isBy 10 = .ok (.invokestatic 372, 3) := dAt (x := (10, .invokestatic 372, 3)) DX11_isBy_0 8 rfl
theorem dX11_isBy_13 : decode cX11_isBy 13 = .ok (.iload_n 0, 1) := dAt (x := (13, .iload_n 0, 1)) DX11_isBy_0 9 rfl
theorem dX11_isBy_14 : decode cX11_isBy 14 = .ok (.iconst 2, 1) := dAt (x := (14, .iconst 2, 1)) DX11_isBy_0 10 rfl
theorem dX11_isBy_15 : decode cX11_isBy 15 = .ok (.irem, 1) := dAt (x := (15, .irem, 1)) DX11_isBy_0 11 rfl
theorem dX11_isBy_16 : decode cX11_isBy 16 = .ok (.iconst 1, 1) := dAt (x := (16, .iconst 1, 1)) DX11_isBy_0 12 rfl
theorem dX11_isBy_17 : decode cX11_isBy 17 = .ok (.if_icmp .ne 7, 3) := dAt (x := (17, .if_icmp .ne 7, 3)) DX11_isBy_0 13 rfl
theorem dX11_isBy_20 : decode cX11_isBy 20 = .ok (.iconst 1, 1) := dAt (x := (20, .iconst 1, 1)) DX11_isBy_0 14 rfl
theorem dX11_isBy_21 : decode cX11_isBy 21 = .ok (.goto 4, 3) := dAt (x := (21, .goto 4, 3)) DX11_isBy_0 15 rfl
theorem dX11_isBy_24 : decode cX11_isBy 24 = .ok (.iconst 0, 1) := dAt (x := (24, .iconst 0, 1)) DX11_isBy_0 16 rfl
theorem dX11_isBy_25 : decode cX11_isBy 25 = .ok (.if_icmp .ne 7, 3) := dAt (x := (25, .if_icmp .ne 7, 3)) DX11_isBy_0 17 rfl
theorem dX11_isBy_28 : decode cX11_isBy 28 = .ok (.iconst 1, 1) := dAt (x := (28, .iconst 1, 1)) DX11_isBy_0 18 rfl
theorem dX11_isBy_29 : decode cX11_isBy 29 = .ok (.goto 4, 3) := dAt (x := (29, .goto 4, 3)) DX11_isBy_0 19 rfl
theorem dX11_isBy_32 : decode cX11_isBy 32 = .ok (.iconst 0, 1) := dAt (x := (32, .iconst 0, 1)) DX11_isBy_0 20 rfl
theorem dX11_isBy_33 : decode cX11_isBy 33 = .ok (.ireturn, 1) := dAt (x := (33, .ireturn, 1)) DX11_isBy_0 21 rfl
def lDX11_fitsOf_0 : List (Nat × Instr × Nat) := [(0, .iconst 0, 1), (1, .istore_n 2, 1), (2, .iload_n 2, 1), (3, .aload_n 0, 1), (4, .invokevirtual 502, 3), (7, .if_icmp .ge 16, 3), (10, .aload_n 0, 1), (11, .getfield 145, 3), (14, .iload_n 2, 1), (15, .iconst 1, 1), (16, .bastore, 1), (17, .iinc 2 1, 3), (20, .goto (-18), 3), (23, .aload_n 0, 1), (24, .invokevirtual 502, 3), (27, .iconst 1, 1), (28, .isub, 1), (29, .istore_n 2, 1), (30, .iload_n 2, 1), (31, .ifCond .lt 45, 3), (34, .aload_n 0, 1), (35, .getfield 145, 3), (38, .iload_n 2, 1), (39, .baload, 1), (40, .ifCond .eq 30, 3), (43, .aload_n 0, 1), (44, .getfield 142, 3), (47, .iconst 3, 1), (48, .iload_n 2, 1), (49, .imul, 1), (50, .iaload, 1), (51, .ifCond .ge 19, 3), (54, .aload_n 0, 1), (55, .getfield 145, 3), (58, .aload_n 0, 1), (59, .getfield 142, 3), (62, .iconst 3, 1), (63, .iload_n 2, 1), (64, .imul, 1), (65, .iconst 1, 1), (66, .iadd, 1), (67, .iaload, 1), (68, .iconst 0, 1), (69, .bastore, 1), (70, .iinc 2 (-1), 3), (73, .goto (-43), 3), (76, .iconst 0, 1), (77, .istore_n 2, 1), (78, .iconst 0, 1), (79, .istore_n 3, 1), (80, .iload_n 3, 1), (81, .iconst 2, 1), (82, .aload_n 0, 1), (83, .getfield 240, 3), (86, .imul, 1), (87, .if_icmp .gt 147, 3), (90, .iload_n 3, 1), (91, .ifCond .le 15, 3), (94, .iload_n 3, 1), (95, .iconst 1, 1)]
theorem DX11_fitsOf_0 : dAll cX11_fitsOf lDX11_fitsOf_0 = true := by decide +kernel
theorem dX11_fitsOf_0 : decode cX11_fitsOf 0 = .ok (.iconst 0, 1) := dAt (x := (0, .iconst 0, 1)) DX11_fitsOf_0 0 rfl
theorem dX11_fitsOf_1 : decode cX11_fitsOf 1 = .ok (.istore_n 2, 1) := dAt (x := (1, .istore_n 2, 1)) DX11_fitsOf_0 1 rfl
theorem dX11_fitsOf_2 : decode cX11_fitsOf 2 = .ok (.iload_n 2, 1) := dAt (x := (2, .iload_n 2, 1)) DX11_fitsOf_0 2 rfl
theorem dX11_fitsOf_3 : decode cX11_fitsOf 3 = .ok (.aload_n 0, 1) := dAt (x := (3, .aload_n 0, 1)) DX11_fitsOf_0 3 rfl
theorem dX11_fitsOf_4 : decode cX11_fitsOf 4 = .ok (.invokevirtual 502, 3) := dAt (x := (4, .invokevirtual 502, 3)) DX11_fitsOf_0 4 rfl
theorem dX11_fitsOf_7 : decode cX11_fitsOf 7 = .ok (.if_icmp .ge 16, 3) := dAt (x := (7, .if_icmp .ge 16, 3)) DX11_fitsOf_0 5 rfl
theorem dX11_fitsOf_10 : decode cX11_fitsOf 10 = .ok (.aload_n 0, 1) := dAt (x := (10, .aload_n 0, 1)) DX11_fitsOf_0 6 rfl
theorem dX11_fitsOf_11 : decode cX11_fitsOf 11 = .ok (.getfield 145, 3) := dAt (x := (11, .getfield 145, 3)) DX11_fitsOf_0 7 rfl
theorem dX11_fitsOf_14 : decode cX11_fitsOf 14 = .ok (.iload_n 2, 1) := dAt (x := (14, .iload_n 2, 1)) DX11_fitsOf_0 8 rfl
theorem dX11_fitsOf_15 : decode cX11_fitsOf 15 = .ok (.iconst 1, 1) := dAt (x := (15, .iconst 1, 1)) DX11_fitsOf_0 9 rfl
theorem dX11_fitsOf_16 : decode cX11_fitsOf 16 = .ok (.bastore, 1) := dAt (x := (16, .bastore, 1)) DX11_fitsOf_0 10 rfl
theorem dX11_fitsOf_17 : decode cX11_fitsOf 17 = .ok (.iinc 2 1, 3) := dAt (x := (17, .iinc 2 1, 3)) DX11_fitsOf_0 11 rfl
theorem dX11_fitsOf_20 : decode cX11_fitsOf 20 = .ok (.goto (-18), 3) := dAt (x := (20, .goto (-18), 3)) DX11_fitsOf_0 12 rfl
theorem dX11_fitsOf_23 : decode cX11_fitsOf 23 = .ok (.aload_n 0, 1) := dAt (x := (23, .aload_n 0, 1)) DX11_fitsOf_0 13 rfl
theorem dX11_fitsOf_24 : decode cX11_fitsOf 24 = .ok (.invokevirtual 502, 3) := dAt (x := (24, .invokevirtual 502, 3)) DX11_fitsOf_0 14 rfl
theorem dX11_fitsOf_27 : decode cX11_fitsOf 27 = .ok (.iconst 1, 1) := dAt (x := (27, .iconst 1, 1)) DX11_fitsOf_0 15 rfl
theorem dX11_fitsOf_28 : decode cX11_fitsOf 28 = .ok (.isub, 1) := dAt (x := (28, .isub, 1)) DX11_fitsOf_0 16 rfl
theorem dX11_fitsOf_29 : decode cX11_fitsOf 29 = .ok (.istore_n 2, 1) := dAt (x := (29, .istore_n 2, 1)) DX11_fitsOf_0 17 rfl
theorem dX11_fitsOf_30 : decode cX11_fitsOf 30 = .ok (.iload_n 2, 1) := dAt (x := (30, .iload_n 2, 1)) DX11_fitsOf_0 18 rfl
theorem dX11_fitsOf_31 : decode cX11_fitsOf 31 = .ok (.ifCond .lt 45, 3) := dAt (x := (31, .ifCond .lt 45, 3)) DX11_fitsOf_0 19 rfl
theorem dX11_fitsOf_34 : decode cX11_fitsOf 34 = .ok (.aload_n 0, 1) := dAt (x := (34, .aload_n 0, 1)) DX11_fitsOf_0 20 rfl
theorem dX11_fitsOf_35 : decode cX11_fitsOf 35 = .ok (.getfield 145, 3) := dAt (x := (35, .getfield 145, 3)) DX11_fitsOf_0 21 rfl
theorem dX11_fitsOf_38 : decode cX11_fitsOf 38 = .ok (.iload_n 2, 1) := dAt (x := (38, .iload_n 2, 1)) DX11_fitsOf_0 22 rfl
theorem dX11_fitsOf_39 : decode cX11_fitsOf 39 = .ok (.baload, 1) := dAt (x := (39, .baload, 1)) DX11_fitsOf_0 23 rfl
theorem dX11_fitsOf_40 : decode cX11_fitsOf 40 = .ok (.ifCond .eq 30, 3) := dAt (x := (40, .ifCond .eq 30, 3)) DX11_fitsOf_0 24 rfl
theorem dX11_fitsOf_43 : decode cX11_fitsOf 43 = .ok (.aload_n 0, 1) := dAt (x := (43, .aload_n 0, 1)) DX11_fitsOf_0 25 rfl
theorem dX11_fitsOf_44 : decode cX11_fitsOf 44 = .ok (.getfield 142, 3) := dAt (x := (44, .getfield 142, 3)) DX11_fitsOf_0 26 rfl
theorem dX11_fitsOf_47 : decode cX11_fitsOf 47 = .ok (.iconst 3, 1) := dAt (x := (47, .iconst 3, 1)) DX11_fitsOf_0 27 rfl
theorem dX11_fitsOf_48 : decode cX11_fitsOf 48 = .ok (.iload_n 2, 1) := dAt (x := (48, .iload_n 2, 1)) DX11_fitsOf_0 28 rfl
theorem dX11_fitsOf_49 : decode cX11_fitsOf 49 = .ok (.imul, 1) := dAt (x := (49, .imul, 1)) DX11_fitsOf_0 29 rfl
theorem dX11_fitsOf_50 : decode cX11_fitsOf 50 = .ok (.iaload, 1) := dAt (x := (50, .iaload, 1)) DX11_fitsOf_0 30 rfl
theorem dX11_fitsOf_51 : decode cX11_fitsOf 51 = .ok (.ifCond .ge 19, 3) := dAt (x := (51, .ifCond .ge 19, 3)) DX11_fitsOf_0 31 rfl
theorem dX11_fitsOf_54 : decode cX11_fitsOf 54 = .ok (.aload_n 0, 1) := dAt (x := (54, .aload_n 0, 1)) DX11_fitsOf_0 32 rfl
theorem dX11_fitsOf_55 : decode cX11_fitsOf 55 = .ok (.getfield 145, 3) := dAt (x := (55, .getfield 145, 3)) DX11_fitsOf_0 33 rfl
theorem dX11_fitsOf_58 : decode cX11_fitsOf 58 = .ok (.aload_n 0, 1) := dAt (x := (58, .aload_n 0, 1)) DX11_fitsOf_0 34 rfl
theorem dX11_fitsOf_59 : decode cX11_fitsOf 59 = .ok (.getfield 142, 3) := dAt (x := (59, .getfield 142, 3)) DX11_fitsOf_0 35 rfl
theorem dX11_fitsOf_62 : decode cX11_fitsOf 62 = .ok (.iconst 3, 1) := dAt (x := (62, .iconst 3, 1)) DX11_fitsOf_0 36 rfl
theorem dX11_fitsOf_63 : decode cX11_fitsOf 63 = .ok (.iload_n 2, 1) := dAt (x := (63, .iload_n 2, 1)) DX11_fitsOf_0 37 rfl
theorem dX11_fitsOf_64 : decode cX11_fitsOf 64 = .ok (.imul, 1) := dAt (x := (64, .imul, 1)) DX11_fitsOf_0 38 rfl
theorem dX11_fitsOf_65 : decode cX11_fitsOf 65 = .ok (.iconst 1, 1) := dAt (x := (65, .iconst 1, 1)) DX11_fitsOf_0 39 rfl
theorem dX11_fitsOf_66 : decode cX11_fitsOf 66 = .ok (.iadd, 1) := dAt (x := (66, .iadd, 1)) DX11_fitsOf_0 40 rfl
theorem dX11_fitsOf_67 : decode cX11_fitsOf 67 = .ok (.iaload, 1) := dAt (x := (67, .iaload, 1)) DX11_fitsOf_0 41 rfl
theorem dX11_fitsOf_68 : decode cX11_fitsOf 68 = .ok (.iconst 0, 1) := dAt (x := (68, .iconst 0, 1)) DX11_fitsOf_0 42 rfl
theorem dX11_fitsOf_69 : decode cX11_fitsOf 69 = .ok (.bastore, 1) := dAt (x := (69, .bastore, 1)) DX11_fitsOf_0 43 rfl
theorem dX11_fitsOf_70 : decode cX11_fitsOf 70 = .ok (.iinc 2 (-1), 3) := dAt (x := (70, .iinc 2 (-1), 3)) DX11_fitsOf_0 44 rfl
theorem dX11_fitsOf_73 : decode cX11_fitsOf 73 = .ok (.goto (-43), 3) := dAt (x := (73, .goto (-43), 3)) DX11_fitsOf_0 45 rfl
theorem dX11_fitsOf_76 : decode cX11_fitsOf 76 = .ok (.iconst 0, 1) := dAt (x := (76, .iconst 0, 1)) DX11_fitsOf_0 46 rfl
theorem dX11_fitsOf_77 : decode cX11_fitsOf 77 = .ok (.istore_n 2, 1) := dAt (x := (77, .istore_n 2, 1)) DX11_fitsOf_0 47 rfl
theorem dX11_fitsOf_78 : decode cX11_fitsOf 78 = .ok (.iconst 0, 1) := dAt (x := (78, .iconst 0, 1)) DX11_fitsOf_0 48 rfl
theorem dX11_fitsOf_79 : decode cX11_fitsOf 79 = .ok (.istore_n 3, 1) := dAt (x := (79, .istore_n 3, 1)) DX11_fitsOf_0 49 rfl
theorem dX11_fitsOf_80 : decode cX11_fitsOf 80 = .ok (.iload_n 3, 1) := dAt (x := (80, .iload_n 3, 1)) DX11_fitsOf_0 50 rfl
theorem dX11_fitsOf_81 : decode cX11_fitsOf 81 = .ok (.iconst 2, 1) := dAt (x := (81, .iconst 2, 1)) DX11_fitsOf_0 51 rfl
theorem dX11_fitsOf_82 : decode cX11_fitsOf 82 = .ok (.aload_n 0, 1) := dAt (x := (82, .aload_n 0, 1)) DX11_fitsOf_0 52 rfl
theorem dX11_fitsOf_83 : decode cX11_fitsOf 83 = .ok (.getfield 240, 3) := dAt (x := (83, .getfield 240, 3)) DX11_fitsOf_0 53 rfl
theorem dX11_fitsOf_86 : decode cX11_fitsOf 86 = .ok (.imul, 1) := dAt (x := (86, .imul, 1)) DX11_fitsOf_0 54 rfl
theorem dX11_fitsOf_87 : decode cX11_fitsOf 87 = .ok (.if_icmp .gt 147, 3) := dAt (x := (87, .if_icmp .gt 147, 3)) DX11_fitsOf_0 55 rfl
theorem dX11_fitsOf_90 : decode cX11_fitsOf 90 = .ok (.iload_n 3, 1) := dAt (x := (90, .iload_n 3, 1)) DX11_fitsOf_0 56 rfl
theorem dX11_fitsOf_91 : decode cX11_fitsOf 91 = .ok (.ifCond .le 15, 3) := dAt (x := (91, .ifCond .le 15, 3)) DX11_fitsOf_0 57 rfl
theorem dX11_fitsOf_94 : decode cX11_fitsOf 94 = .ok (.iload_n 3, 1) := dAt (x := (94, .iload_n 3, 1)) DX11_fitsOf_0 58 rfl
theorem dX11_fitsOf_95 : decode cX11_fitsOf 95 = .ok (.iconst 1, 1) := dAt (x := (95, .iconst 1, 1)) DX11_fitsOf_0 59 rfl
def lDX11_fitsOf_1 : List (Nat × Instr × Nat) := [(96, .isub, 1), (97, .iconst 2, 1), (98, .idiv, 1), (99, .iload_n 1, 1), (100, .if_icmp .ne 6, 3), (103, .goto 125, 3), (106, .iconst 1, 1), (107, .istore 4, 2), (109, .iconst 0, 1), (110, .istore 5, 2), (112, .iload 5, 2), (114, .aload_n 0, 1), (115, .invokevirtual 502, 3), (118, .if_icmp .ge 95, 3), (121, .iconst 3, 1), (122, .iload 5, 2), (124, .imul, 1), (125, .istore 6, 2), (127, .aload_n 0, 1), (128, .getfield 145, 3), (131, .iload 5, 2), (133, .baload, 1), (134, .ifCond .eq 73, 3), (137, .aload_n 0, 1), (138, .getfield 142, 3), (141, .iload 6, 2), (143, .iaload, 1), (144, .ifCond .lt 63, 3), (147, .aload_n 0, 1), (148, .getfield 142, 3), (151, .iload 6, 2), (153, .iconst 1, 1), (154, .iadd, 1), (155, .iaload, 1), (156, .iload_n 1, 1), (157, .if_icmp .eq 6, 3), (160, .goto 47, 3), (163, .iload 4, 2), (165, .ifCond .eq 39, 3), (168, .iload_n 3, 1), (169, .aload_n 0, 1), (170, .getfield 142, 3), (173, .iload 6, 2), (175, .iaload, 1), (176, .invokestatic 505, 3), (179, .aload_n 0, 1), (180, .getfield 142, 3), (183, .iload 6, 2), (185, .iconst 2, 1), (186, .iadd, 1), (187, .iaload, 1), (188, .iconst 1, 1), (189, .if_icmp .ne 7, 3), (192, .iconst 1, 1), (193, .goto 4, 3), (196, .iconst 0, 1), (197, .if_icmp .ne 7, 3), (200, .iconst 1, 1), (201, .goto 4, 3), (204, .iconst 0, 1)]
theorem DX11_fitsOf_1 : dAll cX11_fitsOf lDX11_fitsOf_1 = true := by decide +kernel
theorem dX11_fitsOf_96 : decode cX11_fitsOf 96 = .ok (.isub, 1) := dAt (x := (96, .isub, 1)) DX11_fitsOf_1 0 rfl
theorem dX11_fitsOf_97 : decode cX11_fitsOf 97 = .ok (.iconst 2, 1) := dAt (x := (97, .iconst 2, 1)) DX11_fitsOf_1 1 rfl
theorem dX11_fitsOf_98 : decode cX11_fitsOf 98 = .ok (.idiv, 1) := dAt (x := (98, .idiv, 1)) DX11_fitsOf_1 2 rfl
theorem dX11_fitsOf_99 : decode cX11_fitsOf 99 = .ok (.iload_n 1, 1) := dAt (x := (99, .iload_n 1, 1)) DX11_fitsOf_1 3 rfl
theorem dX11_fitsOf_100 : decode cX11_fitsOf 100 = .ok (.if_icmp .ne 6, 3) := dAt (x := (100, .if_icmp .ne 6, 3)) DX11_fitsOf_1 4 rfl
theorem dX11_fitsOf_103 : decode cX11_fitsOf 103 = .ok (.goto 125, 3) := dAt (x := (103, .goto 125, 3)) DX11_fitsOf_1 5 rfl
theorem dX11_fitsOf_106 : decode cX11_fitsOf 106 = .ok (.iconst 1, 1) := dAt (x := (106, .iconst 1, 1)) DX11_fitsOf_1 6 rfl
theorem dX11_fitsOf_107 : decode cX11_fitsOf 107 = .ok (.istore 4, 2) := dAt (x := (107, .istore 4, 2)) DX11_fitsOf_1 7 rfl
theorem dX11_fitsOf_109 : decode cX11_fitsOf 109 = .ok (.iconst 0, 1) := dAt (x := (109, .iconst 0, 1)) DX11_fitsOf_1 8 rfl
theorem dX11_fitsOf_110 : decode cX11_fitsOf 110 = .ok (.istore 5, 2) := dAt (x := (110, .istore 5, 2)) DX11_fitsOf_1 9 rfl
theorem dX11_fitsOf_112 : decode cX11_fitsOf 112 = .ok (.iload 5, 2) := dAt (x := (112, .iload 5, 2)) DX11_fitsOf_1 10 rfl
theorem dX11_fitsOf_114 : decode cX11_fitsOf 114 = .ok (.aload_n 0, 1) := dAt (x := (114, .aload_n 0, 1)) DX11_fitsOf_1 11 rfl
theorem dX11_fitsOf_115 : decode cX11_fitsOf 115 = .ok (.invokevirtual 502, 3) := dAt (x := (115, .invokevirtual 502, 3)) DX11_fitsOf_1 12 rfl
theorem dX11_fitsOf_118 : decode cX11_fitsOf 118 = .ok (.if_icmp .ge 95, 3) := dAt (x := (118, .if_icmp .ge 95, 3)) DX11_fitsOf_1 13 rfl
theorem dX11_fitsOf_121 : decode cX11_fitsOf 121 = .ok (.iconst 3, 1) := dAt (x := (121, .iconst 3, 1)) DX11_fitsOf_1 14 rfl
theorem dX11_fitsOf_122 : decode cX11_fitsOf 122 = .ok (.iload 5, 2) := dAt (x := (122, .iload 5, 2)) DX11_fitsOf_1 15 rfl
theorem dX11_fitsOf_124 : decode cX11_fitsOf 124 = .ok (.imul, 1) := dAt (x := (124, .imul, 1)) DX11_fitsOf_1 16 rfl
theorem dX11_fitsOf_125 : decode cX11_fitsOf 125 = .ok (.istore 6, 2) := dAt (x := (125, .istore 6, 2)) DX11_fitsOf_1 17 rfl
theorem dX11_fitsOf_127 : decode cX11_fitsOf 127 = .ok (.aload_n 0, 1) := dAt (x := (127, .aload_n 0, 1)) DX11_fitsOf_1 18 rfl
theorem dX11_fitsOf_128 : decode cX11_fitsOf 128 = .ok (.getfield 145, 3) := dAt (x := (128, .getfield 145, 3)) DX11_fitsOf_1 19 rfl
theorem dX11_fitsOf_131 : decode cX11_fitsOf 131 = .ok (.iload 5, 2) := dAt (x := (131, .iload 5, 2)) DX11_fitsOf_1 20 rfl
theorem dX11_fitsOf_133 : decode cX11_fitsOf 133 = .ok (.baload, 1) := dAt (x := (133, .baload, 1)) DX11_fitsOf_1 21 rfl
theorem dX11_fitsOf_134 : decode cX11_fitsOf 134 = .ok (.ifCond .eq 73, 3) := dAt (x := (134, .ifCond .eq 73, 3)) DX11_fitsOf_1 22 rfl
theorem dX11_fitsOf_137 : decode cX11_fitsOf 137 = .ok (.aload_n 0, 1) := dAt (x := (137, .aload_n 0, 1)) DX11_fitsOf_1 23 rfl
theorem dX11_fitsOf_138 : decode cX11_fitsOf 138 = .ok (.getfield 142, 3) := dAt (x := (138, .getfield 142, 3)) DX11_fitsOf_1 24 rfl
theorem dX11_fitsOf_141 : decode cX11_fitsOf 141 = .ok (.iload 6, 2) := dAt (x := (141, .iload 6, 2)) DX11_fitsOf_1 25 rfl
theorem dX11_fitsOf_143 : decode cX11_fitsOf 143 = .ok (.iaload, 1) := dAt (x := (143, .iaload, 1)) DX11_fitsOf_1 26 rfl
theorem dX11_fitsOf_144 : decode cX11_fitsOf 144 = .ok (.ifCond .lt 63, 3) := dAt (x := (144, .ifCond .lt 63, 3)) DX11_fitsOf_1 27 rfl
theorem dX11_fitsOf_147 : decode cX11_fitsOf 147 = .ok (.aload_n 0, 1) := dAt (x := (147, .aload_n 0, 1)) DX11_fitsOf_1 28 rfl
theorem dX11_fitsOf_148 : decode cX11_fitsOf 148 = .ok (.getfield 142, 3) := dAt (x := (148, .getfield 142, 3)) DX11_fitsOf_1 29 rfl
theorem dX11_fitsOf_151 : decode cX11_fitsOf 151 = .ok (.iload 6, 2) := dAt (x := (151, .iload 6, 2)) DX11_fitsOf_1 30 rfl
theorem dX11_fitsOf_153 : decode cX11_fitsOf 153 = .ok (.iconst 1, 1) := dAt (x := (153, .iconst 1, 1)) DX11_fitsOf_1 31 rfl
theorem dX11_fitsOf_154 : decode cX11_fitsOf 154 = .ok (.iadd, 1) := dAt (x := (154, .iadd, 1)) DX11_fitsOf_1 32 rfl
theorem dX11_fitsOf_155 : decode cX11_fitsOf 155 = .ok (.iaload, 1) := dAt (x := (155, .iaload, 1)) DX11_fitsOf_1 33 rfl
theorem dX11_fitsOf_156 : decode cX11_fitsOf 156 = .ok (.iload_n 1, 1) := dAt (x := (156, .iload_n 1, 1)) DX11_fitsOf_1 34 rfl
theorem dX11_fitsOf_157 : decode cX11_fitsOf 157 = .ok (.if_icmp .eq 6, 3) := dAt (x := (157, .if_icmp .eq 6, 3)) DX11_fitsOf_1 35 rfl
theorem dX11_fitsOf_160 : decode cX11_fitsOf 160 = .ok (.goto 47, 3) := dAt (x := (160, .goto 47, 3)) DX11_fitsOf_1 36 rfl
theorem dX11_fitsOf_163 : decode cX11_fitsOf 163 = .ok (.iload 4, 2) := dAt (x := (163, .iload 4, 2)) DX11_fitsOf_1 37 rfl
theorem dX11_fitsOf_165 : decode cX11_fitsOf 165 = .ok (.ifCond .eq 39, 3) := dAt (x := (165, .ifCond .eq 39, 3)) DX11_fitsOf_1 38 rfl
theorem dX11_fitsOf_168 : decode cX11_fitsOf 168 = .ok (.iload_n 3, 1) := dAt (x := (168, .iload_n 3, 1)) DX11_fitsOf_1 39 rfl
theorem dX11_fitsOf_169 : decode cX11_fitsOf 169 = .ok (.aload_n 0, 1) := dAt (x := (169, .aload_n 0, 1)) DX11_fitsOf_1 40 rfl
theorem dX11_fitsOf_170 : decode cX11_fitsOf 170 = .ok (.getfield 142, 3) := dAt (x := (170, .getfield 142, 3)) DX11_fitsOf_1 41 rfl
theorem dX11_fitsOf_173 : decode cX11_fitsOf 173 = .ok (.iload 6, 2) := dAt (x := (173, .iload 6, 2)) DX11_fitsOf_1 42 rfl
theorem dX11_fitsOf_175 : decode cX11_fitsOf 175 = .ok (.iaload, 1) := dAt (x := (175, .iaload, 1)) DX11_fitsOf_1 43 rfl
theorem dX11_fitsOf_176 : decode cX11_fitsOf 176 = .ok (.invokestatic 505, 3) := dAt (x := (176, .invokestatic 505, 3)) DX11_fitsOf_1 44 rfl
theorem dX11_fitsOf_179 : decode cX11_fitsOf 179 = .ok (.aload_n 0, 1) := dAt (x := (179, .aload_n 0, 1)) DX11_fitsOf_1 45 rfl
theorem dX11_fitsOf_180 : decode cX11_fitsOf 180 = .ok (.getfield 142, 3) := dAt (x := (180, .getfield 142, 3)) DX11_fitsOf_1 46 rfl
theorem dX11_fitsOf_183 : decode cX11_fitsOf 183 = .ok (.iload 6, 2) := dAt (x := (183, .iload 6, 2)) DX11_fitsOf_1 47 rfl
theorem dX11_fitsOf_185 : decode cX11_fitsOf 185 = .ok (.iconst 2, 1) := dAt (x := (185, .iconst 2, 1)) DX11_fitsOf_1 48 rfl
theorem dX11_fitsOf_186 : decode cX11_fitsOf 186 = .ok (.iadd, 1) := dAt (x := (186, .iadd, 1)) DX11_fitsOf_1 49 rfl
theorem dX11_fitsOf_187 : decode cX11_fitsOf 187 = .ok (.iaload, 1) := dAt (x := (187, .iaload, 1)) DX11_fitsOf_1 50 rfl
theorem dX11_fitsOf_188 : decode cX11_fitsOf 188 = .ok (.iconst 1, 1) := dAt (x := (188, .iconst 1, 1)) DX11_fitsOf_1 51 rfl
theorem dX11_fitsOf_189 : decode cX11_fitsOf 189 = .ok (.if_icmp .ne 7, 3) := dAt (x := (189, .if_icmp .ne 7, 3)) DX11_fitsOf_1 52 rfl
theorem dX11_fitsOf_192 : decode cX11_fitsOf 192 = .ok (.iconst 1, 1) := dAt (x := (192, .iconst 1, 1)) DX11_fitsOf_1 53 rfl
theorem dX11_fitsOf_193 : decode cX11_fitsOf 193 = .ok (.goto 4, 3) := dAt (x := (193, .goto 4, 3)) DX11_fitsOf_1 54 rfl
theorem dX11_fitsOf_196 : decode cX11_fitsOf 196 = .ok (.iconst 0, 1) := dAt (x := (196, .iconst 0, 1)) DX11_fitsOf_1 55 rfl
theorem dX11_fitsOf_197 : decode cX11_fitsOf 197 = .ok (.if_icmp .ne 7, 3) := dAt (x := (197, .if_icmp .ne 7, 3)) DX11_fitsOf_1 56 rfl
theorem dX11_fitsOf_200 : decode cX11_fitsOf 200 = .ok (.iconst 1, 1) := dAt (x := (200, .iconst 1, 1)) DX11_fitsOf_1 57 rfl
theorem dX11_fitsOf_201 : decode cX11_fitsOf 201 = .ok (.goto 4, 3) := dAt (x := (201, .goto 4, 3)) DX11_fitsOf_1 58 rfl
theorem dX11_fitsOf_204 : decode cX11_fitsOf 204 = .ok (.iconst 0, 1) := dAt (x := (204, .iconst 0, 1)) DX11_fitsOf_1 59 rfl
def lDX11_fitsOf_2 : List (Nat × Instr × Nat) := [(205, .istore 4, 2), (207, .iinc 5 1, 3), (210, .goto (-98), 3), (213, .iload_n 2, 1), (214, .iload 4, 2), (216, .ifCond .eq 9, 3), (219, .iconst 1, 1), (220, .iload_n 3, 1), (221, .ishl, 1), (222, .goto 4, 3), (225, .iconst 0, 1), (226, .ior, 1), (227, .istore_n 2, 1), (228, .iinc 3 1, 3), (231, .goto (-151), 3), (234, .iload_n 2, 1), (235, .ireturn, 1)]
theorem DX11_fitsOf_2 : dAll cX11_fitsOf lDX11_fitsOf_2 = true := by decide +kernel
theorem dX11_fitsOf_205 : decode cX11_fitsOf 205 = .ok (.istore 4, 2) := dAt (x := (205, .istore 4, 2)) DX11_fitsOf_2 0 rfl
theorem dX11_fitsOf_207 : decode cX11_fitsOf 207 = .ok (.iinc 5 1, 3) := dAt (x := (207, .iinc 5 1, 3)) DX11_fitsOf_2 1 rfl
theorem dX11_fitsOf_210 : decode cX11_fitsOf 210 = .ok (.goto (-98), 3) := dAt (x := (210, .goto (-98), 3)) DX11_fitsOf_2 2 rfl
theorem dX11_fitsOf_213 : decode cX11_fitsOf 213 = .ok (.iload_n 2, 1) := dAt (x := (213, .iload_n 2, 1)) DX11_fitsOf_2 3 rfl
theorem dX11_fitsOf_214 : decode cX11_fitsOf 214 = .ok (.iload 4, 2) := dAt (x := (214, .iload 4, 2)) DX11_fitsOf_2 4 rfl
theorem dX11_fitsOf_216 : decode cX11_fitsOf 216 = .ok (.ifCond .eq 9, 3) := dAt (x := (216, .ifCond .eq 9, 3)) DX11_fitsOf_2 5 rfl
theorem dX11_fitsOf_219 : decode cX11_fitsOf 219 = .ok (.iconst 1, 1) := dAt (x := (219, .iconst 1, 1)) DX11_fitsOf_2 6 rfl
theorem dX11_fitsOf_220 : decode cX11_fitsOf 220 = .ok (.iload_n 3, 1) := dAt (x := (220, .iload_n 3, 1)) DX11_fitsOf_2 7 rfl
theorem dX11_fitsOf_221 : decode cX11_fitsOf 221 = .ok (.ishl, 1) := dAt (x := (221, .ishl, 1)) DX11_fitsOf_2 8 rfl
theorem dX11_fitsOf_222 : decode cX11_fitsOf 222 = .ok (.goto 4, 3) := dAt (x := (222, .goto 4, 3)) DX11_fitsOf_2 9 rfl
theorem dX11_fitsOf_225 : decode cX11_fitsOf 225 = .ok (.iconst 0, 1) := dAt (x := (225, .iconst 0, 1)) DX11_fitsOf_2 10 rfl
theorem dX11_fitsOf_226 : decode cX11_fitsOf 226 = .ok (.ior, 1) := dAt (x := (226, .ior, 1)) DX11_fitsOf_2 11 rfl
theorem dX11_fitsOf_227 : decode cX11_fitsOf 227 = .ok (.istore_n 2, 1) := dAt (x := (227, .istore_n 2, 1)) DX11_fitsOf_2 12 rfl
theorem dX11_fitsOf_228 : decode cX11_fitsOf 228 = .ok (.iinc 3 1, 3) := dAt (x := (228, .iinc 3 1, 3)) DX11_fitsOf_2 13 rfl
theorem dX11_fitsOf_231 : decode cX11_fitsOf 231 = .ok (.goto (-151), 3) := dAt (x := (231, .goto (-151), 3)) DX11_fitsOf_2 14 rfl
theorem dX11_fitsOf_234 : decode cX11_fitsOf 234 = .ok (.iload_n 2, 1) := dAt (x := (234, .iload_n 2, 1)) DX11_fitsOf_2 15 rfl
theorem dX11_fitsOf_235 : decode cX11_fitsOf 235 = .ok (.ireturn, 1) := dAt (x := (235, .ireturn, 1)) DX11_fitsOf_2 16 rfl
def lDX11_fits_0 : List (Nat × Instr × Nat) := [(0, .aload_n 0, 1), (1, .iconst 0, 1), (2, .putfield 160, 3), (5, .aload_n 0, 1), (6, .iload_n 1, 1), (7, .invokevirtual 456, 3), (10, .ifCond .eq 11, 3), (13, .aload_n 0, 1), (14, .iload_n 1, 1), (15, .invokevirtual 508, 3), (18, .goto 4, 3), (21, .iconst (-1), 1), (22, .ireturn, 1)]
theorem DX11_fits_0 : dAll cX11_fits lDX11_fits_0 = true := by decide +kernel
theorem dX11_fits_0 : decode cX11_fits 0 = .ok (.aload_n 0, 1) := dAt (x := (0, .aload_n 0, 1)) DX11_fits_0 0 rfl
theorem dX11_fits_1 : decode cX11_fits 1 = .ok (.iconst 0, 1) := dAt (x := (1, .iconst 0, 1)) DX11_fits_0 1 rfl
theorem dX11_fits_2 : decode cX11_fits 2 = .ok (.putfield 160, 3) := dAt (x := (2, .putfield 160, 3)) DX11_fits_0 2 rfl
theorem dX11_fits_5 : decode cX11_fits 5 = .ok (.aload_n 0, 1) := dAt (x := (5, .aload_n 0, 1)) DX11_fits_0 3 rfl
theorem dX11_fits_6 : decode cX11_fits 6 = .ok (.iload_n 1, 1) := dAt (x := (6, .iload_n 1, 1)) DX11_fits_0 4 rfl
theorem dX11_fits_7 : decode cX11_fits 7 = .ok (.invokevirtual 456, 3) := dAt (x := (7, .invokevirtual 456, 3)) DX11_fits_0 5 rfl
theorem dX11_fits_10 : decode cX11_fits 10 = .ok (.ifCond .eq 11, 3) := dAt (x := (10, .ifCond .eq 11, 3)) DX11_fits_0 6 rfl
theorem dX11_fits_13 : decode cX11_fits 13 = .ok (.aload_n 0, 1) := dAt (x := (13, .aload_n 0, 1)) DX11_fits_0 7 rfl
theorem dX11_fits_14 : decode cX11_fits 14 = .ok (.iload_n 1, 1) := dAt (x := (14, .iload_n 1, 1)) DX11_fits_0 8 rfl
theorem dX11_fits_15 : decode cX11_fits 15 = .ok (.invokevirtual 508, 3) := dAt (x := (15, .invokevirtual 508, 3)) DX11_fits_0 9 rfl
theorem dX11_fits_18 : decode cX11_fits 18 = .ok (.goto 4, 3) := dAt (x := (18, .goto 4, 3)) DX11_fits_0 10 rfl
theorem dX11_fits_21 : decode cX11_fits 21 = .ok (.iconst (-1), 1) := dAt (x := (21, .iconst (-1), 1)) DX11_fits_0 11 rfl
theorem dX11_fits_22 : decode cX11_fits 22 = .ok (.ireturn, 1) := dAt (x := (22, .ireturn, 1)) DX11_fits_0 12 rfl
def lDX11_ask_0 : List (Nat × Instr × Nat) := [(0, .aload_n 0, 1), (1, .iconst 0, 1), (2, .putfield 160, 3), (5, .aload_n 0, 1), (6, .iload_n 1, 1), (7, .invokevirtual 456, 3), (10, .ifCond .eq 12, 3), (13, .iload_n 2, 1), (14, .iconst 0, 1), (15, .iconst 1, 1), (16, .invokestatic 205, 3), (19, .ifCond .ne 5, 3), (22, .iconst (-1), 1), (23, .ireturn, 1), (24, .aload_n 0, 1), (25, .iload_n 1, 1), (26, .invokevirtual 508, 3), (29, .istore_n 3, 1), (30, .iconst 0, 1), (31, .istore 4, 2), (33, .iconst (-1), 1), (34, .istore 5, 2), (36, .iconst 0, 1), (37, .istore 6, 2), (39, .iload 6, 2), (41, .iconst 1, 1), (42, .aload_n 0, 1), (43, .getfield 240, 3), (46, .ishl, 1), (47, .if_icmp .ge 105, 3), (50, .iconst 0, 1), (51, .istore 7, 2), (53, .iconst 0, 1), (54, .istore 8, 2), (56, .iload 8, 2), (58, .bipush 17, 2), (60, .if_icmp .ge 38, 3), (63, .iload 7, 2), (65, .iload_n 3, 1), (66, .iload 8, 2), (68, .invokestatic 372, 3), (71, .ifCond .eq 17, 3), (74, .iload 8, 2), (76, .iload 6, 2), (78, .invokestatic 505, 3), (81, .ifCond .eq 7, 3), (84, .iconst 1, 1), (85, .goto 4, 3), (88, .iconst 0, 1), (89, .iadd, 1), (90, .istore 7, 2), (92, .iinc 8 1, 3), (95, .goto (-39), 3), (98, .iload_n 3, 1), (99, .invokestatic 381, 3), (102, .iload 7, 2), (104, .isub, 1), (105, .istore 8, 2), (107, .iload 7, 2), (109, .iload 8, 2)]
theorem DX11_ask_0 : dAll cX11_ask lDX11_ask_0 = true := by decide +kernel
theorem dX11_ask_0 : decode cX11_ask 0 = .ok (.aload_n 0, 1) := dAt (x := (0, .aload_n 0, 1)) DX11_ask_0 0 rfl
theorem dX11_ask_1 : decode cX11_ask 1 = .ok (.iconst 0, 1) := dAt (x := (1, .iconst 0, 1)) DX11_ask_0 1 rfl
theorem dX11_ask_2 : decode cX11_ask 2 = .ok (.putfield 160, 3) := dAt (x := (2, .putfield 160, 3)) DX11_ask_0 2 rfl
theorem dX11_ask_5 : decode cX11_ask 5 = .ok (.aload_n 0, 1) := dAt (x := (5, .aload_n 0, 1)) DX11_ask_0 3 rfl
theorem dX11_ask_6 : decode cX11_ask 6 = .ok (.iload_n 1, 1) := dAt (x := (6, .iload_n 1, 1)) DX11_ask_0 4 rfl
theorem dX11_ask_7 : decode cX11_ask 7 = .ok (.invokevirtual 456, 3) := dAt (x := (7, .invokevirtual 456, 3)) DX11_ask_0 5 rfl
theorem dX11_ask_10 : decode cX11_ask 10 = .ok (.ifCond .eq 12, 3) := dAt (x := (10, .ifCond .eq 12, 3)) DX11_ask_0 6 rfl
theorem dX11_ask_13 : decode cX11_ask 13 = .ok (.iload_n 2, 1) := dAt (x := (13, .iload_n 2, 1)) DX11_ask_0 7 rfl
theorem dX11_ask_14 : decode cX11_ask 14 = .ok (.iconst 0, 1) := dAt (x := (14, .iconst 0, 1)) DX11_ask_0 8 rfl
theorem dX11_ask_15 : decode cX11_ask 15 = .ok (.iconst 1, 1) := dAt (x := (15, .iconst 1, 1)) DX11_ask_0 9 rfl
theorem dX11_ask_16 : decode cX11_ask 16 = .ok (.invokestatic 205, 3) := dAt (x := (16, .invokestatic 205, 3)) DX11_ask_0 10 rfl
theorem dX11_ask_19 : decode cX11_ask 19 = .ok (.ifCond .ne 5, 3) := dAt (x := (19, .ifCond .ne 5, 3)) DX11_ask_0 11 rfl
theorem dX11_ask_22 : decode cX11_ask 22 = .ok (.iconst (-1), 1) := dAt (x := (22, .iconst (-1), 1)) DX11_ask_0 12 rfl
theorem dX11_ask_23 : decode cX11_ask 23 = .ok (.ireturn, 1) := dAt (x := (23, .ireturn, 1)) DX11_ask_0 13 rfl
theorem dX11_ask_24 : decode cX11_ask 24 = .ok (.aload_n 0, 1) := dAt (x := (24, .aload_n 0, 1)) DX11_ask_0 14 rfl
theorem dX11_ask_25 : decode cX11_ask 25 = .ok (.iload_n 1, 1) := dAt (x := (25, .iload_n 1, 1)) DX11_ask_0 15 rfl
theorem dX11_ask_26 : decode cX11_ask 26 = .ok (.invokevirtual 508, 3) := dAt (x := (26, .invokevirtual 508, 3)) DX11_ask_0 16 rfl
theorem dX11_ask_29 : decode cX11_ask 29 = .ok (.istore_n 3, 1) := dAt (x := (29, .istore_n 3, 1)) DX11_ask_0 17 rfl
theorem dX11_ask_30 : decode cX11_ask 30 = .ok (.iconst 0, 1) := dAt (x := (30, .iconst 0, 1)) DX11_ask_0 18 rfl
theorem dX11_ask_31 : decode cX11_ask 31 = .ok (.istore 4, 2) := dAt (x := (31, .istore 4, 2)) DX11_ask_0 19 rfl
theorem dX11_ask_33 : decode cX11_ask 33 = .ok (.iconst (-1), 1) := dAt (x := (33, .iconst (-1), 1)) DX11_ask_0 20 rfl
theorem dX11_ask_34 : decode cX11_ask 34 = .ok (.istore 5, 2) := dAt (x := (34, .istore 5, 2)) DX11_ask_0 21 rfl
theorem dX11_ask_36 : decode cX11_ask 36 = .ok (.iconst 0, 1) := dAt (x := (36, .iconst 0, 1)) DX11_ask_0 22 rfl
theorem dX11_ask_37 : decode cX11_ask 37 = .ok (.istore 6, 2) := dAt (x := (37, .istore 6, 2)) DX11_ask_0 23 rfl
theorem dX11_ask_39 : decode cX11_ask 39 = .ok (.iload 6, 2) := dAt (x := (39, .iload 6, 2)) DX11_ask_0 24 rfl
theorem dX11_ask_41 : decode cX11_ask 41 = .ok (.iconst 1, 1) := dAt (x := (41, .iconst 1, 1)) DX11_ask_0 25 rfl
theorem dX11_ask_42 : decode cX11_ask 42 = .ok (.aload_n 0, 1) := dAt (x := (42, .aload_n 0, 1)) DX11_ask_0 26 rfl
theorem dX11_ask_43 : decode cX11_ask 43 = .ok (.getfield 240, 3) := dAt (x := (43, .getfield 240, 3)) DX11_ask_0 27 rfl
theorem dX11_ask_46 : decode cX11_ask 46 = .ok (.ishl, 1) := dAt (x := (46, .ishl, 1)) DX11_ask_0 28 rfl
theorem dX11_ask_47 : decode cX11_ask 47 = .ok (.if_icmp .ge 105, 3) := dAt (x := (47, .if_icmp .ge 105, 3)) DX11_ask_0 29 rfl
theorem dX11_ask_50 : decode cX11_ask 50 = .ok (.iconst 0, 1) := dAt (x := (50, .iconst 0, 1)) DX11_ask_0 30 rfl
theorem dX11_ask_51 : decode cX11_ask 51 = .ok (.istore 7, 2) := dAt (x := (51, .istore 7, 2)) DX11_ask_0 31 rfl
theorem dX11_ask_53 : decode cX11_ask 53 = .ok (.iconst 0, 1) := dAt (x := (53, .iconst 0, 1)) DX11_ask_0 32 rfl
theorem dX11_ask_54 : decode cX11_ask 54 = .ok (.istore 8, 2) := dAt (x := (54, .istore 8, 2)) DX11_ask_0 33 rfl
theorem dX11_ask_56 : decode cX11_ask 56 = .ok (.iload 8, 2) := dAt (x := (56, .iload 8, 2)) DX11_ask_0 34 rfl
theorem dX11_ask_58 : decode cX11_ask 58 = .ok (.bipush 17, 2) := dAt (x := (58, .bipush 17, 2)) DX11_ask_0 35 rfl
theorem dX11_ask_60 : decode cX11_ask 60 = .ok (.if_icmp .ge 38, 3) := dAt (x := (60, .if_icmp .ge 38, 3)) DX11_ask_0 36 rfl
theorem dX11_ask_63 : decode cX11_ask 63 = .ok (.iload 7, 2) := dAt (x := (63, .iload 7, 2)) DX11_ask_0 37 rfl
theorem dX11_ask_65 : decode cX11_ask 65 = .ok (.iload_n 3, 1) := dAt (x := (65, .iload_n 3, 1)) DX11_ask_0 38 rfl
theorem dX11_ask_66 : decode cX11_ask 66 = .ok (.iload 8, 2) := dAt (x := (66, .iload 8, 2)) DX11_ask_0 39 rfl
theorem dX11_ask_68 : decode cX11_ask 68 = .ok (.invokestatic 372, 3) := dAt (x := (68, .invokestatic 372, 3)) DX11_ask_0 40 rfl
theorem dX11_ask_71 : decode cX11_ask 71 = .ok (.ifCond .eq 17, 3) := dAt (x := (71, .ifCond .eq 17, 3)) DX11_ask_0 41 rfl
theorem dX11_ask_74 : decode cX11_ask 74 = .ok (.iload 8, 2) := dAt (x := (74, .iload 8, 2)) DX11_ask_0 42 rfl
theorem dX11_ask_76 : decode cX11_ask 76 = .ok (.iload 6, 2) := dAt (x := (76, .iload 6, 2)) DX11_ask_0 43 rfl
theorem dX11_ask_78 : decode cX11_ask 78 = .ok (.invokestatic 505, 3) := dAt (x := (78, .invokestatic 505, 3)) DX11_ask_0 44 rfl
theorem dX11_ask_81 : decode cX11_ask 81 = .ok (.ifCond .eq 7, 3) := dAt (x := (81, .ifCond .eq 7, 3)) DX11_ask_0 45 rfl
theorem dX11_ask_84 : decode cX11_ask 84 = .ok (.iconst 1, 1) := dAt (x := (84, .iconst 1, 1)) DX11_ask_0 46 rfl
theorem dX11_ask_85 : decode cX11_ask 85 = .ok (.goto 4, 3) := dAt (x := (85, .goto 4, 3)) DX11_ask_0 47 rfl
theorem dX11_ask_88 : decode cX11_ask 88 = .ok (.iconst 0, 1) := dAt (x := (88, .iconst 0, 1)) DX11_ask_0 48 rfl
theorem dX11_ask_89 : decode cX11_ask 89 = .ok (.iadd, 1) := dAt (x := (89, .iadd, 1)) DX11_ask_0 49 rfl
theorem dX11_ask_90 : decode cX11_ask 90 = .ok (.istore 7, 2) := dAt (x := (90, .istore 7, 2)) DX11_ask_0 50 rfl
theorem dX11_ask_92 : decode cX11_ask 92 = .ok (.iinc 8 1, 3) := dAt (x := (92, .iinc 8 1, 3)) DX11_ask_0 51 rfl
theorem dX11_ask_95 : decode cX11_ask 95 = .ok (.goto (-39), 3) := dAt (x := (95, .goto (-39), 3)) DX11_ask_0 52 rfl
theorem dX11_ask_98 : decode cX11_ask 98 = .ok (.iload_n 3, 1) := dAt (x := (98, .iload_n 3, 1)) DX11_ask_0 53 rfl
theorem dX11_ask_99 : decode cX11_ask 99 = .ok (.invokestatic 381, 3) := dAt (x := (99, .invokestatic 381, 3)) DX11_ask_0 54 rfl
theorem dX11_ask_102 : decode cX11_ask 102 = .ok (.iload 7, 2) := dAt (x := (102, .iload 7, 2)) DX11_ask_0 55 rfl
theorem dX11_ask_104 : decode cX11_ask 104 = .ok (.isub, 1) := dAt (x := (104, .isub, 1)) DX11_ask_0 56 rfl
theorem dX11_ask_105 : decode cX11_ask 105 = .ok (.istore 8, 2) := dAt (x := (105, .istore 8, 2)) DX11_ask_0 57 rfl
theorem dX11_ask_107 : decode cX11_ask 107 = .ok (.iload 7, 2) := dAt (x := (107, .iload 7, 2)) DX11_ask_0 58 rfl
theorem dX11_ask_109 : decode cX11_ask 109 = .ok (.iload 8, 2) := dAt (x := (109, .iload 8, 2)) DX11_ask_0 59 rfl
def lDX11_ask_1 : List (Nat × Instr × Nat) := [(111, .if_icmp .le 8, 3), (114, .iload 7, 2), (116, .goto 5, 3), (119, .iload 8, 2), (121, .istore 9, 2), (123, .iload 5, 2), (125, .ifCond .lt 13, 3), (128, .iload 9, 2), (130, .iload 5, 2), (132, .if_icmp .lt 6, 3), (135, .goto 11, 3), (138, .iload 6, 2), (140, .istore 4, 2), (142, .iload 9, 2), (144, .istore 5, 2), (146, .iinc 6 1, 3), (149, .goto (-110), 3), (152, .iload_n 2, 1), (153, .ifCond .ne 8, 3), (156, .iload 4, 2), (158, .goto 5, 3), (161, .iload 5, 2), (163, .ireturn, 1)]
theorem DX11_ask_1 : dAll cX11_ask lDX11_ask_1 = true := by decide +kernel
theorem dX11_ask_111 : decode cX11_ask 111 = .ok (.if_icmp .le 8, 3) := dAt (x := (111, .if_icmp .le 8, 3)) DX11_ask_1 0 rfl
theorem dX11_ask_114 : decode cX11_ask 114 = .ok (.iload 7, 2) := dAt (x := (114, .iload 7, 2)) DX11_ask_1 1 rfl
theorem dX11_ask_116 : decode cX11_ask 116 = .ok (.goto 5, 3) := dAt (x := (116, .goto 5, 3)) DX11_ask_1 2 rfl
theorem dX11_ask_119 : decode cX11_ask 119 = .ok (.iload 8, 2) := dAt (x := (119, .iload 8, 2)) DX11_ask_1 3 rfl
theorem dX11_ask_121 : decode cX11_ask 121 = .ok (.istore 9, 2) := dAt (x := (121, .istore 9, 2)) DX11_ask_1 4 rfl
theorem dX11_ask_123 : decode cX11_ask 123 = .ok (.iload 5, 2) := dAt (x := (123, .iload 5, 2)) DX11_ask_1 5 rfl
theorem dX11_ask_125 : decode cX11_ask 125 = .ok (.ifCond .lt 13, 3) := dAt (x := (125, .ifCond .lt 13, 3)) DX11_ask_1 6 rfl
theorem dX11_ask_128 : decode cX11_ask 128 = .ok (.iload 9, 2) := dAt (x := (128, .iload 9, 2)) DX11_ask_1 7 rfl
theorem dX11_ask_130 : decode cX11_ask 130 = .ok (.iload 5, 2) := dAt (x := (130, .iload 5, 2)) DX11_ask_1 8 rfl
theorem dX11_ask_132 : decode cX11_ask 132 = .ok (.if_icmp .lt 6, 3) := dAt (x := (132, .if_icmp .lt 6, 3)) DX11_ask_1 9 rfl
theorem dX11_ask_135 : decode cX11_ask 135 = .ok (.goto 11, 3) := dAt (x := (135, .goto 11, 3)) DX11_ask_1 10 rfl
theorem dX11_ask_138 : decode cX11_ask 138 = .ok (.iload 6, 2) := dAt (x := (138, .iload 6, 2)) DX11_ask_1 11 rfl
theorem dX11_ask_140 : decode cX11_ask 140 = .ok (.istore 4, 2) := dAt (x := (140, .istore 4, 2)) DX11_ask_1 12 rfl
theorem dX11_ask_142 : decode cX11_ask 142 = .ok (.iload 9, 2) := dAt (x := (142, .iload 9, 2)) DX11_ask_1 13 rfl
theorem dX11_ask_144 : decode cX11_ask 144 = .ok (.istore 5, 2) := dAt (x := (144, .istore 5, 2)) DX11_ask_1 14 rfl
theorem dX11_ask_146 : decode cX11_ask 146 = .ok (.iinc 6 1, 3) := dAt (x := (146, .iinc 6 1, 3)) DX11_ask_1 15 rfl
theorem dX11_ask_149 : decode cX11_ask 149 = .ok (.goto (-110), 3) := dAt (x := (149, .goto (-110), 3)) DX11_ask_1 16 rfl
theorem dX11_ask_152 : decode cX11_ask 152 = .ok (.iload_n 2, 1) := dAt (x := (152, .iload_n 2, 1)) DX11_ask_1 17 rfl
theorem dX11_ask_153 : decode cX11_ask 153 = .ok (.ifCond .ne 8, 3) := dAt (x := (153, .ifCond .ne 8, 3)) DX11_ask_1 18 rfl
theorem dX11_ask_156 : decode cX11_ask 156 = .ok (.iload 4, 2) := dAt (x := (156, .iload 4, 2)) DX11_ask_1 19 rfl
theorem dX11_ask_158 : decode cX11_ask 158 = .ok (.goto 5, 3) := dAt (x := (158, .goto 5, 3)) DX11_ask_1 20 rfl
theorem dX11_ask_161 : decode cX11_ask 161 = .ok (.iload 5, 2) := dAt (x := (161, .iload 5, 2)) DX11_ask_1 21 rfl
theorem dX11_ask_163 : decode cX11_ask 163 = .ok (.ireturn, 1) := dAt (x := (163, .ireturn, 1)) DX11_ask_1 22 rfl
def lDX11_chance_0 : List (Nat × Instr × Nat) := [(0, .aload_n 0, 1), (1, .iconst 0, 1), (2, .putfield 160, 3), (5, .iload_n 1, 1), (6, .ifCond .lt 21, 3), (9, .iload_n 2, 1), (10, .iconst 1, 1), (11, .bipush 99, 2), (13, .invokestatic 205, 3), (16, .ifCond .eq 11, 3), (19, .aload_n 0, 1), (20, .iload_n 3, 1), (21, .invokevirtual 456, 3), (24, .ifCond .ne 5, 3), (27, .iconst (-1), 1), (28, .ireturn, 1), (29, .aload_n 0, 1), (30, .getfield 387, 3), (33, .lstore 4, 2), (35, .aload_n 0, 1), (36, .iload_n 1, 1), (37, .i2l, 1), (38, .putfield 387, 3), (41, .iconst 0, 1), (42, .istore 6, 2), (44, .iconst 0, 1), (45, .istore 7, 2), (47, .iload 7, 2), (49, .bipush 10, 2), (51, .if_icmp .ge 38, 3), (54, .aload_n 0, 1), (55, .invokevirtual 470, 3), (58, .aload_n 0, 1), (59, .iconst 1, 1), (60, .putfield 403, 3), (63, .aload_n 0, 1), (64, .iload_n 2, 1), (65, .invokevirtual 473, 3), (68, .iload 6, 2), (70, .aload_n 0, 1), (71, .getfield 97, 3), (74, .iconst 1, 1), (75, .iaload, 1), (76, .iload_n 3, 1), (77, .ishr, 1), (78, .iconst 1, 1), (79, .iand, 1), (80, .iadd, 1), (81, .istore 6, 2), (83, .iinc 7 1, 3), (86, .goto (-39), 3), (89, .aload_n 0, 1), (90, .iconst 0, 1), (91, .putfield 403, 3), (94, .aload_n 0, 1), (95, .lload 4, 2), (97, .putfield 387, 3), (100, .iload 6, 2), (102, .ireturn, 1)]
theorem DX11_chance_0 : dAll cX11_chance lDX11_chance_0 = true := by decide +kernel
theorem dX11_chance_0 : decode cX11_chance 0 = .ok (.aload_n 0, 1) := dAt (x := (0, .aload_n 0, 1)) DX11_chance_0 0 rfl
theorem dX11_chance_1 : decode cX11_chance 1 = .ok (.iconst 0, 1) := dAt (x := (1, .iconst 0, 1)) DX11_chance_0 1 rfl
theorem dX11_chance_2 : decode cX11_chance 2 = .ok (.putfield 160, 3) := dAt (x := (2, .putfield 160, 3)) DX11_chance_0 2 rfl
theorem dX11_chance_5 : decode cX11_chance 5 = .ok (.iload_n 1, 1) := dAt (x := (5, .iload_n 1, 1)) DX11_chance_0 3 rfl
theorem dX11_chance_6 : decode cX11_chance 6 = .ok (.ifCond .lt 21, 3) := dAt (x := (6, .ifCond .lt 21, 3)) DX11_chance_0 4 rfl
theorem dX11_chance_9 : decode cX11_chance 9 = .ok (.iload_n 2, 1) := dAt (x := (9, .iload_n 2, 1)) DX11_chance_0 5 rfl
theorem dX11_chance_10 : decode cX11_chance 10 = .ok (.iconst 1, 1) := dAt (x := (10, .iconst 1, 1)) DX11_chance_0 6 rfl
theorem dX11_chance_11 : decode cX11_chance 11 = .ok (.bipush 99, 2) := dAt (x := (11, .bipush 99, 2)) DX11_chance_0 7 rfl
theorem dX11_chance_13 : decode cX11_chance 13 = .ok (.invokestatic 205, 3) := dAt (x := (13, .invokestatic 205, 3)) DX11_chance_0 8 rfl
theorem dX11_chance_16 : decode cX11_chance 16 = .ok (.ifCond .eq 11, 3) := dAt (x := (16, .ifCond .eq 11, 3)) DX11_chance_0 9 rfl
theorem dX11_chance_19 : decode cX11_chance 19 = .ok (.aload_n 0, 1) := dAt (x := (19, .aload_n 0, 1)) DX11_chance_0 10 rfl
theorem dX11_chance_20 : decode cX11_chance 20 = .ok (.iload_n 3, 1) := dAt (x := (20, .iload_n 3, 1)) DX11_chance_0 11 rfl
theorem dX11_chance_21 : decode cX11_chance 21 = .ok (.invokevirtual 456, 3) := dAt (x := (21, .invokevirtual 456, 3)) DX11_chance_0 12 rfl
theorem dX11_chance_24 : decode cX11_chance 24 = .ok (.ifCond .ne 5, 3) := dAt (x := (24, .ifCond .ne 5, 3)) DX11_chance_0 13 rfl
theorem dX11_chance_27 : decode cX11_chance 27 = .ok (.iconst (-1), 1) := dAt (x := (27, .iconst (-1), 1)) DX11_chance_0 14 rfl
theorem dX11_chance_28 : decode cX11_chance 28 = .ok (.ireturn, 1) := dAt (x := (28, .ireturn, 1)) DX11_chance_0 15 rfl
theorem dX11_chance_29 : decode cX11_chance 29 = .ok (.aload_n 0, 1) := dAt (x := (29, .aload_n 0, 1)) DX11_chance_0 16 rfl
theorem dX11_chance_30 : decode cX11_chance 30 = .ok (.getfield 387, 3) := dAt (x := (30, .getfield 387, 3)) DX11_chance_0 17 rfl
theorem dX11_chance_33 : decode cX11_chance 33 = .ok (.lstore 4, 2) := dAt (x := (33, .lstore 4, 2)) DX11_chance_0 18 rfl
theorem dX11_chance_35 : decode cX11_chance 35 = .ok (.aload_n 0, 1) := dAt (x := (35, .aload_n 0, 1)) DX11_chance_0 19 rfl
theorem dX11_chance_36 : decode cX11_chance 36 = .ok (.iload_n 1, 1) := dAt (x := (36, .iload_n 1, 1)) DX11_chance_0 20 rfl
theorem dX11_chance_37 : decode cX11_chance 37 = .ok (.i2l, 1) := dAt (x := (37, .i2l, 1)) DX11_chance_0 21 rfl
theorem dX11_chance_38 : decode cX11_chance 38 = .ok (.putfield 387, 3) := dAt (x := (38, .putfield 387, 3)) DX11_chance_0 22 rfl
theorem dX11_chance_41 : decode cX11_chance 41 = .ok (.iconst 0, 1) := dAt (x := (41, .iconst 0, 1)) DX11_chance_0 23 rfl
theorem dX11_chance_42 : decode cX11_chance 42 = .ok (.istore 6, 2) := dAt (x := (42, .istore 6, 2)) DX11_chance_0 24 rfl
theorem dX11_chance_44 : decode cX11_chance 44 = .ok (.iconst 0, 1) := dAt (x := (44, .iconst 0, 1)) DX11_chance_0 25 rfl
theorem dX11_chance_45 : decode cX11_chance 45 = .ok (.istore 7, 2) := dAt (x := (45, .istore 7, 2)) DX11_chance_0 26 rfl
theorem dX11_chance_47 : decode cX11_chance 47 = .ok (.iload 7, 2) := dAt (x := (47, .iload 7, 2)) DX11_chance_0 27 rfl
theorem dX11_chance_49 : decode cX11_chance 49 = .ok (.bipush 10, 2) := dAt (x := (49, .bipush 10, 2)) DX11_chance_0 28 rfl
theorem dX11_chance_51 : decode cX11_chance 51 = .ok (.if_icmp .ge 38, 3) := dAt (x := (51, .if_icmp .ge 38, 3)) DX11_chance_0 29 rfl
theorem dX11_chance_54 : decode cX11_chance 54 = .ok (.aload_n 0, 1) := dAt (x := (54, .aload_n 0, 1)) DX11_chance_0 30 rfl
theorem dX11_chance_55 : decode cX11_chance 55 = .ok (.invokevirtual 470, 3) := dAt (x := (55, .invokevirtual 470, 3)) DX11_chance_0 31 rfl
theorem dX11_chance_58 : decode cX11_chance 58 = .ok (.aload_n 0, 1) := dAt (x := (58, .aload_n 0, 1)) DX11_chance_0 32 rfl
theorem dX11_chance_59 : decode cX11_chance 59 = .ok (.iconst 1, 1) := dAt (x := (59, .iconst 1, 1)) DX11_chance_0 33 rfl
theorem dX11_chance_60 : decode cX11_chance 60 = .ok (.putfield 403, 3) := dAt (x := (60, .putfield 403, 3)) DX11_chance_0 34 rfl
theorem dX11_chance_63 : decode cX11_chance 63 = .ok (.aload_n 0, 1) := dAt (x := (63, .aload_n 0, 1)) DX11_chance_0 35 rfl
theorem dX11_chance_64 : decode cX11_chance 64 = .ok (.iload_n 2, 1) := dAt (x := (64, .iload_n 2, 1)) DX11_chance_0 36 rfl
theorem dX11_chance_65 : decode cX11_chance 65 = .ok (.invokevirtual 473, 3) := dAt (x := (65, .invokevirtual 473, 3)) DX11_chance_0 37 rfl
theorem dX11_chance_68 : decode cX11_chance 68 = .ok (.iload 6, 2) := dAt (x := (68, .iload 6, 2)) DX11_chance_0 38 rfl
theorem dX11_chance_70 : decode cX11_chance 70 = .ok (.aload_n 0, 1) := dAt (x := (70, .aload_n 0, 1)) DX11_chance_0 39 rfl
theorem dX11_chance_71 : decode cX11_chance 71 = .ok (.getfield 97, 3) := dAt (x := (71, .getfield 97, 3)) DX11_chance_0 40 rfl
theorem dX11_chance_74 : decode cX11_chance 74 = .ok (.iconst 1, 1) := dAt (x := (74, .iconst 1, 1)) DX11_chance_0 41 rfl
theorem dX11_chance_75 : decode cX11_chance 75 = .ok (.iaload, 1) := dAt (x := (75, .iaload, 1)) DX11_chance_0 42 rfl
theorem dX11_chance_76 : decode cX11_chance 76 = .ok (.iload_n 3, 1) := dAt (x := (76, .iload_n 3, 1)) DX11_chance_0 43 rfl
theorem dX11_chance_77 : decode cX11_chance 77 = .ok (.ishr, 1) := dAt (x := (77, .ishr, 1)) DX11_chance_0 44 rfl
theorem dX11_chance_78 : decode cX11_chance 78 = .ok (.iconst 1, 1) := dAt (x := (78, .iconst 1, 1)) DX11_chance_0 45 rfl
theorem dX11_chance_79 : decode cX11_chance 79 = .ok (.iand, 1) := dAt (x := (79, .iand, 1)) DX11_chance_0 46 rfl
theorem dX11_chance_80 : decode cX11_chance 80 = .ok (.iadd, 1) := dAt (x := (80, .iadd, 1)) DX11_chance_0 47 rfl
theorem dX11_chance_81 : decode cX11_chance 81 = .ok (.istore 6, 2) := dAt (x := (81, .istore 6, 2)) DX11_chance_0 48 rfl
theorem dX11_chance_83 : decode cX11_chance 83 = .ok (.iinc 7 1, 3) := dAt (x := (83, .iinc 7 1, 3)) DX11_chance_0 49 rfl
theorem dX11_chance_86 : decode cX11_chance 86 = .ok (.goto (-39), 3) := dAt (x := (86, .goto (-39), 3)) DX11_chance_0 50 rfl
theorem dX11_chance_89 : decode cX11_chance 89 = .ok (.aload_n 0, 1) := dAt (x := (89, .aload_n 0, 1)) DX11_chance_0 51 rfl
theorem dX11_chance_90 : decode cX11_chance 90 = .ok (.iconst 0, 1) := dAt (x := (90, .iconst 0, 1)) DX11_chance_0 52 rfl
theorem dX11_chance_91 : decode cX11_chance 91 = .ok (.putfield 403, 3) := dAt (x := (91, .putfield 403, 3)) DX11_chance_0 53 rfl
theorem dX11_chance_94 : decode cX11_chance 94 = .ok (.aload_n 0, 1) := dAt (x := (94, .aload_n 0, 1)) DX11_chance_0 54 rfl
theorem dX11_chance_95 : decode cX11_chance 95 = .ok (.lload 4, 2) := dAt (x := (95, .lload 4, 2)) DX11_chance_0 55 rfl
theorem dX11_chance_97 : decode cX11_chance 97 = .ok (.putfield 387, 3) := dAt (x := (97, .putfield 387, 3)) DX11_chance_0 56 rfl
theorem dX11_chance_100 : decode cX11_chance 100 = .ok (.iload 6, 2) := dAt (x := (100, .iload 6, 2)) DX11_chance_0 57 rfl
theorem dX11_chance_102 : decode cX11_chance 102 = .ok (.ireturn, 1) := dAt (x := (102, .ireturn, 1)) DX11_chance_0 58 rfl
def lDX11_tried_0 : List (Nat × Instr × Nat) := [(0, .aload_n 0, 1), (1, .iconst 0, 1), (2, .putfield 160, 3), (5, .iload_n 1, 1), (6, .iconst 0, 1), (7, .iconst 4, 1), (8, .invokestatic 205, 3), (11, .ifCond .eq 34, 3), (14, .iload_n 3, 1), (15, .iconst 0, 1), (16, .sipush 200, 3), (19, .invokestatic 205, 3), (22, .ifCond .eq 23, 3), (25, .iload_n 1, 1), (26, .iconst 2, 1), (27, .if_icmp .ne 14, 3), (30, .aload_n 0, 1), (31, .iload_n 2, 1), (32, .invokevirtual 456, 3), (35, .ifCond .ne 12, 3), (38, .goto 7, 3), (41, .iload_n 2, 1), (42, .ifCond .eq 5, 3), (45, .iconst (-1), 1), (46, .ireturn, 1), (47, .aload_n 0, 1), (48, .invokevirtual 470, 3), (51, .aload_n 0, 1), (52, .iload_n 1, 1), (53, .ifCond .ne 7, 3), (56, .iconst 1, 1), (57, .goto 4, 3), (60, .iconst 0, 1), (61, .putfield 406, 3), (64, .aload_n 0, 1), (65, .iload_n 1, 1), (66, .iconst 1, 1), (67, .if_icmp .ne 7, 3), (70, .iconst 1, 1), (71, .goto 4, 3), (74, .iconst 0, 1), (75, .putfield 409, 3), (78, .aload_n 0, 1), (79, .iload_n 1, 1), (80, .iconst 2, 1), (81, .if_icmp .ne 7, 3), (84, .iload_n 2, 1), (85, .goto 4, 3), (88, .iconst (-1), 1), (89, .putfield 418, 3), (92, .aload_n 0, 1), (93, .iload_n 1, 1), (94, .iconst 3, 1), (95, .if_icmp .ne 7, 3), (98, .iconst 1, 1), (99, .goto 4, 3), (102, .iconst 0, 1), (103, .putfield 412, 3), (106, .aload_n 0, 1), (107, .iload_n 1, 1)]
theorem DX11_tried_0 : dAll cX11_tried lDX11_tried_0 = true := by decide +kernel
theorem dX11_tried_0 : decode cX11_tried 0 = .ok (.aload_n 0, 1) := dAt (x := (0, .aload_n 0, 1)) DX11_tried_0 0 rfl
theorem dX11_tried_1 : decode cX11_tried 1 = .ok (.iconst 0, 1) := dAt (x := (1, .iconst 0, 1)) DX11_tried_0 1 rfl
theorem dX11_tried_2 : decode cX11_tried 2 = .ok (.putfield 160, 3) := dAt (x := (2, .putfield 160, 3)) DX11_tried_0 2 rfl
theorem dX11_tried_5 : decode cX11_tried 5 = .ok (.iload_n 1, 1) := dAt (x := (5, .iload_n 1, 1)) DX11_tried_0 3 rfl
theorem dX11_tried_6 : decode cX11_tried 6 = .ok (.iconst 0, 1) := dAt (x := (6, .iconst 0, 1)) DX11_tried_0 4 rfl
theorem dX11_tried_7 : decode cX11_tried 7 = .ok (.iconst 4, 1) := dAt (x := (7, .iconst 4, 1)) DX11_tried_0 5 rfl
theorem dX11_tried_8 : decode cX11_tried 8 = .ok (.invokestatic 205, 3) := dAt (x := (8, .invokestatic 205, 3)) DX11_tried_0 6 rfl
theorem dX11_tried_11 : decode cX11_tried 11 = .ok (.ifCond .eq 34, 3) := dAt (x := (11, .ifCond .eq 34, 3)) DX11_tried_0 7 rfl
theorem dX11_tried_14 : decode cX11_tried 14 = .ok (.iload_n 3, 1) := dAt (x := (14, .iload_n 3, 1)) DX11_tried_0 8 rfl
theorem dX11_tried_15 : decode cX11_tried 15 = .ok (.iconst 0, 1) := dAt (x := (15, .iconst 0, 1)) DX11_tried_0 9 rfl
theorem dX11_tried_16 : decode cX11_tried 16 = .ok (.sipush 200, 3) := dAt (x := (16, .sipush 200, 3)) DX11_tried_0 10 rfl
theorem dX11_tried_19 : decode cX11_tried 19 = .ok (.invokestatic 205, 3) := dAt (x := (19, .invokestatic 205, 3)) DX11_tried_0 11 rfl
theorem dX11_tried_22 : decode cX11_tried 22 = .ok (.ifCond .eq 23, 3) := dAt (x := (22, .ifCond .eq 23, 3)) DX11_tried_0 12 rfl
theorem dX11_tried_25 : decode cX11_tried 25 = .ok (.iload_n 1, 1) := dAt (x := (25, .iload_n 1, 1)) DX11_tried_0 13 rfl
theorem dX11_tried_26 : decode cX11_tried 26 = .ok (.iconst 2, 1) := dAt (x := (26, .iconst 2, 1)) DX11_tried_0 14 rfl
theorem dX11_tried_27 : decode cX11_tried 27 = .ok (.if_icmp .ne 14, 3) := dAt (x := (27, .if_icmp .ne 14, 3)) DX11_tried_0 15 rfl
theorem dX11_tried_30 : decode cX11_tried 30 = .ok (.aload_n 0, 1) := dAt (x := (30, .aload_n 0, 1)) DX11_tried_0 16 rfl
theorem dX11_tried_31 : decode cX11_tried 31 = .ok (.iload_n 2, 1) := dAt (x := (31, .iload_n 2, 1)) DX11_tried_0 17 rfl
theorem dX11_tried_32 : decode cX11_tried 32 = .ok (.invokevirtual 456, 3) := dAt (x := (32, .invokevirtual 456, 3)) DX11_tried_0 18 rfl
theorem dX11_tried_35 : decode cX11_tried 35 = .ok (.ifCond .ne 12, 3) := dAt (x := (35, .ifCond .ne 12, 3)) DX11_tried_0 19 rfl
theorem dX11_tried_38 : decode cX11_tried 38 = .ok (.goto 7, 3) := dAt (x := (38, .goto 7, 3)) DX11_tried_0 20 rfl
theorem dX11_tried_41 : decode cX11_tried 41 = .ok (.iload_n 2, 1) := dAt (x := (41, .iload_n 2, 1)) DX11_tried_0 21 rfl
theorem dX11_tried_42 : decode cX11_tried 42 = .ok (.ifCond .eq 5, 3) := dAt (x := (42, .ifCond .eq 5, 3)) DX11_tried_0 22 rfl
theorem dX11_tried_45 : decode cX11_tried 45 = .ok (.iconst (-1), 1) := dAt (x := (45, .iconst (-1), 1)) DX11_tried_0 23 rfl
theorem dX11_tried_46 : decode cX11_tried 46 = .ok (.ireturn, 1) := dAt (x := (46, .ireturn, 1)) DX11_tried_0 24 rfl
theorem dX11_tried_47 : decode cX11_tried 47 = .ok (.aload_n 0, 1) := dAt (x := (47, .aload_n 0, 1)) DX11_tried_0 25 rfl
theorem dX11_tried_48 : decode cX11_tried 48 = .ok (.invokevirtual 470, 3) := dAt (x := (48, .invokevirtual 470, 3)) DX11_tried_0 26 rfl
theorem dX11_tried_51 : decode cX11_tried 51 = .ok (.aload_n 0, 1) := dAt (x := (51, .aload_n 0, 1)) DX11_tried_0 27 rfl
theorem dX11_tried_52 : decode cX11_tried 52 = .ok (.iload_n 1, 1) := dAt (x := (52, .iload_n 1, 1)) DX11_tried_0 28 rfl
theorem dX11_tried_53 : decode cX11_tried 53 = .ok (.ifCond .ne 7, 3) := dAt (x := (53, .ifCond .ne 7, 3)) DX11_tried_0 29 rfl
theorem dX11_tried_56 : decode cX11_tried 56 = .ok (.iconst 1, 1) := dAt (x := (56, .iconst 1, 1)) DX11_tried_0 30 rfl
theorem dX11_tried_57 : decode cX11_tried 57 = .ok (.goto 4, 3) := dAt (x := (57, .goto 4, 3)) DX11_tried_0 31 rfl
theorem dX11_tried_60 : decode cX11_tried 60 = .ok (.iconst 0, 1) := dAt (x := (60, .iconst 0, 1)) DX11_tried_0 32 rfl
theorem dX11_tried_61 : decode cX11_tried 61 = .ok (.putfield 406, 3) := dAt (x := (61, .putfield 406, 3)) DX11_tried_0 33 rfl
theorem dX11_tried_64 : decode cX11_tried 64 = .ok (.aload_n 0, 1) := dAt (x := (64, .aload_n 0, 1)) DX11_tried_0 34 rfl
theorem dX11_tried_65 : decode cX11_tried 65 = .ok (.iload_n 1, 1) := dAt (x := (65, .iload_n 1, 1)) DX11_tried_0 35 rfl
theorem dX11_tried_66 : decode cX11_tried 66 = .ok (.iconst 1, 1) := dAt (x := (66, .iconst 1, 1)) DX11_tried_0 36 rfl
theorem dX11_tried_67 : decode cX11_tried 67 = .ok (.if_icmp .ne 7, 3) := dAt (x := (67, .if_icmp .ne 7, 3)) DX11_tried_0 37 rfl
theorem dX11_tried_70 : decode cX11_tried 70 = .ok (.iconst 1, 1) := dAt (x := (70, .iconst 1, 1)) DX11_tried_0 38 rfl
theorem dX11_tried_71 : decode cX11_tried 71 = .ok (.goto 4, 3) := dAt (x := (71, .goto 4, 3)) DX11_tried_0 39 rfl
theorem dX11_tried_74 : decode cX11_tried 74 = .ok (.iconst 0, 1) := dAt (x := (74, .iconst 0, 1)) DX11_tried_0 40 rfl
theorem dX11_tried_75 : decode cX11_tried 75 = .ok (.putfield 409, 3) := dAt (x := (75, .putfield 409, 3)) DX11_tried_0 41 rfl
theorem dX11_tried_78 : decode cX11_tried 78 = .ok (.aload_n 0, 1) := dAt (x := (78, .aload_n 0, 1)) DX11_tried_0 42 rfl
theorem dX11_tried_79 : decode cX11_tried 79 = .ok (.iload_n 1, 1) := dAt (x := (79, .iload_n 1, 1)) DX11_tried_0 43 rfl
theorem dX11_tried_80 : decode cX11_tried 80 = .ok (.iconst 2, 1) := dAt (x := (80, .iconst 2, 1)) DX11_tried_0 44 rfl
theorem dX11_tried_81 : decode cX11_tried 81 = .ok (.if_icmp .ne 7, 3) := dAt (x := (81, .if_icmp .ne 7, 3)) DX11_tried_0 45 rfl
theorem dX11_tried_84 : decode cX11_tried 84 = .ok (.iload_n 2, 1) := dAt (x := (84, .iload_n 2, 1)) DX11_tried_0 46 rfl
theorem dX11_tried_85 : decode cX11_tried 85 = .ok (.goto 4, 3) := dAt (x := (85, .goto 4, 3)) DX11_tried_0 47 rfl
theorem dX11_tried_88 : decode cX11_tried 88 = .ok (.iconst (-1), 1) := dAt (x := (88, .iconst (-1), 1)) DX11_tried_0 48 rfl
theorem dX11_tried_89 : decode cX11_tried 89 = .ok (.putfield 418, 3) := dAt (x := (89, .putfield 418, 3)) DX11_tried_0 49 rfl
theorem dX11_tried_92 : decode cX11_tried 92 = .ok (.aload_n 0, 1) := dAt (x := (92, .aload_n 0, 1)) DX11_tried_0 50 rfl
theorem dX11_tried_93 : decode cX11_tried 93 = .ok (.iload_n 1, 1) := dAt (x := (93, .iload_n 1, 1)) DX11_tried_0 51 rfl
theorem dX11_tried_94 : decode cX11_tried 94 = .ok (.iconst 3, 1) := dAt (x := (94, .iconst 3, 1)) DX11_tried_0 52 rfl
theorem dX11_tried_95 : decode cX11_tried 95 = .ok (.if_icmp .ne 7, 3) := dAt (x := (95, .if_icmp .ne 7, 3)) DX11_tried_0 53 rfl
theorem dX11_tried_98 : decode cX11_tried 98 = .ok (.iconst 1, 1) := dAt (x := (98, .iconst 1, 1)) DX11_tried_0 54 rfl
theorem dX11_tried_99 : decode cX11_tried 99 = .ok (.goto 4, 3) := dAt (x := (99, .goto 4, 3)) DX11_tried_0 55 rfl
theorem dX11_tried_102 : decode cX11_tried 102 = .ok (.iconst 0, 1) := dAt (x := (102, .iconst 0, 1)) DX11_tried_0 56 rfl
theorem dX11_tried_103 : decode cX11_tried 103 = .ok (.putfield 412, 3) := dAt (x := (103, .putfield 412, 3)) DX11_tried_0 57 rfl
theorem dX11_tried_106 : decode cX11_tried 106 = .ok (.aload_n 0, 1) := dAt (x := (106, .aload_n 0, 1)) DX11_tried_0 58 rfl
theorem dX11_tried_107 : decode cX11_tried 107 = .ok (.iload_n 1, 1) := dAt (x := (107, .iload_n 1, 1)) DX11_tried_0 59 rfl
def lDX11_tried_1 : List (Nat × Instr × Nat) := [(108, .iconst 4, 1), (109, .if_icmp .ne 7, 3), (112, .iconst 1, 1), (113, .goto 4, 3), (116, .iconst 0, 1), (117, .putfield 415, 3), (120, .aload_n 0, 1), (121, .iload_n 3, 1), (122, .invokevirtual 473, 3), (125, .aload_n 0, 1), (126, .invokevirtual 391, 3), (129, .aload_n 0, 1), (130, .getfield 100, 3), (133, .iconst 1, 1), (134, .iaload, 1), (135, .aload_n 0, 1), (136, .getfield 100, 3), (139, .iconst 0, 1), (140, .iaload, 1), (141, .isub, 1), (142, .ireturn, 1)]
theorem DX11_tried_1 : dAll cX11_tried lDX11_tried_1 = true := by decide +kernel
theorem dX11_tried_108 : decode cX11_tried 108 = .ok (.iconst 4, 1) := dAt (x := (108, .iconst 4, 1)) DX11_tried_1 0 rfl
theorem dX11_tried_109 : decode cX11_tried 109 = .ok (.if_icmp .ne 7, 3) := dAt (x := (109, .if_icmp .ne 7, 3)) DX11_tried_1 1 rfl
theorem dX11_tried_112 : decode cX11_tried 112 = .ok (.iconst 1, 1) := dAt (x := (112, .iconst 1, 1)) DX11_tried_1 2 rfl
theorem dX11_tried_113 : decode cX11_tried 113 = .ok (.goto 4, 3) := dAt (x := (113, .goto 4, 3)) DX11_tried_1 3 rfl
theorem dX11_tried_116 : decode cX11_tried 116 = .ok (.iconst 0, 1) := dAt (x := (116, .iconst 0, 1)) DX11_tried_1 4 rfl
theorem dX11_tried_117 : decode cX11_tried 117 = .ok (.putfield 415, 3) := dAt (x := (117, .putfield 415, 3)) DX11_tried_1 5 rfl
theorem dX11_tried_120 : decode cX11_tried 120 = .ok (.aload_n 0, 1) := dAt (x := (120, .aload_n 0, 1)) DX11_tried_1 6 rfl
theorem dX11_tried_121 : decode cX11_tried 121 = .ok (.iload_n 3, 1) := dAt (x := (121, .iload_n 3, 1)) DX11_tried_1 7 rfl
theorem dX11_tried_122 : decode cX11_tried 122 = .ok (.invokevirtual 473, 3) := dAt (x := (122, .invokevirtual 473, 3)) DX11_tried_1 8 rfl
theorem dX11_tried_125 : decode cX11_tried 125 = .ok (.aload_n 0, 1) := dAt (x := (125, .aload_n 0, 1)) DX11_tried_1 9 rfl
theorem dX11_tried_126 : decode cX11_tried 126 = .ok (.invokevirtual 391, 3) := dAt (x := (126, .invokevirtual 391, 3)) DX11_tried_1 10 rfl
theorem dX11_tried_129 : decode cX11_tried 129 = .ok (.aload_n 0, 1) := dAt (x := (129, .aload_n 0, 1)) DX11_tried_1 11 rfl
theorem dX11_tried_130 : decode cX11_tried 130 = .ok (.getfield 100, 3) := dAt (x := (130, .getfield 100, 3)) DX11_tried_1 12 rfl
theorem dX11_tried_133 : decode cX11_tried 133 = .ok (.iconst 1, 1) := dAt (x := (133, .iconst 1, 1)) DX11_tried_1 13 rfl
theorem dX11_tried_134 : decode cX11_tried 134 = .ok (.iaload, 1) := dAt (x := (134, .iaload, 1)) DX11_tried_1 14 rfl
theorem dX11_tried_135 : decode cX11_tried 135 = .ok (.aload_n 0, 1) := dAt (x := (135, .aload_n 0, 1)) DX11_tried_1 15 rfl
theorem dX11_tried_136 : decode cX11_tried 136 = .ok (.getfield 100, 3) := dAt (x := (136, .getfield 100, 3)) DX11_tried_1 16 rfl
theorem dX11_tried_139 : decode cX11_tried 139 = .ok (.iconst 0, 1) := dAt (x := (139, .iconst 0, 1)) DX11_tried_1 17 rfl
theorem dX11_tried_140 : decode cX11_tried 140 = .ok (.iaload, 1) := dAt (x := (140, .iaload, 1)) DX11_tried_1 18 rfl
theorem dX11_tried_141 : decode cX11_tried 141 = .ok (.isub, 1) := dAt (x := (141, .isub, 1)) DX11_tried_1 19 rfl
theorem dX11_tried_142 : decode cX11_tried 142 = .ok (.ireturn, 1) := dAt (x := (142, .ireturn, 1)) DX11_tried_1 20 rfl
def lDX11_put_0 : List (Nat × Instr × Nat) := [(0, .aload_n 1, 1), (1, .iload_n 2, 1), (2, .aload_n 0, 1), (3, .getfield 94, 3), (6, .iconst 0, 1), (7, .iaload, 1), (8, .iastore, 1), (9, .aload_n 1, 1), (10, .iload_n 2, 1), (11, .iconst 1, 1), (12, .iadd, 1), (13, .aload_n 0, 1), (14, .getfield 97, 3), (17, .iconst 0, 1), (18, .iaload, 1), (19, .iastore, 1), (20, .aload_n 1, 1), (21, .iload_n 2, 1), (22, .iconst 2, 1), (23, .iadd, 1), (24, .aload_n 0, 1), (25, .getfield 100, 3), (28, .iconst 0, 1), (29, .iaload, 1), (30, .iastore, 1), (31, .iconst 0, 1), (32, .istore_n 3, 1), (33, .iload_n 3, 1), (34, .bipush 8, 2), (36, .if_icmp .ge 22, 3), (39, .aload_n 1, 1), (40, .iload_n 2, 1), (41, .iconst 3, 1), (42, .iadd, 1), (43, .iload_n 3, 1), (44, .iadd, 1), (45, .aload_n 0, 1), (46, .getfield 109, 3), (49, .iload_n 3, 1), (50, .iaload, 1), (51, .iastore, 1), (52, .iinc 3 1, 3), (55, .goto (-22), 3), (58, .return_, 1)]
theorem DX11_put_0 : dAll cX11_put lDX11_put_0 = true := by decide +kernel
theorem dX11_put_0 : decode cX11_put 0 = .ok (.aload_n 1, 1) := dAt (x := (0, .aload_n 1, 1)) DX11_put_0 0 rfl
theorem dX11_put_1 : decode cX11_put 1 = .ok (.iload_n 2, 1) := dAt (x := (1, .iload_n 2, 1)) DX11_put_0 1 rfl
theorem dX11_put_2 : decode cX11_put 2 = .ok (.aload_n 0, 1) := dAt (x := (2, .aload_n 0, 1)) DX11_put_0 2 rfl
theorem dX11_put_3 : decode cX11_put 3 = .ok (.getfield 94, 3) := dAt (x := (3, .getfield 94, 3)) DX11_put_0 3 rfl
theorem dX11_put_6 : decode cX11_put 6 = .ok (.iconst 0, 1) := dAt (x := (6, .iconst 0, 1)) DX11_put_0 4 rfl
theorem dX11_put_7 : decode cX11_put 7 = .ok (.iaload, 1) := dAt (x := (7, .iaload, 1)) DX11_put_0 5 rfl
theorem dX11_put_8 : decode cX11_put 8 = .ok (.iastore, 1) := dAt (x := (8, .iastore, 1)) DX11_put_0 6 rfl
theorem dX11_put_9 : decode cX11_put 9 = .ok (.aload_n 1, 1) := dAt (x := (9, .aload_n 1, 1)) DX11_put_0 7 rfl
theorem dX11_put_10 : decode cX11_put 10 = .ok (.iload_n 2, 1) := dAt (x := (10, .iload_n 2, 1)) DX11_put_0 8 rfl
theorem dX11_put_11 : decode cX11_put 11 = .ok (.iconst 1, 1) := dAt (x := (11, .iconst 1, 1)) DX11_put_0 9 rfl
theorem dX11_put_12 : decode cX11_put 12 = .ok (.iadd, 1) := dAt (x := (12, .iadd, 1)) DX11_put_0 10 rfl
theorem dX11_put_13 : decode cX11_put 13 = .ok (.aload_n 0, 1) := dAt (x := (13, .aload_n 0, 1)) DX11_put_0 11 rfl
theorem dX11_put_14 : decode cX11_put 14 = .ok (.getfield 97, 3) := dAt (x := (14, .getfield 97, 3)) DX11_put_0 12 rfl
theorem dX11_put_17 : decode cX11_put 17 = .ok (.iconst 0, 1) := dAt (x := (17, .iconst 0, 1)) DX11_put_0 13 rfl
theorem dX11_put_18 : decode cX11_put 18 = .ok (.iaload, 1) := dAt (x := (18, .iaload, 1)) DX11_put_0 14 rfl
theorem dX11_put_19 : decode cX11_put 19 = .ok (.iastore, 1) := dAt (x := (19, .iastore, 1)) DX11_put_0 15 rfl
theorem dX11_put_20 : decode cX11_put 20 = .ok (.aload_n 1, 1) := dAt (x := (20, .aload_n 1, 1)) DX11_put_0 16 rfl
theorem dX11_put_21 : decode cX11_put 21 = .ok (.iload_n 2, 1) := dAt (x := (21, .iload_n 2, 1)) DX11_put_0 17 rfl
theorem dX11_put_22 : decode cX11_put 22 = .ok (.iconst 2, 1) := dAt (x := (22, .iconst 2, 1)) DX11_put_0 18 rfl
theorem dX11_put_23 : decode cX11_put 23 = .ok (.iadd, 1) := dAt (x := (23, .iadd, 1)) DX11_put_0 19 rfl
theorem dX11_put_24 : decode cX11_put 24 = .ok (.aload_n 0, 1) := dAt (x := (24, .aload_n 0, 1)) DX11_put_0 20 rfl
theorem dX11_put_25 : decode cX11_put 25 = .ok (.getfield 100, 3) := dAt (x := (25, .getfield 100, 3)) DX11_put_0 21 rfl
theorem dX11_put_28 : decode cX11_put 28 = .ok (.iconst 0, 1) := dAt (x := (28, .iconst 0, 1)) DX11_put_0 22 rfl
theorem dX11_put_29 : decode cX11_put 29 = .ok (.iaload, 1) := dAt (x := (29, .iaload, 1)) DX11_put_0 23 rfl
theorem dX11_put_30 : decode cX11_put 30 = .ok (.iastore, 1) := dAt (x := (30, .iastore, 1)) DX11_put_0 24 rfl
theorem dX11_put_31 : decode cX11_put 31 = .ok (.iconst 0, 1) := dAt (x := (31, .iconst 0, 1)) DX11_put_0 25 rfl
theorem dX11_put_32 : decode cX11_put 32 = .ok (.istore_n 3, 1) := dAt (x := (32, .istore_n 3, 1)) DX11_put_0 26 rfl
theorem dX11_put_33 : decode cX11_put 33 = .ok (.iload_n 3, 1) := dAt (x := (33, .iload_n 3, 1)) DX11_put_0 27 rfl
theorem dX11_put_34 : decode cX11_put 34 = .ok (.bipush 8, 2) := dAt (x := (34, .bipush 8, 2)) DX11_put_0 28 rfl
theorem dX11_put_36 : decode cX11_put 36 = .ok (.if_icmp .ge 22, 3) := dAt (x := (36, .if_icmp .ge 22, 3)) DX11_put_0 29 rfl
theorem dX11_put_39 : decode cX11_put 39 = .ok (.aload_n 1, 1) := dAt (x := (39, .aload_n 1, 1)) DX11_put_0 30 rfl
theorem dX11_put_40 : decode cX11_put 40 = .ok (.iload_n 2, 1) := dAt (x := (40, .iload_n 2, 1)) DX11_put_0 31 rfl
theorem dX11_put_41 : decode cX11_put 41 = .ok (.iconst 3, 1) := dAt (x := (41, .iconst 3, 1)) DX11_put_0 32 rfl
theorem dX11_put_42 : decode cX11_put 42 = .ok (.iadd, 1) := dAt (x := (42, .iadd, 1)) DX11_put_0 33 rfl
theorem dX11_put_43 : decode cX11_put 43 = .ok (.iload_n 3, 1) := dAt (x := (43, .iload_n 3, 1)) DX11_put_0 34 rfl
theorem dX11_put_44 : decode cX11_put 44 = .ok (.iadd, 1) := dAt (x := (44, .iadd, 1)) DX11_put_0 35 rfl
theorem dX11_put_45 : decode cX11_put 45 = .ok (.aload_n 0, 1) := dAt (x := (45, .aload_n 0, 1)) DX11_put_0 36 rfl
theorem dX11_put_46 : decode cX11_put 46 = .ok (.getfield 109, 3) := dAt (x := (46, .getfield 109, 3)) DX11_put_0 37 rfl
theorem dX11_put_49 : decode cX11_put 49 = .ok (.iload_n 3, 1) := dAt (x := (49, .iload_n 3, 1)) DX11_put_0 38 rfl
theorem dX11_put_50 : decode cX11_put 50 = .ok (.iaload, 1) := dAt (x := (50, .iaload, 1)) DX11_put_0 39 rfl
theorem dX11_put_51 : decode cX11_put 51 = .ok (.iastore, 1) := dAt (x := (51, .iastore, 1)) DX11_put_0 40 rfl
theorem dX11_put_52 : decode cX11_put 52 = .ok (.iinc 3 1, 3) := dAt (x := (52, .iinc 3 1, 3)) DX11_put_0 41 rfl
theorem dX11_put_55 : decode cX11_put 55 = .ok (.goto (-22), 3) := dAt (x := (55, .goto (-22), 3)) DX11_put_0 42 rfl
theorem dX11_put_58 : decode cX11_put 58 = .ok (.return_, 1) := dAt (x := (58, .return_, 1)) DX11_put_0 43 rfl
def lDX11_take_0 : List (Nat × Instr × Nat) := [(0, .aload_n 0, 1), (1, .getfield 94, 3), (4, .iconst 0, 1), (5, .aload_n 1, 1), (6, .iload_n 2, 1), (7, .iaload, 1), (8, .iastore, 1), (9, .aload_n 0, 1), (10, .getfield 97, 3), (13, .iconst 0, 1), (14, .aload_n 1, 1), (15, .iload_n 2, 1), (16, .iconst 1, 1), (17, .iadd, 1), (18, .iaload, 1), (19, .iastore, 1), (20, .aload_n 0, 1), (21, .getfield 100, 3), (24, .iconst 0, 1), (25, .aload_n 1, 1), (26, .iload_n 2, 1), (27, .iconst 2, 1), (28, .iadd, 1), (29, .iaload, 1), (30, .iastore, 1), (31, .iconst 0, 1), (32, .istore_n 3, 1), (33, .iload_n 3, 1), (34, .bipush 8, 2), (36, .if_icmp .ge 22, 3), (39, .aload_n 0, 1), (40, .getfield 109, 3), (43, .iload_n 3, 1), (44, .aload_n 1, 1), (45, .iload_n 2, 1), (46, .iconst 3, 1), (47, .iadd, 1), (48, .iload_n 3, 1), (49, .iadd, 1), (50, .iaload, 1), (51, .iastore, 1), (52, .iinc 3 1, 3), (55, .goto (-22), 3), (58, .return_, 1)]
theorem DX11_take_0 : dAll cX11_take lDX11_take_0 = true := by decide +kernel
theorem dX11_take_0 : decode cX11_take 0 = .ok (.aload_n 0, 1) := dAt (x := (0, .aload_n 0, 1)) DX11_take_0 0 rfl
theorem dX11_take_1 : decode cX11_take 1 = .ok (.getfield 94, 3) := dAt (x := (1, .getfield 94, 3)) DX11_take_0 1 rfl
theorem dX11_take_4 : decode cX11_take 4 = .ok (.iconst 0, 1) := dAt (x := (4, .iconst 0, 1)) DX11_take_0 2 rfl
theorem dX11_take_5 : decode cX11_take 5 = .ok (.aload_n 1, 1) := dAt (x := (5, .aload_n 1, 1)) DX11_take_0 3 rfl
theorem dX11_take_6 : decode cX11_take 6 = .ok (.iload_n 2, 1) := dAt (x := (6, .iload_n 2, 1)) DX11_take_0 4 rfl
theorem dX11_take_7 : decode cX11_take 7 = .ok (.iaload, 1) := dAt (x := (7, .iaload, 1)) DX11_take_0 5 rfl
theorem dX11_take_8 : decode cX11_take 8 = .ok (.iastore, 1) := dAt (x := (8, .iastore, 1)) DX11_take_0 6 rfl
theorem dX11_take_9 : decode cX11_take 9 = .ok (.aload_n 0, 1) := dAt (x := (9, .aload_n 0, 1)) DX11_take_0 7 rfl
theorem dX11_take_10 : decode cX11_take 10 = .ok (.getfield 97, 3) := dAt (x := (10, .getfield 97, 3)) DX11_take_0 8 rfl
theorem dX11_take_13 : decode cX11_take 13 = .ok (.iconst 0, 1) := dAt (x := (13, .iconst 0, 1)) DX11_take_0 9 rfl
theorem dX11_take_14 : decode cX11_take 14 = .ok (.aload_n 1, 1) := dAt (x := (14, .aload_n 1, 1)) DX11_take_0 10 rfl
theorem dX11_take_15 : decode cX11_take 15 = .ok (.iload_n 2, 1) := dAt (x := (15, .iload_n 2, 1)) DX11_take_0 11 rfl
theorem dX11_take_16 : decode cX11_take 16 = .ok (.iconst 1, 1) := dAt (x := (16, .iconst 1, 1)) DX11_take_0 12 rfl
theorem dX11_take_17 : decode cX11_take 17 = .ok (.iadd, 1) := dAt (x := (17, .iadd, 1)) DX11_take_0 13 rfl
theorem dX11_take_18 : decode cX11_take 18 = .ok (.iaload, 1) := dAt (x := (18, .iaload, 1)) DX11_take_0 14 rfl
theorem dX11_take_19 : decode cX11_take 19 = .ok (.iastore, 1) := dAt (x := (19, .iastore, 1)) DX11_take_0 15 rfl
theorem dX11_take_20 : decode cX11_take 20 = .ok (.aload_n 0, 1) := dAt (x := (20, .aload_n 0, 1)) DX11_take_0 16 rfl
theorem dX11_take_21 : decode cX11_take 21 = .ok (.getfield 100, 3) := dAt (x := (21, .getfield 100, 3)) DX11_take_0 17 rfl
theorem dX11_take_24 : decode cX11_take 24 = .ok (.iconst 0, 1) := dAt (x := (24, .iconst 0, 1)) DX11_take_0 18 rfl
theorem dX11_take_25 : decode cX11_take 25 = .ok (.aload_n 1, 1) := dAt (x := (25, .aload_n 1, 1)) DX11_take_0 19 rfl
theorem dX11_take_26 : decode cX11_take 26 = .ok (.iload_n 2, 1) := dAt (x := (26, .iload_n 2, 1)) DX11_take_0 20 rfl
theorem dX11_take_27 : decode cX11_take 27 = .ok (.iconst 2, 1) := dAt (x := (27, .iconst 2, 1)) DX11_take_0 21 rfl
theorem dX11_take_28 : decode cX11_take 28 = .ok (.iadd, 1) := dAt (x := (28, .iadd, 1)) DX11_take_0 22 rfl
theorem dX11_take_29 : decode cX11_take 29 = .ok (.iaload, 1) := dAt (x := (29, .iaload, 1)) DX11_take_0 23 rfl
theorem dX11_take_30 : decode cX11_take 30 = .ok (.iastore, 1) := dAt (x := (30, .iastore, 1)) DX11_take_0 24 rfl
theorem dX11_take_31 : decode cX11_take 31 = .ok (.iconst 0, 1) := dAt (x := (31, .iconst 0, 1)) DX11_take_0 25 rfl
theorem dX11_take_32 : decode cX11_take 32 = .ok (.istore_n 3, 1) := dAt (x := (32, .istore_n 3, 1)) DX11_take_0 26 rfl
theorem dX11_take_33 : decode cX11_take 33 = .ok (.iload_n 3, 1) := dAt (x := (33, .iload_n 3, 1)) DX11_take_0 27 rfl
theorem dX11_take_34 : decode cX11_take 34 = .ok (.bipush 8, 2) := dAt (x := (34, .bipush 8, 2)) DX11_take_0 28 rfl
theorem dX11_take_36 : decode cX11_take 36 = .ok (.if_icmp .ge 22, 3) := dAt (x := (36, .if_icmp .ge 22, 3)) DX11_take_0 29 rfl
theorem dX11_take_39 : decode cX11_take 39 = .ok (.aload_n 0, 1) := dAt (x := (39, .aload_n 0, 1)) DX11_take_0 30 rfl
theorem dX11_take_40 : decode cX11_take 40 = .ok (.getfield 109, 3) := dAt (x := (40, .getfield 109, 3)) DX11_take_0 31 rfl
theorem dX11_take_43 : decode cX11_take 43 = .ok (.iload_n 3, 1) := dAt (x := (43, .iload_n 3, 1)) DX11_take_0 32 rfl
theorem dX11_take_44 : decode cX11_take 44 = .ok (.aload_n 1, 1) := dAt (x := (44, .aload_n 1, 1)) DX11_take_0 33 rfl
theorem dX11_take_45 : decode cX11_take 45 = .ok (.iload_n 2, 1) := dAt (x := (45, .iload_n 2, 1)) DX11_take_0 34 rfl
theorem dX11_take_46 : decode cX11_take 46 = .ok (.iconst 3, 1) := dAt (x := (46, .iconst 3, 1)) DX11_take_0 35 rfl
theorem dX11_take_47 : decode cX11_take 47 = .ok (.iadd, 1) := dAt (x := (47, .iadd, 1)) DX11_take_0 36 rfl
theorem dX11_take_48 : decode cX11_take 48 = .ok (.iload_n 3, 1) := dAt (x := (48, .iload_n 3, 1)) DX11_take_0 37 rfl
theorem dX11_take_49 : decode cX11_take 49 = .ok (.iadd, 1) := dAt (x := (49, .iadd, 1)) DX11_take_0 38 rfl
theorem dX11_take_50 : decode cX11_take 50 = .ok (.iaload, 1) := dAt (x := (50, .iaload, 1)) DX11_take_0 39 rfl
theorem dX11_take_51 : decode cX11_take 51 = .ok (.iastore, 1) := dAt (x := (51, .iastore, 1)) DX11_take_0 40 rfl
theorem dX11_take_52 : decode cX11_take 52 = .ok (.iinc 3 1, 3) := dAt (x := (52, .iinc 3 1, 3)) DX11_take_0 41 rfl
theorem dX11_take_55 : decode cX11_take 55 = .ok (.goto (-22), 3) := dAt (x := (55, .goto (-22), 3)) DX11_take_0 42 rfl
theorem dX11_take_58 : decode cX11_take 58 = .ok (.return_, 1) := dAt (x := (58, .return_, 1)) DX11_take_0 43 rfl
def lDX11_remember_0 : List (Nat × Instr × Nat) := [(0, .aload_n 0, 1), (1, .getfield 397, 3), (4, .bipush 20, 2), (6, .if_icmp .ne 43, 3), (9, .iconst 0, 1), (10, .istore_n 1, 1), (11, .iload_n 1, 1), (12, .sipush 209, 3), (15, .if_icmp .ge 24, 3), (18, .aload_n 0, 1), (19, .getfield 148, 3), (22, .iload_n 1, 1), (23, .aload_n 0, 1), (24, .getfield 148, 3), (27, .iload_n 1, 1), (28, .bipush 11, 2), (30, .iadd, 1), (31, .iaload, 1), (32, .iastore, 1), (33, .iinc 1 1, 3), (36, .goto (-25), 3), (39, .aload_n 0, 1), (40, .dup, 1), (41, .getfield 397, 3), (44, .iconst 1, 1), (45, .isub, 1), (46, .putfield 397, 3), (49, .aload_n 0, 1), (50, .aload_n 0, 1), (51, .getfield 148, 3), (54, .bipush 11, 2), (56, .aload_n 0, 1), (57, .getfield 397, 3), (60, .imul, 1), (61, .invokevirtual 511, 3), (64, .aload_n 0, 1), (65, .dup, 1), (66, .getfield 397, 3), (69, .iconst 1, 1), (70, .iadd, 1), (71, .putfield 397, 3), (74, .return_, 1)]
theorem DX11_remember_0 : dAll cX11_remember lDX11_remember_0 = true := by decide +kernel
theorem dX11_remember_0 : decode cX11_remember 0 = .ok (.aload_n 0, 1) := dAt (x := (0, .aload_n 0, 1)) DX11_remember_0 0 rfl
theorem dX11_remember_1 : decode cX11_remember 1 = .ok (.getfield 397, 3) := dAt (x := (1, .getfield 397, 3)) DX11_remember_0 1 rfl
theorem dX11_remember_4 : decode cX11_remember 4 = .ok (.bipush 20, 2) := dAt (x := (4, .bipush 20, 2)) DX11_remember_0 2 rfl
theorem dX11_remember_6 : decode cX11_remember 6 = .ok (.if_icmp .ne 43, 3) := dAt (x := (6, .if_icmp .ne 43, 3)) DX11_remember_0 3 rfl
theorem dX11_remember_9 : decode cX11_remember 9 = .ok (.iconst 0, 1) := dAt (x := (9, .iconst 0, 1)) DX11_remember_0 4 rfl
theorem dX11_remember_10 : decode cX11_remember 10 = .ok (.istore_n 1, 1) := dAt (x := (10, .istore_n 1, 1)) DX11_remember_0 5 rfl
theorem dX11_remember_11 : decode cX11_remember 11 = .ok (.iload_n 1, 1) := dAt (x := (11, .iload_n 1, 1)) DX11_remember_0 6 rfl
theorem dX11_remember_12 : decode cX11_remember 12 = .ok (.sipush 209, 3) := dAt (x := (12, .sipush 209, 3)) DX11_remember_0 7 rfl
theorem dX11_remember_15 : decode cX11_remember 15 = .ok (.if_icmp .ge 24, 3) := dAt (x := (15, .if_icmp .ge 24, 3)) DX11_remember_0 8 rfl
theorem dX11_remember_18 : decode cX11_remember 18 = .ok (.aload_n 0, 1) := dAt (x := (18, .aload_n 0, 1)) DX11_remember_0 9 rfl
theorem dX11_remember_19 : decode cX11_remember 19 = .ok (.getfield 148, 3) := dAt (x := (19, .getfield 148, 3)) DX11_remember_0 10 rfl
theorem dX11_remember_22 : decode cX11_remember 22 = .ok (.iload_n 1, 1) := dAt (x := (22, .iload_n 1, 1)) DX11_remember_0 11 rfl
theorem dX11_remember_23 : decode cX11_remember 23 = .ok (.aload_n 0, 1) := dAt (x := (23, .aload_n 0, 1)) DX11_remember_0 12 rfl
theorem dX11_remember_24 : decode cX11_remember 24 = .ok (.getfield 148, 3) := dAt (x := (24, .getfield 148, 3)) DX11_remember_0 13 rfl
theorem dX11_remember_27 : decode cX11_remember 27 = .ok (.iload_n 1, 1) := dAt (x := (27, .iload_n 1, 1)) DX11_remember_0 14 rfl
theorem dX11_remember_28 : decode cX11_remember 28 = .ok (.bipush 11, 2) := dAt (x := (28, .bipush 11, 2)) DX11_remember_0 15 rfl
theorem dX11_remember_30 : decode cX11_remember 30 = .ok (.iadd, 1) := dAt (x := (30, .iadd, 1)) DX11_remember_0 16 rfl
theorem dX11_remember_31 : decode cX11_remember 31 = .ok (.iaload, 1) := dAt (x := (31, .iaload, 1)) DX11_remember_0 17 rfl
theorem dX11_remember_32 : decode cX11_remember 32 = .ok (.iastore, 1) := dAt (x := (32, .iastore, 1)) DX11_remember_0 18 rfl
theorem dX11_remember_33 : decode cX11_remember 33 = .ok (.iinc 1 1, 3) := dAt (x := (33, .iinc 1 1, 3)) DX11_remember_0 19 rfl
theorem dX11_remember_36 : decode cX11_remember 36 = .ok (.goto (-25), 3) := dAt (x := (36, .goto (-25), 3)) DX11_remember_0 20 rfl
theorem dX11_remember_39 : decode cX11_remember 39 = .ok (.aload_n 0, 1) := dAt (x := (39, .aload_n 0, 1)) DX11_remember_0 21 rfl
theorem dX11_remember_40 : decode cX11_remember 40 = .ok (.dup, 1) := dAt (x := (40, .dup, 1)) DX11_remember_0 22 rfl
theorem dX11_remember_41 : decode cX11_remember 41 = .ok (.getfield 397, 3) := dAt (x := (41, .getfield 397, 3)) DX11_remember_0 23 rfl
theorem dX11_remember_44 : decode cX11_remember 44 = .ok (.iconst 1, 1) := dAt (x := (44, .iconst 1, 1)) DX11_remember_0 24 rfl
theorem dX11_remember_45 : decode cX11_remember 45 = .ok (.isub, 1) := dAt (x := (45, .isub, 1)) DX11_remember_0 25 rfl
theorem dX11_remember_46 : decode cX11_remember 46 = .ok (.putfield 397, 3) := dAt (x := (46, .putfield 397, 3)) DX11_remember_0 26 rfl
theorem dX11_remember_49 : decode cX11_remember 49 = .ok (.aload_n 0, 1) := dAt (x := (49, .aload_n 0, 1)) DX11_remember_0 27 rfl
theorem dX11_remember_50 : decode cX11_remember 50 = .ok (.aload_n 0, 1) := dAt (x := (50, .aload_n 0, 1)) DX11_remember_0 28 rfl
theorem dX11_remember_51 : decode cX11_remember 51 = .ok (.getfield 148, 3) := dAt (x := (51, .getfield 148, 3)) DX11_remember_0 29 rfl
theorem dX11_remember_54 : decode cX11_remember 54 = .ok (.bipush 11, 2) := dAt (x := (54, .bipush 11, 2)) DX11_remember_0 30 rfl
theorem dX11_remember_56 : decode cX11_remember 56 = .ok (.aload_n 0, 1) := dAt (x := (56, .aload_n 0, 1)) DX11_remember_0 31 rfl
theorem dX11_remember_57 : decode cX11_remember 57 = .ok (.getfield 397, 3) := dAt (x := (57, .getfield 397, 3)) DX11_remember_0 32 rfl
theorem dX11_remember_60 : decode cX11_remember 60 = .ok (.imul, 1) := dAt (x := (60, .imul, 1)) DX11_remember_0 33 rfl
theorem dX11_remember_61 : decode cX11_remember 61 = .ok (.invokevirtual 511, 3) := dAt (x := (61, .invokevirtual 511, 3)) DX11_remember_0 34 rfl
theorem dX11_remember_64 : decode cX11_remember 64 = .ok (.aload_n 0, 1) := dAt (x := (64, .aload_n 0, 1)) DX11_remember_0 35 rfl
theorem dX11_remember_65 : decode cX11_remember 65 = .ok (.dup, 1) := dAt (x := (65, .dup, 1)) DX11_remember_0 36 rfl
theorem dX11_remember_66 : decode cX11_remember 66 = .ok (.getfield 397, 3) := dAt (x := (66, .getfield 397, 3)) DX11_remember_0 37 rfl
theorem dX11_remember_69 : decode cX11_remember 69 = .ok (.iconst 1, 1) := dAt (x := (69, .iconst 1, 1)) DX11_remember_0 38 rfl
theorem dX11_remember_70 : decode cX11_remember 70 = .ok (.iadd, 1) := dAt (x := (70, .iadd, 1)) DX11_remember_0 39 rfl
theorem dX11_remember_71 : decode cX11_remember 71 = .ok (.putfield 397, 3) := dAt (x := (71, .putfield 397, 3)) DX11_remember_0 40 rfl
theorem dX11_remember_74 : decode cX11_remember 74 = .ok (.return_, 1) := dAt (x := (74, .return_, 1)) DX11_remember_0 41 rfl
def lDX11_undo_0 : List (Nat × Instr × Nat) := [(0, .aload_n 0, 1), (1, .iconst 0, 1), (2, .putfield 160, 3), (5, .aload_n 0, 1), (6, .getfield 397, 3), (9, .ifCond .ne 5, 3), (12, .iconst (-1), 1), (13, .ireturn, 1), (14, .aload_n 0, 1), (15, .dup, 1), (16, .getfield 397, 3), (19, .iconst 1, 1), (20, .isub, 1), (21, .putfield 397, 3), (24, .aload_n 0, 1), (25, .aload_n 0, 1), (26, .getfield 148, 3), (29, .bipush 11, 2), (31, .aload_n 0, 1), (32, .getfield 397, 3), (35, .imul, 1), (36, .invokevirtual 514, 3), (39, .aload_n 0, 1), (40, .getfield 397, 3), (43, .ireturn, 1)]
theorem DX11_undo_0 : dAll cX11_undo lDX11_undo_0 = true := by decide +kernel
theorem dX11_undo_0 : decode cX11_undo 0 = .ok (.aload_n 0, 1) := dAt (x := (0, .aload_n 0, 1)) DX11_undo_0 0 rfl
theorem dX11_undo_1 : decode cX11_undo 1 = .ok (.iconst 0, 1) := dAt (x := (1, .iconst 0, 1)) DX11_undo_0 1 rfl
theorem dX11_undo_2 : decode cX11_undo 2 = .ok (.putfield 160, 3) := dAt (x := (2, .putfield 160, 3)) DX11_undo_0 2 rfl
theorem dX11_undo_5 : decode cX11_undo 5 = .ok (.aload_n 0, 1) := dAt (x := (5, .aload_n 0, 1)) DX11_undo_0 3 rfl
theorem dX11_undo_6 : decode cX11_undo 6 = .ok (.getfield 397, 3) := dAt (x := (6, .getfield 397, 3)) DX11_undo_0 4 rfl
theorem dX11_undo_9 : decode cX11_undo 9 = .ok (.ifCond .ne 5, 3) := dAt (x := (9, .ifCond .ne 5, 3)) DX11_undo_0 5 rfl
theorem dX11_undo_12 : decode cX11_undo 12 = .ok (.iconst (-1), 1) := dAt (x := (12, .iconst (-1), 1)) DX11_undo_0 6 rfl
theorem dX11_undo_13 : decode cX11_undo 13 = .ok (.ireturn, 1) := dAt (x := (13, .ireturn, 1)) DX11_undo_0 7 rfl
theorem dX11_undo_14 : decode cX11_undo 14 = .ok (.aload_n 0, 1) := dAt (x := (14, .aload_n 0, 1)) DX11_undo_0 8 rfl
theorem dX11_undo_15 : decode cX11_undo 15 = .ok (.dup, 1) := dAt (x := (15, .dup, 1)) DX11_undo_0 9 rfl
theorem dX11_undo_16 : decode cX11_undo 16 = .ok (.getfield 397, 3) := dAt (x := (16, .getfield 397, 3)) DX11_undo_0 10 rfl
theorem dX11_undo_19 : decode cX11_undo 19 = .ok (.iconst 1, 1) := dAt (x := (19, .iconst 1, 1)) DX11_undo_0 11 rfl
theorem dX11_undo_20 : decode cX11_undo 20 = .ok (.isub, 1) := dAt (x := (20, .isub, 1)) DX11_undo_0 12 rfl
theorem dX11_undo_21 : decode cX11_undo 21 = .ok (.putfield 397, 3) := dAt (x := (21, .putfield 397, 3)) DX11_undo_0 13 rfl
theorem dX11_undo_24 : decode cX11_undo 24 = .ok (.aload_n 0, 1) := dAt (x := (24, .aload_n 0, 1)) DX11_undo_0 14 rfl
theorem dX11_undo_25 : decode cX11_undo 25 = .ok (.aload_n 0, 1) := dAt (x := (25, .aload_n 0, 1)) DX11_undo_0 15 rfl
theorem dX11_undo_26 : decode cX11_undo 26 = .ok (.getfield 148, 3) := dAt (x := (26, .getfield 148, 3)) DX11_undo_0 16 rfl
theorem dX11_undo_29 : decode cX11_undo 29 = .ok (.bipush 11, 2) := dAt (x := (29, .bipush 11, 2)) DX11_undo_0 17 rfl
theorem dX11_undo_31 : decode cX11_undo 31 = .ok (.aload_n 0, 1) := dAt (x := (31, .aload_n 0, 1)) DX11_undo_0 18 rfl
theorem dX11_undo_32 : decode cX11_undo 32 = .ok (.getfield 397, 3) := dAt (x := (32, .getfield 397, 3)) DX11_undo_0 19 rfl
theorem dX11_undo_35 : decode cX11_undo 35 = .ok (.imul, 1) := dAt (x := (35, .imul, 1)) DX11_undo_0 20 rfl
theorem dX11_undo_36 : decode cX11_undo 36 = .ok (.invokevirtual 514, 3) := dAt (x := (36, .invokevirtual 514, 3)) DX11_undo_0 21 rfl
theorem dX11_undo_39 : decode cX11_undo 39 = .ok (.aload_n 0, 1) := dAt (x := (39, .aload_n 0, 1)) DX11_undo_0 22 rfl
theorem dX11_undo_40 : decode cX11_undo 40 = .ok (.getfield 397, 3) := dAt (x := (40, .getfield 397, 3)) DX11_undo_0 23 rfl
theorem dX11_undo_43 : decode cX11_undo 43 = .ok (.ireturn, 1) := dAt (x := (43, .ireturn, 1)) DX11_undo_0 24 rfl
def lDX11_keep_0 : List (Nat × Instr × Nat) := [(0, .aload_n 0, 1), (1, .iconst 0, 1), (2, .putfield 160, 3), (5, .aload_n 0, 1), (6, .iconst 1, 1), (7, .putfield 400, 3), (10, .aload_n 0, 1), (11, .aload_n 0, 1), (12, .getfield 151, 3), (15, .iconst 0, 1), (16, .invokevirtual 511, 3), (19, .aload_n 0, 1), (20, .aload_n 0, 1), (21, .getfield 103, 3), (24, .iconst 0, 1), (25, .iaload, 1), (26, .putfield 517, 3), (29, .aload_n 0, 1), (30, .aload_n 0, 1), (31, .getfield 106, 3), (34, .iconst 0, 1), (35, .iaload, 1), (36, .putfield 520, 3), (39, .aload_n 0, 1), (40, .aload_n 0, 1), (41, .getfield 387, 3), (44, .putfield 523, 3), (47, .aload_n 0, 1), (48, .getfield 106, 3), (51, .iconst 0, 1), (52, .iaload, 1), (53, .ireturn, 1)]
theorem DX11_keep_0 : dAll cX11_keep lDX11_keep_0 = true := by decide +kernel
theorem dX11_keep_0 : decode cX11_keep 0 = .ok (.aload_n 0, 1) := dAt (x := (0, .aload_n 0, 1)) DX11_keep_0 0 rfl
theorem dX11_keep_1 : decode cX11_keep 1 = .ok (.iconst 0, 1) := dAt (x := (1, .iconst 0, 1)) DX11_keep_0 1 rfl
theorem dX11_keep_2 : decode cX11_keep 2 = .ok (.putfield 160, 3) := dAt (x := (2, .putfield 160, 3)) DX11_keep_0 2 rfl
theorem dX11_keep_5 : decode cX11_keep 5 = .ok (.aload_n 0, 1) := dAt (x := (5, .aload_n 0, 1)) DX11_keep_0 3 rfl
theorem dX11_keep_6 : decode cX11_keep 6 = .ok (.iconst 1, 1) := dAt (x := (6, .iconst 1, 1)) DX11_keep_0 4 rfl
theorem dX11_keep_7 : decode cX11_keep 7 = .ok (.putfield 400, 3) := dAt (x := (7, .putfield 400, 3)) DX11_keep_0 5 rfl
theorem dX11_keep_10 : decode cX11_keep 10 = .ok (.aload_n 0, 1) := dAt (x := (10, .aload_n 0, 1)) DX11_keep_0 6 rfl
theorem dX11_keep_11 : decode cX11_keep 11 = .ok (.aload_n 0, 1) := dAt (x := (11, .aload_n 0, 1)) DX11_keep_0 7 rfl
theorem dX11_keep_12 : decode cX11_keep 12 = .ok (.getfield 151, 3) := dAt (x := (12, .getfield 151, 3)) DX11_keep_0 8 rfl
theorem dX11_keep_15 : decode cX11_keep 15 = .ok (.iconst 0, 1) := dAt (x := (15, .iconst 0, 1)) DX11_keep_0 9 rfl
theorem dX11_keep_16 : decode cX11_keep 16 = .ok (.invokevirtual 511, 3) := dAt (x := (16, .invokevirtual 511, 3)) DX11_keep_0 10 rfl
theorem dX11_keep_19 : decode cX11_keep 19 = .ok (.aload_n 0, 1) := dAt (x := (19, .aload_n 0, 1)) DX11_keep_0 11 rfl
theorem dX11_keep_20 : decode cX11_keep 20 = .ok (.aload_n 0, 1) := dAt (x := (20, .aload_n 0, 1)) DX11_keep_0 12 rfl
theorem dX11_keep_21 : decode cX11_keep 21 = .ok (.getfield 103, 3) := dAt (x := (21, .getfield 103, 3)) DX11_keep_0 13 rfl
theorem dX11_keep_24 : decode cX11_keep 24 = .ok (.iconst 0, 1) := dAt (x := (24, .iconst 0, 1)) DX11_keep_0 14 rfl
theorem dX11_keep_25 : decode cX11_keep 25 = .ok (.iaload, 1) := dAt (x := (25, .iaload, 1)) DX11_keep_0 15 rfl
theorem dX11_keep_26 : decode cX11_keep 26 = .ok (.putfield 517, 3) := dAt (x := (26, .putfield 517, 3)) DX11_keep_0 16 rfl
theorem dX11_keep_29 : decode cX11_keep 29 = .ok (.aload_n 0, 1) := dAt (x := (29, .aload_n 0, 1)) DX11_keep_0 17 rfl
theorem dX11_keep_30 : decode cX11_keep 30 = .ok (.aload_n 0, 1) := dAt (x := (30, .aload_n 0, 1)) DX11_keep_0 18 rfl
theorem dX11_keep_31 : decode cX11_keep 31 = .ok (.getfield 106, 3) := dAt (x := (31, .getfield 106, 3)) DX11_keep_0 19 rfl
theorem dX11_keep_34 : decode cX11_keep 34 = .ok (.iconst 0, 1) := dAt (x := (34, .iconst 0, 1)) DX11_keep_0 20 rfl
theorem dX11_keep_35 : decode cX11_keep 35 = .ok (.iaload, 1) := dAt (x := (35, .iaload, 1)) DX11_keep_0 21 rfl
theorem dX11_keep_36 : decode cX11_keep 36 = .ok (.putfield 520, 3) := dAt (x := (36, .putfield 520, 3)) DX11_keep_0 22 rfl
theorem dX11_keep_39 : decode cX11_keep 39 = .ok (.aload_n 0, 1) := dAt (x := (39, .aload_n 0, 1)) DX11_keep_0 23 rfl
theorem dX11_keep_40 : decode cX11_keep 40 = .ok (.aload_n 0, 1) := dAt (x := (40, .aload_n 0, 1)) DX11_keep_0 24 rfl
theorem dX11_keep_41 : decode cX11_keep 41 = .ok (.getfield 387, 3) := dAt (x := (41, .getfield 387, 3)) DX11_keep_0 25 rfl
theorem dX11_keep_44 : decode cX11_keep 44 = .ok (.putfield 523, 3) := dAt (x := (44, .putfield 523, 3)) DX11_keep_0 26 rfl
theorem dX11_keep_47 : decode cX11_keep 47 = .ok (.aload_n 0, 1) := dAt (x := (47, .aload_n 0, 1)) DX11_keep_0 27 rfl
theorem dX11_keep_48 : decode cX11_keep 48 = .ok (.getfield 106, 3) := dAt (x := (48, .getfield 106, 3)) DX11_keep_0 28 rfl
theorem dX11_keep_51 : decode cX11_keep 51 = .ok (.iconst 0, 1) := dAt (x := (51, .iconst 0, 1)) DX11_keep_0 29 rfl
theorem dX11_keep_52 : decode cX11_keep 52 = .ok (.iaload, 1) := dAt (x := (52, .iaload, 1)) DX11_keep_0 30 rfl
theorem dX11_keep_53 : decode cX11_keep 53 = .ok (.ireturn, 1) := dAt (x := (53, .ireturn, 1)) DX11_keep_0 31 rfl
def lDX11_back_0 : List (Nat × Instr × Nat) := [(0, .aload_n 0, 1), (1, .iconst 0, 1), (2, .putfield 160, 3), (5, .aload_n 0, 1), (6, .getfield 400, 3), (9, .ifCond .ne 5, 3), (12, .iconst (-1), 1), (13, .ireturn, 1), (14, .aload_n 0, 1), (15, .aload_n 0, 1), (16, .getfield 151, 3), (19, .iconst 0, 1), (20, .invokevirtual 514, 3), (23, .aload_n 0, 1), (24, .getfield 103, 3), (27, .iconst 0, 1), (28, .aload_n 0, 1), (29, .getfield 517, 3), (32, .iastore, 1), (33, .aload_n 0, 1), (34, .getfield 106, 3), (37, .iconst 0, 1), (38, .aload_n 0, 1), (39, .getfield 520, 3), (42, .iastore, 1), (43, .aload_n 0, 1), (44, .aload_n 0, 1), (45, .getfield 523, 3), (48, .putfield 387, 3), (51, .aload_n 0, 1), (52, .iconst 0, 1), (53, .putfield 397, 3), (56, .aload_n 0, 1), (57, .getfield 106, 3), (60, .iconst 0, 1), (61, .iaload, 1), (62, .ireturn, 1)]
theorem DX11_back_0 : dAll cX11_back lDX11_back_0 = true := by decide +kernel
theorem dX11_back_0 : decode cX11_back 0 = .ok (.aload_n 0, 1) := dAt (x := (0, .aload_n 0, 1)) DX11_back_0 0 rfl
theorem dX11_back_1 : decode cX11_back 1 = .ok (.iconst 0, 1) := dAt (x := (1, .iconst 0, 1)) DX11_back_0 1 rfl
theorem dX11_back_2 : decode cX11_back 2 = .ok (.putfield 160, 3) := dAt (x := (2, .putfield 160, 3)) DX11_back_0 2 rfl
theorem dX11_back_5 : decode cX11_back 5 = .ok (.aload_n 0, 1) := dAt (x := (5, .aload_n 0, 1)) DX11_back_0 3 rfl
theorem dX11_back_6 : decode cX11_back 6 = .ok (.getfield 400, 3) := dAt (x := (6, .getfield 400, 3)) DX11_back_0 4 rfl
theorem dX11_back_9 : decode cX11_back 9 = .ok (.ifCond .ne 5, 3) := dAt (x := (9, .ifCond .ne 5, 3)) DX11_back_0 5 rfl
theorem dX11_back_12 : decode cX11_back 12 = .ok (.iconst (-1), 1) := dAt (x := (12, .iconst (-1), 1)) DX11_back_0 6 rfl
theorem dX11_back_13 : decode cX11_back 13 = .ok (.ireturn, 1) := dAt (x := (13, .ireturn, 1)) DX11_back_0 7 rfl
theorem dX11_back_14 : decode cX11_back 14 = .ok (.aload_n 0, 1) := dAt (x := (14, .aload_n 0, 1)) DX11_back_0 8 rfl
theorem dX11_back_15 : decode cX11_back 15 = .ok (.aload_n 0, 1) := dAt (x := (15, .aload_n 0, 1)) DX11_back_0 9 rfl
theorem dX11_back_16 : decode cX11_back 16 = .ok (.getfield 151, 3) := dAt (x := (16, .getfield 151, 3)) DX11_back_0 10 rfl
theorem dX11_back_19 : decode cX11_back 19 = .ok (.iconst 0, 1) := dAt (x := (19, .iconst 0, 1)) DX11_back_0 11 rfl
theorem dX11_back_20 : decode cX11_back 20 = .ok (.invokevirtual 514, 3) := dAt (x := (20, .invokevirtual 514, 3)) DX11_back_0 12 rfl
theorem dX11_back_23 : decode cX11_back 23 = .ok (.aload_n 0, 1) := dAt (x := (23, .aload_n 0, 1)) DX11_back_0 13 rfl
theorem dX11_back_24 : decode cX11_back 24 = .ok (.getfield 103, 3) := dAt (x := (24, .getfield 103, 3)) DX11_back_0 14 rfl
theorem dX11_back_27 : decode cX11_back 27 = .ok (.iconst 0, 1) := dAt (x := (27, .iconst 0, 1)) DX11_back_0 15 rfl
theorem dX11_back_28 : decode cX11_back 28 = .ok (.aload_n 0, 1) := dAt (x := (28, .aload_n 0, 1)) DX11_back_0 16 rfl
theorem dX11_back_29 : decode cX11_back 29 = .ok (.getfield 517, 3) := dAt (x := (29, .getfield 517, 3)) DX11_back_0 17 rfl
theorem dX11_back_32 : decode cX11_back 32 = .ok (.iastore, 1) := dAt (x := (32, .iastore, 1)) DX11_back_0 18 rfl
theorem dX11_back_33 : decode cX11_back 33 = .ok (.aload_n 0, 1) := dAt (x := (33, .aload_n 0, 1)) DX11_back_0 19 rfl
theorem dX11_back_34 : decode cX11_back 34 = .ok (.getfield 106, 3) := dAt (x := (34, .getfield 106, 3)) DX11_back_0 20 rfl
theorem dX11_back_37 : decode cX11_back 37 = .ok (.iconst 0, 1) := dAt (x := (37, .iconst 0, 1)) DX11_back_0 21 rfl
theorem dX11_back_38 : decode cX11_back 38 = .ok (.aload_n 0, 1) := dAt (x := (38, .aload_n 0, 1)) DX11_back_0 22 rfl
theorem dX11_back_39 : decode cX11_back 39 = .ok (.getfield 520, 3) := dAt (x := (39, .getfield 520, 3)) DX11_back_0 23 rfl
theorem dX11_back_42 : decode cX11_back 42 = .ok (.iastore, 1) := dAt (x := (42, .iastore, 1)) DX11_back_0 24 rfl
theorem dX11_back_43 : decode cX11_back 43 = .ok (.aload_n 0, 1) := dAt (x := (43, .aload_n 0, 1)) DX11_back_0 25 rfl
theorem dX11_back_44 : decode cX11_back 44 = .ok (.aload_n 0, 1) := dAt (x := (44, .aload_n 0, 1)) DX11_back_0 26 rfl
theorem dX11_back_45 : decode cX11_back 45 = .ok (.getfield 523, 3) := dAt (x := (45, .getfield 523, 3)) DX11_back_0 27 rfl
theorem dX11_back_48 : decode cX11_back 48 = .ok (.putfield 387, 3) := dAt (x := (48, .putfield 387, 3)) DX11_back_0 28 rfl
theorem dX11_back_51 : decode cX11_back 51 = .ok (.aload_n 0, 1) := dAt (x := (51, .aload_n 0, 1)) DX11_back_0 29 rfl
theorem dX11_back_52 : decode cX11_back 52 = .ok (.iconst 0, 1) := dAt (x := (52, .iconst 0, 1)) DX11_back_0 30 rfl
theorem dX11_back_53 : decode cX11_back 53 = .ok (.putfield 397, 3) := dAt (x := (53, .putfield 397, 3)) DX11_back_0 31 rfl
theorem dX11_back_56 : decode cX11_back 56 = .ok (.aload_n 0, 1) := dAt (x := (56, .aload_n 0, 1)) DX11_back_0 32 rfl
theorem dX11_back_57 : decode cX11_back 57 = .ok (.getfield 106, 3) := dAt (x := (57, .getfield 106, 3)) DX11_back_0 33 rfl
theorem dX11_back_60 : decode cX11_back 60 = .ok (.iconst 0, 1) := dAt (x := (60, .iconst 0, 1)) DX11_back_0 34 rfl
theorem dX11_back_61 : decode cX11_back 61 = .ok (.iaload, 1) := dAt (x := (61, .iaload, 1)) DX11_back_0 35 rfl
theorem dX11_back_62 : decode cX11_back 62 = .ok (.ireturn, 1) := dAt (x := (62, .ireturn, 1)) DX11_back_0 36 rfl
def lDX11_count_0 : List (Nat × Instr × Nat) := [(0, .aload_n 0, 1), (1, .iconst 0, 1), (2, .putfield 160, 3), (5, .iconst 0, 1), (6, .istore_n 2, 1), (7, .iload_n 1, 1), (8, .tableswitch 201 0 12 #[68, 73, 108, 113, 118, 125, 135, 145, 152, 159, 186, 191, 196], 68), (76, .aload_n 0, 1), (77, .getfield 240, 3), (80, .ireturn, 1), (81, .iconst 0, 1), (82, .istore_n 3, 1), (83, .iload_n 3, 1), (84, .aload_n 0, 1), (85, .getfield 240, 3), (88, .if_icmp .ge 26, 3), (91, .iload_n 2, 1), (92, .aload_n 0, 1), (93, .getfield 33, 3), (96, .iload_n 3, 1), (97, .iaload, 1), (98, .ifCond .lt 7, 3), (101, .iconst 1, 1), (102, .goto 4, 3), (105, .iconst 0, 1), (106, .iadd, 1), (107, .istore_n 2, 1), (108, .iinc 3 1, 3), (111, .goto (-28), 3), (114, .iload_n 2, 1), (115, .ireturn, 1), (116, .aload_n 0, 1), (117, .getfield 243, 3), (120, .ireturn, 1), (121, .aload_n 0, 1), (122, .getfield 249, 3), (125, .ireturn, 1), (126, .aload_n 0, 1), (127, .getfield 106, 3), (130, .iconst 0, 1), (131, .iaload, 1), (132, .ireturn, 1), (133, .aload_n 0, 1), (134, .getfield 94, 3), (137, .iconst 0, 1), (138, .iaload, 1), (139, .invokestatic 381, 3), (142, .ireturn, 1), (143, .aload_n 0, 1), (144, .getfield 97, 3), (147, .iconst 0, 1), (148, .iaload, 1), (149, .invokestatic 381, 3), (152, .ireturn, 1), (153, .aload_n 0, 1), (154, .getfield 100, 3), (157, .iconst 0, 1), (158, .iaload, 1), (159, .ireturn, 1), (160, .aload_n 0, 1)]
theorem DX11_count_0 : dAll cX11_count lDX11_count_0 = true := by decide +kernel
theorem dX11_count_0 : decode cX11_count 0 = .ok (.aload_n 0, 1) := dAt (x := (0, .aload_n 0, 1)) DX11_count_0 0 rfl
theorem dX11_count_1 : decode cX11_count 1 = .ok (.iconst 0, 1) := dAt (x := (1, .iconst 0, 1)) DX11_count_0 1 rfl
theorem dX11_count_2 : decode cX11_count 2 = .ok (.putfield 160, 3) := dAt (x := (2, .putfield 160, 3)) DX11_count_0 2 rfl
theorem dX11_count_5 : decode cX11_count 5 = .ok (.iconst 0, 1) := dAt (x := (5, .iconst 0, 1)) DX11_count_0 3 rfl
theorem dX11_count_6 : decode cX11_count 6 = .ok (.istore_n 2, 1) := dAt (x := (6, .istore_n 2, 1)) DX11_count_0 4 rfl
theorem dX11_count_7 : decode cX11_count 7 = .ok (.iload_n 1, 1) := dAt (x := (7, .iload_n 1, 1)) DX11_count_0 5 rfl
theorem dX11_count_8 : decode cX11_count 8 = .ok (.tableswitch 201 0 12 #[68, 73, 108, 113, 118, 125, 135, 145, 152, 159, 186, 191, 196], 68) := dAt (x := (8, .tableswitch 201 0 12 #[68, 73, 108, 113, 118, 125, 135, 145, 152, 159, 186, 191, 196], 68)) DX11_count_0 6 rfl
theorem dX11_count_76 : decode cX11_count 76 = .ok (.aload_n 0, 1) := dAt (x := (76, .aload_n 0, 1)) DX11_count_0 7 rfl
theorem dX11_count_77 : decode cX11_count 77 = .ok (.getfield 240, 3) := dAt (x := (77, .getfield 240, 3)) DX11_count_0 8 rfl
theorem dX11_count_80 : decode cX11_count 80 = .ok (.ireturn, 1) := dAt (x := (80, .ireturn, 1)) DX11_count_0 9 rfl
theorem dX11_count_81 : decode cX11_count 81 = .ok (.iconst 0, 1) := dAt (x := (81, .iconst 0, 1)) DX11_count_0 10 rfl
theorem dX11_count_82 : decode cX11_count 82 = .ok (.istore_n 3, 1) := dAt (x := (82, .istore_n 3, 1)) DX11_count_0 11 rfl
theorem dX11_count_83 : decode cX11_count 83 = .ok (.iload_n 3, 1) := dAt (x := (83, .iload_n 3, 1)) DX11_count_0 12 rfl
theorem dX11_count_84 : decode cX11_count 84 = .ok (.aload_n 0, 1) := dAt (x := (84, .aload_n 0, 1)) DX11_count_0 13 rfl
theorem dX11_count_85 : decode cX11_count 85 = .ok (.getfield 240, 3) := dAt (x := (85, .getfield 240, 3)) DX11_count_0 14 rfl
theorem dX11_count_88 : decode cX11_count 88 = .ok (.if_icmp .ge 26, 3) := dAt (x := (88, .if_icmp .ge 26, 3)) DX11_count_0 15 rfl
theorem dX11_count_91 : decode cX11_count 91 = .ok (.iload_n 2, 1) := dAt (x := (91, .iload_n 2, 1)) DX11_count_0 16 rfl
theorem dX11_count_92 : decode cX11_count 92 = .ok (.aload_n 0, 1) := dAt (x := (92, .aload_n 0, 1)) DX11_count_0 17 rfl
theorem dX11_count_93 : decode cX11_count 93 = .ok (.getfield 33, 3) := dAt (x := (93, .getfield 33, 3)) DX11_count_0 18 rfl
theorem dX11_count_96 : decode cX11_count 96 = .ok (.iload_n 3, 1) := dAt (x := (96, .iload_n 3, 1)) DX11_count_0 19 rfl
theorem dX11_count_97 : decode cX11_count 97 = .ok (.iaload, 1) := dAt (x := (97, .iaload, 1)) DX11_count_0 20 rfl
theorem dX11_count_98 : decode cX11_count 98 = .ok (.ifCond .lt 7, 3) := dAt (x := (98, .ifCond .lt 7, 3)) DX11_count_0 21 rfl
theorem dX11_count_101 : decode cX11_count 101 = .ok (.iconst 1, 1) := dAt (x := (101, .iconst 1, 1)) DX11_count_0 22 rfl
theorem dX11_count_102 : decode cX11_count 102 = .ok (.goto 4, 3) := dAt (x := (102, .goto 4, 3)) DX11_count_0 23 rfl
theorem dX11_count_105 : decode cX11_count 105 = .ok (.iconst 0, 1) := dAt (x := (105, .iconst 0, 1)) DX11_count_0 24 rfl
theorem dX11_count_106 : decode cX11_count 106 = .ok (.iadd, 1) := dAt (x := (106, .iadd, 1)) DX11_count_0 25 rfl
theorem dX11_count_107 : decode cX11_count 107 = .ok (.istore_n 2, 1) := dAt (x := (107, .istore_n 2, 1)) DX11_count_0 26 rfl
theorem dX11_count_108 : decode cX11_count 108 = .ok (.iinc 3 1, 3) := dAt (x := (108, .iinc 3 1, 3)) DX11_count_0 27 rfl
theorem dX11_count_111 : decode cX11_count 111 = .ok (.goto (-28), 3) := dAt (x := (111, .goto (-28), 3)) DX11_count_0 28 rfl
theorem dX11_count_114 : decode cX11_count 114 = .ok (.iload_n 2, 1) := dAt (x := (114, .iload_n 2, 1)) DX11_count_0 29 rfl
theorem dX11_count_115 : decode cX11_count 115 = .ok (.ireturn, 1) := dAt (x := (115, .ireturn, 1)) DX11_count_0 30 rfl
theorem dX11_count_116 : decode cX11_count 116 = .ok (.aload_n 0, 1) := dAt (x := (116, .aload_n 0, 1)) DX11_count_0 31 rfl
theorem dX11_count_117 : decode cX11_count 117 = .ok (.getfield 243, 3) := dAt (x := (117, .getfield 243, 3)) DX11_count_0 32 rfl
theorem dX11_count_120 : decode cX11_count 120 = .ok (.ireturn, 1) := dAt (x := (120, .ireturn, 1)) DX11_count_0 33 rfl
theorem dX11_count_121 : decode cX11_count 121 = .ok (.aload_n 0, 1) := dAt (x := (121, .aload_n 0, 1)) DX11_count_0 34 rfl
theorem dX11_count_122 : decode cX11_count 122 = .ok (.getfield 249, 3) := dAt (x := (122, .getfield 249, 3)) DX11_count_0 35 rfl
theorem dX11_count_125 : decode cX11_count 125 = .ok (.ireturn, 1) := dAt (x := (125, .ireturn, 1)) DX11_count_0 36 rfl
theorem dX11_count_126 : decode cX11_count 126 = .ok (.aload_n 0, 1) := dAt (x := (126, .aload_n 0, 1)) DX11_count_0 37 rfl
theorem dX11_count_127 : decode cX11_count 127 = .ok (.getfield 106, 3) := dAt (x := (127, .getfield 106, 3)) DX11_count_0 38 rfl
theorem dX11_count_130 : decode cX11_count 130 = .ok (.iconst 0, 1) := dAt (x := (130, .iconst 0, 1)) DX11_count_0 39 rfl
theorem dX11_count_131 : decode cX11_count 131 = .ok (.iaload, 1) := dAt (x := (131, .iaload, 1)) DX11_count_0 40 rfl
theorem dX11_count_132 : decode cX11_count 132 = .ok (.ireturn, 1) := dAt (x := (132, .ireturn, 1)) DX11_count_0 41 rfl
theorem dX11_count_133 : decode cX11_count 133 = .ok (.aload_n 0, 1) := dAt (x := (133, .aload_n 0, 1)) DX11_count_0 42 rfl
theorem dX11_count_134 : decode cX11_count 134 = .ok (.getfield 94, 3) := dAt (x := (134, .getfield 94, 3)) DX11_count_0 43 rfl
theorem dX11_count_137 : decode cX11_count 137 = .ok (.iconst 0, 1) := dAt (x := (137, .iconst 0, 1)) DX11_count_0 44 rfl
theorem dX11_count_138 : decode cX11_count 138 = .ok (.iaload, 1) := dAt (x := (138, .iaload, 1)) DX11_count_0 45 rfl
theorem dX11_count_139 : decode cX11_count 139 = .ok (.invokestatic 381, 3) := dAt (x := (139, .invokestatic 381, 3)) DX11_count_0 46 rfl
theorem dX11_count_142 : decode cX11_count 142 = .ok (.ireturn, 1) := dAt (x := (142, .ireturn, 1)) DX11_count_0 47 rfl
theorem dX11_count_143 : decode cX11_count 143 = .ok (.aload_n 0, 1) := dAt (x := (143, .aload_n 0, 1)) DX11_count_0 48 rfl
theorem dX11_count_144 : decode cX11_count 144 = .ok (.getfield 97, 3) := dAt (x := (144, .getfield 97, 3)) DX11_count_0 49 rfl
theorem dX11_count_147 : decode cX11_count 147 = .ok (.iconst 0, 1) := dAt (x := (147, .iconst 0, 1)) DX11_count_0 50 rfl
theorem dX11_count_148 : decode cX11_count 148 = .ok (.iaload, 1) := dAt (x := (148, .iaload, 1)) DX11_count_0 51 rfl
theorem dX11_count_149 : decode cX11_count 149 = .ok (.invokestatic 381, 3) := dAt (x := (149, .invokestatic 381, 3)) DX11_count_0 52 rfl
theorem dX11_count_152 : decode cX11_count 152 = .ok (.ireturn, 1) := dAt (x := (152, .ireturn, 1)) DX11_count_0 53 rfl
theorem dX11_count_153 : decode cX11_count 153 = .ok (.aload_n 0, 1) := dAt (x := (153, .aload_n 0, 1)) DX11_count_0 54 rfl
theorem dX11_count_154 : decode cX11_count 154 = .ok (.getfield 100, 3) := dAt (x := (154, .getfield 100, 3)) DX11_count_0 55 rfl
theorem dX11_count_157 : decode cX11_count 157 = .ok (.iconst 0, 1) := dAt (x := (157, .iconst 0, 1)) DX11_count_0 56 rfl
theorem dX11_count_158 : decode cX11_count 158 = .ok (.iaload, 1) := dAt (x := (158, .iaload, 1)) DX11_count_0 57 rfl
theorem dX11_count_159 : decode cX11_count 159 = .ok (.ireturn, 1) := dAt (x := (159, .ireturn, 1)) DX11_count_0 58 rfl
theorem dX11_count_160 : decode cX11_count 160 = .ok (.aload_n 0, 1) := dAt (x := (160, .aload_n 0, 1)) DX11_count_0 59 rfl
def lDX11_count_1 : List (Nat × Instr × Nat) := [(161, .getfield 103, 3), (164, .iconst 0, 1), (165, .iaload, 1), (166, .ireturn, 1), (167, .iconst 0, 1), (168, .istore_n 3, 1), (169, .iload_n 3, 1), (170, .aload_n 0, 1), (171, .getfield 240, 3), (174, .if_icmp .ge 18, 3), (177, .iload_n 2, 1), (178, .aload_n 0, 1), (179, .getfield 109, 3), (182, .iload_n 3, 1), (183, .iaload, 1), (184, .iadd, 1), (185, .istore_n 2, 1), (186, .iinc 3 1, 3), (189, .goto (-20), 3), (192, .iload_n 2, 1), (193, .ireturn, 1), (194, .aload_n 0, 1), (195, .getfield 394, 3), (198, .ireturn, 1), (199, .aload_n 0, 1), (200, .invokevirtual 502, 3), (203, .ireturn, 1), (204, .aload_n 0, 1), (205, .getfield 397, 3), (208, .ireturn, 1), (209, .iconst (-1), 1), (210, .ireturn, 1)]
theorem DX11_count_1 : dAll cX11_count lDX11_count_1 = true := by decide +kernel
theorem dX11_count_161 : decode cX11_count 161 = .ok (.getfield 103, 3) := dAt (x := (161, .getfield 103, 3)) DX11_count_1 0 rfl
theorem dX11_count_164 : decode cX11_count 164 = .ok (.iconst 0, 1) := dAt (x := (164, .iconst 0, 1)) DX11_count_1 1 rfl
theorem dX11_count_165 : decode cX11_count 165 = .ok (.iaload, 1) := dAt (x := (165, .iaload, 1)) DX11_count_1 2 rfl
theorem dX11_count_166 : decode cX11_count 166 = .ok (.ireturn, 1) := dAt (x := (166, .ireturn, 1)) DX11_count_1 3 rfl
theorem dX11_count_167 : decode cX11_count 167 = .ok (.iconst 0, 1) := dAt (x := (167, .iconst 0, 1)) DX11_count_1 4 rfl
theorem dX11_count_168 : decode cX11_count 168 = .ok (.istore_n 3, 1) := dAt (x := (168, .istore_n 3, 1)) DX11_count_1 5 rfl
theorem dX11_count_169 : decode cX11_count 169 = .ok (.iload_n 3, 1) := dAt (x := (169, .iload_n 3, 1)) DX11_count_1 6 rfl
theorem dX11_count_170 : decode cX11_count 170 = .ok (.aload_n 0, 1) := dAt (x := (170, .aload_n 0, 1)) DX11_count_1 7 rfl
theorem dX11_count_171 : decode cX11_count 171 = .ok (.getfield 240, 3) := dAt (x := (171, .getfield 240, 3)) DX11_count_1 8 rfl
theorem dX11_count_174 : decode cX11_count 174 = .ok (.if_icmp .ge 18, 3) := dAt (x := (174, .if_icmp .ge 18, 3)) DX11_count_1 9 rfl
theorem dX11_count_177 : decode cX11_count 177 = .ok (.iload_n 2, 1) := dAt (x := (177, .iload_n 2, 1)) DX11_count_1 10 rfl
theorem dX11_count_178 : decode cX11_count 178 = .ok (.aload_n 0, 1) := dAt (x := (178, .aload_n 0, 1)) DX11_count_1 11 rfl
theorem dX11_count_179 : decode cX11_count 179 = .ok (.getfield 109, 3) := dAt (x := (179, .getfield 109, 3)) DX11_count_1 12 rfl
theorem dX11_count_182 : decode cX11_count 182 = .ok (.iload_n 3, 1) := dAt (x := (182, .iload_n 3, 1)) DX11_count_1 13 rfl
theorem dX11_count_183 : decode cX11_count 183 = .ok (.iaload, 1) := dAt (x := (183, .iaload, 1)) DX11_count_1 14 rfl
theorem dX11_count_184 : decode cX11_count 184 = .ok (.iadd, 1) := dAt (x := (184, .iadd, 1)) DX11_count_1 15 rfl
theorem dX11_count_185 : decode cX11_count 185 = .ok (.istore_n 2, 1) := dAt (x := (185, .istore_n 2, 1)) DX11_count_1 16 rfl
theorem dX11_count_186 : decode cX11_count 186 = .ok (.iinc 3 1, 3) := dAt (x := (186, .iinc 3 1, 3)) DX11_count_1 17 rfl
theorem dX11_count_189 : decode cX11_count 189 = .ok (.goto (-20), 3) := dAt (x := (189, .goto (-20), 3)) DX11_count_1 18 rfl
theorem dX11_count_192 : decode cX11_count 192 = .ok (.iload_n 2, 1) := dAt (x := (192, .iload_n 2, 1)) DX11_count_1 19 rfl
theorem dX11_count_193 : decode cX11_count 193 = .ok (.ireturn, 1) := dAt (x := (193, .ireturn, 1)) DX11_count_1 20 rfl
theorem dX11_count_194 : decode cX11_count 194 = .ok (.aload_n 0, 1) := dAt (x := (194, .aload_n 0, 1)) DX11_count_1 21 rfl
theorem dX11_count_195 : decode cX11_count 195 = .ok (.getfield 394, 3) := dAt (x := (195, .getfield 394, 3)) DX11_count_1 22 rfl
theorem dX11_count_198 : decode cX11_count 198 = .ok (.ireturn, 1) := dAt (x := (198, .ireturn, 1)) DX11_count_1 23 rfl
theorem dX11_count_199 : decode cX11_count 199 = .ok (.aload_n 0, 1) := dAt (x := (199, .aload_n 0, 1)) DX11_count_1 24 rfl
theorem dX11_count_200 : decode cX11_count 200 = .ok (.invokevirtual 502, 3) := dAt (x := (200, .invokevirtual 502, 3)) DX11_count_1 25 rfl
theorem dX11_count_203 : decode cX11_count 203 = .ok (.ireturn, 1) := dAt (x := (203, .ireturn, 1)) DX11_count_1 26 rfl
theorem dX11_count_204 : decode cX11_count 204 = .ok (.aload_n 0, 1) := dAt (x := (204, .aload_n 0, 1)) DX11_count_1 27 rfl
theorem dX11_count_205 : decode cX11_count 205 = .ok (.getfield 397, 3) := dAt (x := (205, .getfield 397, 3)) DX11_count_1 28 rfl
theorem dX11_count_208 : decode cX11_count 208 = .ok (.ireturn, 1) := dAt (x := (208, .ireturn, 1)) DX11_count_1 29 rfl
theorem dX11_count_209 : decode cX11_count 209 = .ok (.iconst (-1), 1) := dAt (x := (209, .iconst (-1), 1)) DX11_count_1 30 rfl
theorem dX11_count_210 : decode cX11_count 210 = .ok (.ireturn, 1) := dAt (x := (210, .ireturn, 1)) DX11_count_1 31 rfl
def lDJ6_bitCount_0f7a4_0 : List (Nat × Instr × Nat) := [(0, .iload_n 0, 1), (1, .iload_n 0, 1), (2, .iconst 1, 1), (3, .iushr, 1), (4, .ldc_w 265, 3), (7, .iand, 1), (8, .isub, 1), (9, .istore_n 0, 1), (10, .iload_n 0, 1), (11, .ldc_w 266, 3), (14, .iand, 1), (15, .iload_n 0, 1), (16, .iconst 2, 1), (17, .iushr, 1), (18, .ldc_w 266, 3), (21, .iand, 1), (22, .iadd, 1), (23, .istore_n 0, 1), (24, .iload_n 0, 1), (25, .iload_n 0, 1), (26, .iconst 4, 1), (27, .iushr, 1), (28, .iadd, 1), (29, .ldc_w 267, 3), (32, .iand, 1), (33, .istore_n 0, 1), (34, .iload_n 0, 1), (35, .iload_n 0, 1), (36, .bipush 8, 2), (38, .iushr, 1), (39, .iadd, 1), (40, .istore_n 0, 1), (41, .iload_n 0, 1), (42, .iload_n 0, 1), (43, .bipush 16, 2), (45, .iushr, 1), (46, .iadd, 1), (47, .istore_n 0, 1), (48, .iload_n 0, 1), (49, .bipush 63, 2), (51, .iand, 1), (52, .ireturn, 1)]
theorem DJ6_bitCount_0f7a4_0 : dAll cJ6_bitCount_0f7a4 lDJ6_bitCount_0f7a4_0 = true := by decide +kernel
theorem dJ6_bitCount_0f7a4_0 : decode cJ6_bitCount_0f7a4 0 = .ok (.iload_n 0, 1) := dAt (x := (0, .iload_n 0, 1)) DJ6_bitCount_0f7a4_0 0 rfl
theorem dJ6_bitCount_0f7a4_1 : decode cJ6_bitCount_0f7a4 1 = .ok (.iload_n 0, 1) := dAt (x := (1, .iload_n 0, 1)) DJ6_bitCount_0f7a4_0 1 rfl
theorem dJ6_bitCount_0f7a4_2 : decode cJ6_bitCount_0f7a4 2 = .ok (.iconst 1, 1) := dAt (x := (2, .iconst 1, 1)) DJ6_bitCount_0f7a4_0 2 rfl
theorem dJ6_bitCount_0f7a4_3 : decode cJ6_bitCount_0f7a4 3 = .ok (.iushr, 1) := dAt (x := (3, .iushr, 1)) DJ6_bitCount_0f7a4_0 3 rfl
theorem dJ6_bitCount_0f7a4_4 : decode cJ6_bitCount_0f7a4 4 = .ok (.ldc_w 265, 3) := dAt (x := (4, .ldc_w 265, 3)) DJ6_bitCount_0f7a4_0 4 rfl
theorem dJ6_bitCount_0f7a4_7 : decode cJ6_bitCount_0f7a4 7 = .ok (.iand, 1) := dAt (x := (7, .iand, 1)) DJ6_bitCount_0f7a4_0 5 rfl
theorem dJ6_bitCount_0f7a4_8 : decode cJ6_bitCount_0f7a4 8 = .ok (.isub, 1) := dAt (x := (8, .isub, 1)) DJ6_bitCount_0f7a4_0 6 rfl
theorem dJ6_bitCount_0f7a4_9 : decode cJ6_bitCount_0f7a4 9 = .ok (.istore_n 0, 1) := dAt (x := (9, .istore_n 0, 1)) DJ6_bitCount_0f7a4_0 7 rfl
theorem dJ6_bitCount_0f7a4_10 : decode cJ6_bitCount_0f7a4 10 = .ok (.iload_n 0, 1) := dAt (x := (10, .iload_n 0, 1)) DJ6_bitCount_0f7a4_0 8 rfl
theorem dJ6_bitCount_0f7a4_11 : decode cJ6_bitCount_0f7a4 11 = .ok (.ldc_w 266, 3) := dAt (x := (11, .ldc_w 266, 3)) DJ6_bitCount_0f7a4_0 9 rfl
theorem dJ6_bitCount_0f7a4_14 : decode cJ6_bitCount_0f7a4 14 = .ok (.iand, 1) := dAt (x := (14, .iand, 1)) DJ6_bitCount_0f7a4_0 10 rfl
theorem dJ6_bitCount_0f7a4_15 : decode cJ6_bitCount_0f7a4 15 = .ok (.iload_n 0, 1) := dAt (x := (15, .iload_n 0, 1)) DJ6_bitCount_0f7a4_0 11 rfl
theorem dJ6_bitCount_0f7a4_16 : decode cJ6_bitCount_0f7a4 16 = .ok (.iconst 2, 1) := dAt (x := (16, .iconst 2, 1)) DJ6_bitCount_0f7a4_0 12 rfl
theorem dJ6_bitCount_0f7a4_17 : decode cJ6_bitCount_0f7a4 17 = .ok (.iushr, 1) := dAt (x := (17, .iushr, 1)) DJ6_bitCount_0f7a4_0 13 rfl
theorem dJ6_bitCount_0f7a4_18 : decode cJ6_bitCount_0f7a4 18 = .ok (.ldc_w 266, 3) := dAt (x := (18, .ldc_w 266, 3)) DJ6_bitCount_0f7a4_0 14 rfl
theorem dJ6_bitCount_0f7a4_21 : decode cJ6_bitCount_0f7a4 21 = .ok (.iand, 1) := dAt (x := (21, .iand, 1)) DJ6_bitCount_0f7a4_0 15 rfl
theorem dJ6_bitCount_0f7a4_22 : decode cJ6_bitCount_0f7a4 22 = .ok (.iadd, 1) := dAt (x := (22, .iadd, 1)) DJ6_bitCount_0f7a4_0 16 rfl
theorem dJ6_bitCount_0f7a4_23 : decode cJ6_bitCount_0f7a4 23 = .ok (.istore_n 0, 1) := dAt (x := (23, .istore_n 0, 1)) DJ6_bitCount_0f7a4_0 17 rfl
theorem dJ6_bitCount_0f7a4_24 : decode cJ6_bitCount_0f7a4 24 = .ok (.iload_n 0, 1) := dAt (x := (24, .iload_n 0, 1)) DJ6_bitCount_0f7a4_0 18 rfl
theorem dJ6_bitCount_0f7a4_25 : decode cJ6_bitCount_0f7a4 25 = .ok (.iload_n 0, 1) := dAt (x := (25, .iload_n 0, 1)) DJ6_bitCount_0f7a4_0 19 rfl
theorem dJ6_bitCount_0f7a4_26 : decode cJ6_bitCount_0f7a4 26 = .ok (.iconst 4, 1) := dAt (x := (26, .iconst 4, 1)) DJ6_bitCount_0f7a4_0 20 rfl
theorem dJ6_bitCount_0f7a4_27 : decode cJ6_bitCount_0f7a4 27 = .ok (.iushr, 1) := dAt (x := (27, .iushr, 1)) DJ6_bitCount_0f7a4_0 21 rfl
theorem dJ6_bitCount_0f7a4_28 : decode cJ6_bitCount_0f7a4 28 = .ok (.iadd, 1) := dAt (x := (28, .iadd, 1)) DJ6_bitCount_0f7a4_0 22 rfl
theorem dJ6_bitCount_0f7a4_29 : decode cJ6_bitCount_0f7a4 29 = .ok (.ldc_w 267, 3) := dAt (x := (29, .ldc_w 267, 3)) DJ6_bitCount_0f7a4_0 23 rfl
theorem dJ6_bitCount_0f7a4_32 : decode cJ6_bitCount_0f7a4 32 = .ok (.iand, 1) := dAt (x := (32, .iand, 1)) DJ6_bitCount_0f7a4_0 24 rfl
theorem dJ6_bitCount_0f7a4_33 : decode cJ6_bitCount_0f7a4 33 = .ok (.istore_n 0, 1) := dAt (x := (33, .istore_n 0, 1)) DJ6_bitCount_0f7a4_0 25 rfl
theorem dJ6_bitCount_0f7a4_34 : decode cJ6_bitCount_0f7a4 34 = .ok (.iload_n 0, 1) := dAt (x := (34, .iload_n 0, 1)) DJ6_bitCount_0f7a4_0 26 rfl
theorem dJ6_bitCount_0f7a4_35 : decode cJ6_bitCount_0f7a4 35 = .ok (.iload_n 0, 1) := dAt (x := (35, .iload_n 0, 1)) DJ6_bitCount_0f7a4_0 27 rfl
theorem dJ6_bitCount_0f7a4_36 : decode cJ6_bitCount_0f7a4 36 = .ok (.bipush 8, 2) := dAt (x := (36, .bipush 8, 2)) DJ6_bitCount_0f7a4_0 28 rfl
theorem dJ6_bitCount_0f7a4_38 : decode cJ6_bitCount_0f7a4 38 = .ok (.iushr, 1) := dAt (x := (38, .iushr, 1)) DJ6_bitCount_0f7a4_0 29 rfl
theorem dJ6_bitCount_0f7a4_39 : decode cJ6_bitCount_0f7a4 39 = .ok (.iadd, 1) := dAt (x := (39, .iadd, 1)) DJ6_bitCount_0f7a4_0 30 rfl
theorem dJ6_bitCount_0f7a4_40 : decode cJ6_bitCount_0f7a4 40 = .ok (.istore_n 0, 1) := dAt (x := (40, .istore_n 0, 1)) DJ6_bitCount_0f7a4_0 31 rfl
theorem dJ6_bitCount_0f7a4_41 : decode cJ6_bitCount_0f7a4 41 = .ok (.iload_n 0, 1) := dAt (x := (41, .iload_n 0, 1)) DJ6_bitCount_0f7a4_0 32 rfl
theorem dJ6_bitCount_0f7a4_42 : decode cJ6_bitCount_0f7a4 42 = .ok (.iload_n 0, 1) := dAt (x := (42, .iload_n 0, 1)) DJ6_bitCount_0f7a4_0 33 rfl
theorem dJ6_bitCount_0f7a4_43 : decode cJ6_bitCount_0f7a4 43 = .ok (.bipush 16, 2) := dAt (x := (43, .bipush 16, 2)) DJ6_bitCount_0f7a4_0 34 rfl
theorem dJ6_bitCount_0f7a4_45 : decode cJ6_bitCount_0f7a4 45 = .ok (.iushr, 1) := dAt (x := (45, .iushr, 1)) DJ6_bitCount_0f7a4_0 35 rfl
theorem dJ6_bitCount_0f7a4_46 : decode cJ6_bitCount_0f7a4 46 = .ok (.iadd, 1) := dAt (x := (46, .iadd, 1)) DJ6_bitCount_0f7a4_0 36 rfl
theorem dJ6_bitCount_0f7a4_47 : decode cJ6_bitCount_0f7a4 47 = .ok (.istore_n 0, 1) := dAt (x := (47, .istore_n 0, 1)) DJ6_bitCount_0f7a4_0 37 rfl
theorem dJ6_bitCount_0f7a4_48 : decode cJ6_bitCount_0f7a4 48 = .ok (.iload_n 0, 1) := dAt (x := (48, .iload_n 0, 1)) DJ6_bitCount_0f7a4_0 38 rfl
theorem dJ6_bitCount_0f7a4_49 : decode cJ6_bitCount_0f7a4 49 = .ok (.bipush 63, 2) := dAt (x := (49, .bipush 63, 2)) DJ6_bitCount_0f7a4_0 39 rfl
theorem dJ6_bitCount_0f7a4_51 : decode cJ6_bitCount_0f7a4 51 = .ok (.iand, 1) := dAt (x := (51, .iand, 1)) DJ6_bitCount_0f7a4_0 40 rfl
theorem dJ6_bitCount_0f7a4_52 : decode cJ6_bitCount_0f7a4 52 = .ok (.ireturn, 1) := dAt (x := (52, .ireturn, 1)) DJ6_bitCount_0f7a4_0 41 rfl
def lDJ9_floorMod_7cf53_0 : List (Nat × Instr × Nat) := [(0, .iload_n 0, 1), (1, .iload_n 1, 1), (2, .irem, 1), (3, .istore_n 2, 1), (4, .iload_n 0, 1), (5, .iload_n 1, 1), (6, .ixor, 1), (7, .ifCond .ge 11, 3), (10, .iload_n 2, 1), (11, .ifCond .eq 7, 3), (14, .iload_n 2, 1), (15, .iload_n 1, 1), (16, .iadd, 1), (17, .ireturn, 1), (18, .iload_n 2, 1), (19, .ireturn, 1)]
theorem DJ9_floorMod_7cf53_0 : dAll cJ9_floorMod_7cf53 lDJ9_floorMod_7cf53_0 = true := by decide +kernel
theorem dJ9_floorMod_7cf53_0 : decode cJ9_floorMod_7cf53 0 = .ok (.iload_n 0, 1) := dAt (x := (0, .iload_n 0, 1)) DJ9_floorMod_7cf53_0 0 rfl
theorem dJ9_floorMod_7cf53_1 : decode cJ9_floorMod_7cf53 1 = .ok (.iload_n 1, 1) := dAt (x := (1, .iload_n 1, 1)) DJ9_floorMod_7cf53_0 1 rfl
theorem dJ9_floorMod_7cf53_2 : decode cJ9_floorMod_7cf53 2 = .ok (.irem, 1) := dAt (x := (2, .irem, 1)) DJ9_floorMod_7cf53_0 2 rfl
theorem dJ9_floorMod_7cf53_3 : decode cJ9_floorMod_7cf53 3 = .ok (.istore_n 2, 1) := dAt (x := (3, .istore_n 2, 1)) DJ9_floorMod_7cf53_0 3 rfl
theorem dJ9_floorMod_7cf53_4 : decode cJ9_floorMod_7cf53 4 = .ok (.iload_n 0, 1) := dAt (x := (4, .iload_n 0, 1)) DJ9_floorMod_7cf53_0 4 rfl
theorem dJ9_floorMod_7cf53_5 : decode cJ9_floorMod_7cf53 5 = .ok (.iload_n 1, 1) := dAt (x := (5, .iload_n 1, 1)) DJ9_floorMod_7cf53_0 5 rfl
theorem dJ9_floorMod_7cf53_6 : decode cJ9_floorMod_7cf53 6 = .ok (.ixor, 1) := dAt (x := (6, .ixor, 1)) DJ9_floorMod_7cf53_0 6 rfl
theorem dJ9_floorMod_7cf53_7 : decode cJ9_floorMod_7cf53 7 = .ok (.ifCond .ge 11, 3) := dAt (x := (7, .ifCond .ge 11, 3)) DJ9_floorMod_7cf53_0 7 rfl
theorem dJ9_floorMod_7cf53_10 : decode cJ9_floorMod_7cf53 10 = .ok (.iload_n 2, 1) := dAt (x := (10, .iload_n 2, 1)) DJ9_floorMod_7cf53_0 8 rfl
theorem dJ9_floorMod_7cf53_11 : decode cJ9_floorMod_7cf53 11 = .ok (.ifCond .eq 7, 3) := dAt (x := (11, .ifCond .eq 7, 3)) DJ9_floorMod_7cf53_0 9 rfl
theorem dJ9_floorMod_7cf53_14 : decode cJ9_floorMod_7cf53 14 = .ok (.iload_n 2, 1) := dAt (x := (14, .iload_n 2, 1)) DJ9_floorMod_7cf53_0 10 rfl
theorem dJ9_floorMod_7cf53_15 : decode cJ9_floorMod_7cf53 15 = .ok (.iload_n 1, 1) := dAt (x := (15, .iload_n 1, 1)) DJ9_floorMod_7cf53_0 11 rfl
theorem dJ9_floorMod_7cf53_16 : decode cJ9_floorMod_7cf53 16 = .ok (.iadd, 1) := dAt (x := (16, .iadd, 1)) DJ9_floorMod_7cf53_0 12 rfl
theorem dJ9_floorMod_7cf53_17 : decode cJ9_floorMod_7cf53 17 = .ok (.ireturn, 1) := dAt (x := (17, .ireturn, 1)) DJ9_floorMod_7cf53_0 13 rfl
theorem dJ9_floorMod_7cf53_18 : decode cJ9_floorMod_7cf53 18 = .ok (.iload_n 2, 1) := dAt (x := (18, .iload_n 2, 1)) DJ9_floorMod_7cf53_0 14 rfl
theorem dJ9_floorMod_7cf53_19 : decode cJ9_floorMod_7cf53 19 = .ok (.ireturn, 1) := dAt (x := (19, .ireturn, 1)) DJ9_floorMod_7cf53_0 15 rfl
def lDJ0_length_8abf5_0 : List (Nat × Instr × Nat) := [(0, .aload_n 0, 1), (1, .getfield 9, 3), (4, .arraylength, 1), (5, .aload_n 0, 1), (6, .invokevirtual 335, 3), (9, .ishr, 1), (10, .ireturn, 1)]
theorem DJ0_length_8abf5_0 : dAll cJ0_length_8abf5 lDJ0_length_8abf5_0 = true := by decide +kernel
theorem dJ0_length_8abf5_0 : decode cJ0_length_8abf5 0 = .ok (.aload_n 0, 1) := dAt (x := (0, .aload_n 0, 1)) DJ0_length_8abf5_0 0 rfl
theorem dJ0_length_8abf5_1 : decode cJ0_length_8abf5 1 = .ok (.getfield 9, 3) := dAt (x := (1, .getfield 9, 3)) DJ0_length_8abf5_0 1 rfl
theorem dJ0_length_8abf5_4 : decode cJ0_length_8abf5 4 = .ok (.arraylength, 1) := dAt (x := (4, .arraylength, 1)) DJ0_length_8abf5_0 2 rfl
theorem dJ0_length_8abf5_5 : decode cJ0_length_8abf5 5 = .ok (.aload_n 0, 1) := dAt (x := (5, .aload_n 0, 1)) DJ0_length_8abf5_0 3 rfl
theorem dJ0_length_8abf5_6 : decode cJ0_length_8abf5 6 = .ok (.invokevirtual 335, 3) := dAt (x := (6, .invokevirtual 335, 3)) DJ0_length_8abf5_0 4 rfl
theorem dJ0_length_8abf5_9 : decode cJ0_length_8abf5 9 = .ok (.ishr, 1) := dAt (x := (9, .ishr, 1)) DJ0_length_8abf5_0 5 rfl
theorem dJ0_length_8abf5_10 : decode cJ0_length_8abf5 10 = .ok (.ireturn, 1) := dAt (x := (10, .ireturn, 1)) DJ0_length_8abf5_0 6 rfl
def lDJ0_charAt_5068e_0 : List (Nat × Instr × Nat) := [(0, .aload_n 0, 1), (1, .invokevirtual 492, 3), (4, .ifCond .eq 12, 3), (7, .aload_n 0, 1), (8, .getfield 9, 3), (11, .iload_n 1, 1), (12, .invokestatic 495, 3), (15, .ireturn, 1), (16, .aload_n 0, 1), (17, .getfield 9, 3), (20, .iload_n 1, 1), (21, .invokestatic 498, 3), (24, .ireturn, 1)]
theorem DJ0_charAt_5068e_0 : dAll cJ0_charAt_5068e lDJ0_charAt_5068e_0 = true := by decide +kernel
theorem dJ0_charAt_5068e_0 : decode cJ0_charAt_5068e 0 = .ok (.aload_n 0, 1) := dAt (x := (0, .aload_n 0, 1)) DJ0_charAt_5068e_0 0 rfl
theorem dJ0_charAt_5068e_1 : decode cJ0_charAt_5068e 1 = .ok (.invokevirtual 492, 3) := dAt (x := (1, .invokevirtual 492, 3)) DJ0_charAt_5068e_0 1 rfl
theorem dJ0_charAt_5068e_4 : decode cJ0_charAt_5068e 4 = .ok (.ifCond .eq 12, 3) := dAt (x := (4, .ifCond .eq 12, 3)) DJ0_charAt_5068e_0 2 rfl
theorem dJ0_charAt_5068e_7 : decode cJ0_charAt_5068e 7 = .ok (.aload_n 0, 1) := dAt (x := (7, .aload_n 0, 1)) DJ0_charAt_5068e_0 3 rfl
theorem dJ0_charAt_5068e_8 : decode cJ0_charAt_5068e 8 = .ok (.getfield 9, 3) := dAt (x := (8, .getfield 9, 3)) DJ0_charAt_5068e_0 4 rfl
theorem dJ0_charAt_5068e_11 : decode cJ0_charAt_5068e 11 = .ok (.iload_n 1, 1) := dAt (x := (11, .iload_n 1, 1)) DJ0_charAt_5068e_0 5 rfl
theorem dJ0_charAt_5068e_12 : decode cJ0_charAt_5068e 12 = .ok (.invokestatic 495, 3) := dAt (x := (12, .invokestatic 495, 3)) DJ0_charAt_5068e_0 6 rfl
theorem dJ0_charAt_5068e_15 : decode cJ0_charAt_5068e 15 = .ok (.ireturn, 1) := dAt (x := (15, .ireturn, 1)) DJ0_charAt_5068e_0 7 rfl
theorem dJ0_charAt_5068e_16 : decode cJ0_charAt_5068e 16 = .ok (.aload_n 0, 1) := dAt (x := (16, .aload_n 0, 1)) DJ0_charAt_5068e_0 8 rfl
theorem dJ0_charAt_5068e_17 : decode cJ0_charAt_5068e 17 = .ok (.getfield 9, 3) := dAt (x := (17, .getfield 9, 3)) DJ0_charAt_5068e_0 9 rfl
theorem dJ0_charAt_5068e_20 : decode cJ0_charAt_5068e 20 = .ok (.iload_n 1, 1) := dAt (x := (20, .iload_n 1, 1)) DJ0_charAt_5068e_0 10 rfl
theorem dJ0_charAt_5068e_21 : decode cJ0_charAt_5068e 21 = .ok (.invokestatic 498, 3) := dAt (x := (21, .invokestatic 498, 3)) DJ0_charAt_5068e_0 11 rfl
theorem dJ0_charAt_5068e_24 : decode cJ0_charAt_5068e 24 = .ok (.ireturn, 1) := dAt (x := (24, .ireturn, 1)) DJ0_charAt_5068e_0 12 rfl
def lDJ0_indexOf_0f7a4_0 : List (Nat × Instr × Nat) := [(0, .aload_n 0, 1), (1, .iload_n 1, 1), (2, .iconst 0, 1), (3, .invokevirtual 633, 3), (6, .ireturn, 1)]
theorem DJ0_indexOf_0f7a4_0 : dAll cJ0_indexOf_0f7a4 lDJ0_indexOf_0f7a4_0 = true := by decide +kernel
theorem dJ0_indexOf_0f7a4_0 : decode cJ0_indexOf_0f7a4 0 = .ok (.aload_n 0, 1) := dAt (x := (0, .aload_n 0, 1)) DJ0_indexOf_0f7a4_0 0 rfl
theorem dJ0_indexOf_0f7a4_1 : decode cJ0_indexOf_0f7a4 1 = .ok (.iload_n 1, 1) := dAt (x := (1, .iload_n 1, 1)) DJ0_indexOf_0f7a4_0 1 rfl
theorem dJ0_indexOf_0f7a4_2 : decode cJ0_indexOf_0f7a4 2 = .ok (.iconst 0, 1) := dAt (x := (2, .iconst 0, 1)) DJ0_indexOf_0f7a4_0 2 rfl
theorem dJ0_indexOf_0f7a4_3 : decode cJ0_indexOf_0f7a4 3 = .ok (.invokevirtual 633, 3) := dAt (x := (3, .invokevirtual 633, 3)) DJ0_indexOf_0f7a4_0 3 rfl
theorem dJ0_indexOf_0f7a4_6 : decode cJ0_indexOf_0f7a4 6 = .ok (.ireturn, 1) := dAt (x := (6, .ireturn, 1)) DJ0_indexOf_0f7a4_0 4 rfl
def lDJ0_indexOf_7cf53_0 : List (Nat × Instr × Nat) := [(0, .aload_n 0, 1), (1, .invokevirtual 492, 3), (4, .ifCond .eq 19, 3), (7, .aload_n 0, 1), (8, .getfield 9, 3), (11, .iload_n 1, 1), (12, .iload_n 2, 1), (13, .aload_n 0, 1), (14, .invokevirtual 505, 3), (17, .invokestatic 637, 3), (20, .goto 16, 3), (23, .aload_n 0, 1), (24, .getfield 9, 3), (27, .iload_n 1, 1), (28, .iload_n 2, 1), (29, .aload_n 0, 1), (30, .invokevirtual 505, 3), (33, .invokestatic 640, 3), (36, .ireturn, 1)]
theorem DJ0_indexOf_7cf53_0 : dAll cJ0_indexOf_7cf53 lDJ0_indexOf_7cf53_0 = true := by decide +kernel
theorem dJ0_indexOf_7cf53_0 : decode cJ0_indexOf_7cf53 0 = .ok (.aload_n 0, 1) := dAt (x := (0, .aload_n 0, 1)) DJ0_indexOf_7cf53_0 0 rfl
theorem dJ0_indexOf_7cf53_1 : decode cJ0_indexOf_7cf53 1 = .ok (.invokevirtual 492, 3) := dAt (x := (1, .invokevirtual 492, 3)) DJ0_indexOf_7cf53_0 1 rfl
theorem dJ0_indexOf_7cf53_4 : decode cJ0_indexOf_7cf53 4 = .ok (.ifCond .eq 19, 3) := dAt (x := (4, .ifCond .eq 19, 3)) DJ0_indexOf_7cf53_0 2 rfl
theorem dJ0_indexOf_7cf53_7 : decode cJ0_indexOf_7cf53 7 = .ok (.aload_n 0, 1) := dAt (x := (7, .aload_n 0, 1)) DJ0_indexOf_7cf53_0 3 rfl
theorem dJ0_indexOf_7cf53_8 : decode cJ0_indexOf_7cf53 8 = .ok (.getfield 9, 3) := dAt (x := (8, .getfield 9, 3)) DJ0_indexOf_7cf53_0 4 rfl
theorem dJ0_indexOf_7cf53_11 : decode cJ0_indexOf_7cf53 11 = .ok (.iload_n 1, 1) := dAt (x := (11, .iload_n 1, 1)) DJ0_indexOf_7cf53_0 5 rfl
theorem dJ0_indexOf_7cf53_12 : decode cJ0_indexOf_7cf53 12 = .ok (.iload_n 2, 1) := dAt (x := (12, .iload_n 2, 1)) DJ0_indexOf_7cf53_0 6 rfl
theorem dJ0_indexOf_7cf53_13 : decode cJ0_indexOf_7cf53 13 = .ok (.aload_n 0, 1) := dAt (x := (13, .aload_n 0, 1)) DJ0_indexOf_7cf53_0 7 rfl
theorem dJ0_indexOf_7cf53_14 : decode cJ0_indexOf_7cf53 14 = .ok (.invokevirtual 505, 3) := dAt (x := (14, .invokevirtual 505, 3)) DJ0_indexOf_7cf53_0 8 rfl
theorem dJ0_indexOf_7cf53_17 : decode cJ0_indexOf_7cf53 17 = .ok (.invokestatic 637, 3) := dAt (x := (17, .invokestatic 637, 3)) DJ0_indexOf_7cf53_0 9 rfl
theorem dJ0_indexOf_7cf53_20 : decode cJ0_indexOf_7cf53 20 = .ok (.goto 16, 3) := dAt (x := (20, .goto 16, 3)) DJ0_indexOf_7cf53_0 10 rfl
theorem dJ0_indexOf_7cf53_23 : decode cJ0_indexOf_7cf53 23 = .ok (.aload_n 0, 1) := dAt (x := (23, .aload_n 0, 1)) DJ0_indexOf_7cf53_0 11 rfl
theorem dJ0_indexOf_7cf53_24 : decode cJ0_indexOf_7cf53 24 = .ok (.getfield 9, 3) := dAt (x := (24, .getfield 9, 3)) DJ0_indexOf_7cf53_0 12 rfl
theorem dJ0_indexOf_7cf53_27 : decode cJ0_indexOf_7cf53 27 = .ok (.iload_n 1, 1) := dAt (x := (27, .iload_n 1, 1)) DJ0_indexOf_7cf53_0 13 rfl
theorem dJ0_indexOf_7cf53_28 : decode cJ0_indexOf_7cf53 28 = .ok (.iload_n 2, 1) := dAt (x := (28, .iload_n 2, 1)) DJ0_indexOf_7cf53_0 14 rfl
theorem dJ0_indexOf_7cf53_29 : decode cJ0_indexOf_7cf53 29 = .ok (.aload_n 0, 1) := dAt (x := (29, .aload_n 0, 1)) DJ0_indexOf_7cf53_0 15 rfl
theorem dJ0_indexOf_7cf53_30 : decode cJ0_indexOf_7cf53 30 = .ok (.invokevirtual 505, 3) := dAt (x := (30, .invokevirtual 505, 3)) DJ0_indexOf_7cf53_0 16 rfl
theorem dJ0_indexOf_7cf53_33 : decode cJ0_indexOf_7cf53 33 = .ok (.invokestatic 640, 3) := dAt (x := (33, .invokestatic 640, 3)) DJ0_indexOf_7cf53_0 17 rfl
theorem dJ0_indexOf_7cf53_36 : decode cJ0_indexOf_7cf53 36 = .ok (.ireturn, 1) := dAt (x := (36, .ireturn, 1)) DJ0_indexOf_7cf53_0 18 rfl
def lDJ0_coder_7d493_0 : List (Nat × Instr × Nat) := [(0, .getstatic 38, 3), (3, .ifCond .eq 10, 3), (6, .aload_n 0, 1), (7, .getfield 15, 3), (10, .goto 4, 3), (13, .iconst 1, 1), (14, .ireturn, 1)]
theorem DJ0_coder_7d493_0 : dAll cJ0_coder_7d493 lDJ0_coder_7d493_0 = true := by decide +kernel
theorem dJ0_coder_7d493_0 : decode cJ0_coder_7d493 0 = .ok (.getstatic 38, 3) := dAt (x := (0, .getstatic 38, 3)) DJ0_coder_7d493_0 0 rfl
theorem dJ0_coder_7d493_3 : decode cJ0_coder_7d493 3 = .ok (.ifCond .eq 10, 3) := dAt (x := (3, .ifCond .eq 10, 3)) DJ0_coder_7d493_0 1 rfl
theorem dJ0_coder_7d493_6 : decode cJ0_coder_7d493 6 = .ok (.aload_n 0, 1) := dAt (x := (6, .aload_n 0, 1)) DJ0_coder_7d493_0 2 rfl
theorem dJ0_coder_7d493_7 : decode cJ0_coder_7d493 7 = .ok (.getfield 15, 3) := dAt (x := (7, .getfield 15, 3)) DJ0_coder_7d493_0 3 rfl
theorem dJ0_coder_7d493_10 : decode cJ0_coder_7d493 10 = .ok (.goto 4, 3) := dAt (x := (10, .goto 4, 3)) DJ0_coder_7d493_0 4 rfl
theorem dJ0_coder_7d493_13 : decode cJ0_coder_7d493 13 = .ok (.iconst 1, 1) := dAt (x := (13, .iconst 1, 1)) DJ0_coder_7d493_0 5 rfl
theorem dJ0_coder_7d493_14 : decode cJ0_coder_7d493 14 = .ok (.ireturn, 1) := dAt (x := (14, .ireturn, 1)) DJ0_coder_7d493_0 6 rfl
def lDJ0_isLatin1_aae02_0 : List (Nat × Instr × Nat) := [(0, .getstatic 38, 3), (3, .ifCond .eq 14, 3), (6, .aload_n 0, 1), (7, .getfield 15, 3), (10, .ifCond .ne 7, 3), (13, .iconst 1, 1), (14, .goto 4, 3), (17, .iconst 0, 1), (18, .ireturn, 1)]
theorem DJ0_isLatin1_aae02_0 : dAll cJ0_isLatin1_aae02 lDJ0_isLatin1_aae02_0 = true := by decide +kernel
theorem dJ0_isLatin1_aae02_0 : decode cJ0_isLatin1_aae02 0 = .ok (.getstatic 38, 3) := dAt (x := (0, .getstatic 38, 3)) DJ0_isLatin1_aae02_0 0 rfl
theorem dJ0_isLatin1_aae02_3 : decode cJ0_isLatin1_aae02 3 = .ok (.ifCond .eq 14, 3) := dAt (x := (3, .ifCond .eq 14, 3)) DJ0_isLatin1_aae02_0 1 rfl
theorem dJ0_isLatin1_aae02_6 : decode cJ0_isLatin1_aae02 6 = .ok (.aload_n 0, 1) := dAt (x := (6, .aload_n 0, 1)) DJ0_isLatin1_aae02_0 2 rfl
theorem dJ0_isLatin1_aae02_7 : decode cJ0_isLatin1_aae02 7 = .ok (.getfield 15, 3) := dAt (x := (7, .getfield 15, 3)) DJ0_isLatin1_aae02_0 3 rfl
theorem dJ0_isLatin1_aae02_10 : decode cJ0_isLatin1_aae02 10 = .ok (.ifCond .ne 7, 3) := dAt (x := (10, .ifCond .ne 7, 3)) DJ0_isLatin1_aae02_0 4 rfl
theorem dJ0_isLatin1_aae02_13 : decode cJ0_isLatin1_aae02 13 = .ok (.iconst 1, 1) := dAt (x := (13, .iconst 1, 1)) DJ0_isLatin1_aae02_0 5 rfl
theorem dJ0_isLatin1_aae02_14 : decode cJ0_isLatin1_aae02 14 = .ok (.goto 4, 3) := dAt (x := (14, .goto 4, 3)) DJ0_isLatin1_aae02_0 6 rfl
theorem dJ0_isLatin1_aae02_17 : decode cJ0_isLatin1_aae02 17 = .ok (.iconst 0, 1) := dAt (x := (17, .iconst 0, 1)) DJ0_isLatin1_aae02_0 7 rfl
theorem dJ0_isLatin1_aae02_18 : decode cJ0_isLatin1_aae02 18 = .ok (.ireturn, 1) := dAt (x := (18, .ireturn, 1)) DJ0_isLatin1_aae02_0 8 rfl
def lDJ0_checkIndex_df160_0 : List (Nat × Instr × Nat) := [(0, .iload_n 0, 1), (1, .iload_n 1, 1), (2, .getstatic 1053, 3), (5, .invokestatic 1059, 3), (8, .pop, 1), (9, .return_, 1)]
theorem DJ0_checkIndex_df160_0 : dAll cJ0_checkIndex_df160 lDJ0_checkIndex_df160_0 = true := by decide +kernel
theorem dJ0_checkIndex_df160_0 : decode cJ0_checkIndex_df160 0 = .ok (.iload_n 0, 1) := dAt (x := (0, .iload_n 0, 1)) DJ0_checkIndex_df160_0 0 rfl
theorem dJ0_checkIndex_df160_1 : decode cJ0_checkIndex_df160 1 = .ok (.iload_n 1, 1) := dAt (x := (1, .iload_n 1, 1)) DJ0_checkIndex_df160_0 1 rfl
theorem dJ0_checkIndex_df160_2 : decode cJ0_checkIndex_df160 2 = .ok (.getstatic 1053, 3) := dAt (x := (2, .getstatic 1053, 3)) DJ0_checkIndex_df160_0 2 rfl
theorem dJ0_checkIndex_df160_5 : decode cJ0_checkIndex_df160 5 = .ok (.invokestatic 1059, 3) := dAt (x := (5, .invokestatic 1059, 3)) DJ0_checkIndex_df160_0 3 rfl
theorem dJ0_checkIndex_df160_8 : decode cJ0_checkIndex_df160 8 = .ok (.pop, 1) := dAt (x := (8, .pop, 1)) DJ0_checkIndex_df160_0 4 rfl
theorem dJ0_checkIndex_df160_9 : decode cJ0_checkIndex_df160 9 = .ok (.return_, 1) := dAt (x := (9, .return_, 1)) DJ0_checkIndex_df160_0 5 rfl
def lDJ1_charAt_3b067_0 : List (Nat × Instr × Nat) := [(0, .iload_n 1, 1), (1, .aload_n 0, 1), (2, .arraylength, 1), (3, .invokestatic 9, 3), (6, .aload_n 0, 1), (7, .iload_n 1, 1), (8, .baload, 1), (9, .sipush 255, 3), (12, .iand, 1), (13, .i2c, 1), (14, .ireturn, 1)]
theorem DJ1_charAt_3b067_0 : dAll cJ1_charAt_3b067 lDJ1_charAt_3b067_0 = true := by decide +kernel
theorem dJ1_charAt_3b067_0 : decode cJ1_charAt_3b067 0 = .ok (.iload_n 1, 1) := dAt (x := (0, .iload_n 1, 1)) DJ1_charAt_3b067_0 0 rfl
theorem dJ1_charAt_3b067_1 : decode cJ1_charAt_3b067 1 = .ok (.aload_n 0, 1) := dAt (x := (1, .aload_n 0, 1)) DJ1_charAt_3b067_0 1 rfl
theorem dJ1_charAt_3b067_2 : decode cJ1_charAt_3b067 2 = .ok (.arraylength, 1) := dAt (x := (2, .arraylength, 1)) DJ1_charAt_3b067_0 2 rfl
theorem dJ1_charAt_3b067_3 : decode cJ1_charAt_3b067 3 = .ok (.invokestatic 9, 3) := dAt (x := (3, .invokestatic 9, 3)) DJ1_charAt_3b067_0 3 rfl
theorem dJ1_charAt_3b067_6 : decode cJ1_charAt_3b067 6 = .ok (.aload_n 0, 1) := dAt (x := (6, .aload_n 0, 1)) DJ1_charAt_3b067_0 4 rfl
theorem dJ1_charAt_3b067_7 : decode cJ1_charAt_3b067 7 = .ok (.iload_n 1, 1) := dAt (x := (7, .iload_n 1, 1)) DJ1_charAt_3b067_0 5 rfl
theorem dJ1_charAt_3b067_8 : decode cJ1_charAt_3b067 8 = .ok (.baload, 1) := dAt (x := (8, .baload, 1)) DJ1_charAt_3b067_0 6 rfl
theorem dJ1_charAt_3b067_9 : decode cJ1_charAt_3b067 9 = .ok (.sipush 255, 3) := dAt (x := (9, .sipush 255, 3)) DJ1_charAt_3b067_0 7 rfl
theorem dJ1_charAt_3b067_12 : decode cJ1_charAt_3b067 12 = .ok (.iand, 1) := dAt (x := (12, .iand, 1)) DJ1_charAt_3b067_0 8 rfl
theorem dJ1_charAt_3b067_13 : decode cJ1_charAt_3b067 13 = .ok (.i2c, 1) := dAt (x := (13, .i2c, 1)) DJ1_charAt_3b067_0 9 rfl
theorem dJ1_charAt_3b067_14 : decode cJ1_charAt_3b067 14 = .ok (.ireturn, 1) := dAt (x := (14, .ireturn, 1)) DJ1_charAt_3b067_0 10 rfl
def lDJ1_canEncode_9a6ad_0 : List (Nat × Instr × Nat) := [(0, .iload_n 0, 1), (1, .ifCond .lt 14, 3), (4, .iload_n 0, 1), (5, .sipush 255, 3), (8, .if_icmp .gt 7, 3), (11, .iconst 1, 1), (12, .goto 4, 3), (15, .iconst 0, 1), (16, .ireturn, 1)]
theorem DJ1_canEncode_9a6ad_0 : dAll cJ1_canEncode_9a6ad lDJ1_canEncode_9a6ad_0 = true := by decide +kernel
theorem dJ1_canEncode_9a6ad_0 : decode cJ1_canEncode_9a6ad 0 = .ok (.iload_n 0, 1) := dAt (x := (0, .iload_n 0, 1)) DJ1_canEncode_9a6ad_0 0 rfl
theorem dJ1_canEncode_9a6ad_1 : decode cJ1_canEncode_9a6ad 1 = .ok (.ifCond .lt 14, 3) := dAt (x := (1, .ifCond .lt 14, 3)) DJ1_canEncode_9a6ad_0 1 rfl
theorem dJ1_canEncode_9a6ad_4 : decode cJ1_canEncode_9a6ad 4 = .ok (.iload_n 0, 1) := dAt (x := (4, .iload_n 0, 1)) DJ1_canEncode_9a6ad_0 2 rfl
theorem dJ1_canEncode_9a6ad_5 : decode cJ1_canEncode_9a6ad 5 = .ok (.sipush 255, 3) := dAt (x := (5, .sipush 255, 3)) DJ1_canEncode_9a6ad_0 3 rfl
theorem dJ1_canEncode_9a6ad_8 : decode cJ1_canEncode_9a6ad 8 = .ok (.if_icmp .gt 7, 3) := dAt (x := (8, .if_icmp .gt 7, 3)) DJ1_canEncode_9a6ad_0 4 rfl
theorem dJ1_canEncode_9a6ad_11 : decode cJ1_canEncode_9a6ad 11 = .ok (.iconst 1, 1) := dAt (x := (11, .iconst 1, 1)) DJ1_canEncode_9a6ad_0 5 rfl
theorem dJ1_canEncode_9a6ad_12 : decode cJ1_canEncode_9a6ad 12 = .ok (.goto 4, 3) := dAt (x := (12, .goto 4, 3)) DJ1_canEncode_9a6ad_0 6 rfl
theorem dJ1_canEncode_9a6ad_15 : decode cJ1_canEncode_9a6ad 15 = .ok (.iconst 0, 1) := dAt (x := (15, .iconst 0, 1)) DJ1_canEncode_9a6ad_0 7 rfl
theorem dJ1_canEncode_9a6ad_16 : decode cJ1_canEncode_9a6ad 16 = .ok (.ireturn, 1) := dAt (x := (16, .ireturn, 1)) DJ1_canEncode_9a6ad_0 8 rfl
def lDJ1_indexOf_4cfef_0 : List (Nat × Instr × Nat) := [(0, .iload_n 1, 1), (1, .invokestatic 88, 3), (4, .ifCond .ne 5, 3), (7, .iconst (-1), 1), (8, .ireturn, 1), (9, .iload_n 2, 1), (10, .iconst 0, 1), (11, .invokestatic 92, 3), (14, .istore_n 2, 1), (15, .iload_n 3, 1), (16, .aload_n 0, 1), (17, .arraylength, 1), (18, .invokestatic 38, 3), (21, .istore_n 3, 1), (22, .iload_n 2, 1), (23, .iload_n 3, 1), (24, .if_icmp .lt 5, 3), (27, .iconst (-1), 1), (28, .ireturn, 1), (29, .aload_n 0, 1), (30, .iload_n 1, 1), (31, .iload_n 2, 1), (32, .iload_n 3, 1), (33, .invokestatic 95, 3), (36, .ireturn, 1)]
theorem DJ1_indexOf_4cfef_0 : dAll cJ1_indexOf_4cfef lDJ1_indexOf_4cfef_0 = true := by decide +kernel
theorem dJ1_indexOf_4cfef_0 : decode cJ1_indexOf_4cfef 0 = .ok (.iload_n 1, 1) := dAt (x := (0, .iload_n 1, 1)) DJ1_indexOf_4cfef_0 0 rfl
theorem dJ1_indexOf_4cfef_1 : decode cJ1_indexOf_4cfef 1 = .ok (.invokestatic 88, 3) := dAt (x := (1, .invokestatic 88, 3)) DJ1_indexOf_4cfef_0 1 rfl
theorem dJ1_indexOf_4cfef_4 : decode cJ1_indexOf_4cfef 4 = .ok (.ifCond .ne 5, 3) := dAt (x := (4, .ifCond .ne 5, 3)) DJ1_indexOf_4cfef_0 2 rfl
theorem dJ1_indexOf_4cfef_7 : decode cJ1_indexOf_4cfef 7 = .ok (.iconst (-1), 1) := dAt (x := (7, .iconst (-1), 1)) DJ1_indexOf_4cfef_0 3 rfl
theorem dJ1_indexOf_4cfef_8 : decode cJ1_indexOf_4cfef 8 = .ok (.ireturn, 1) := dAt (x := (8, .ireturn, 1)) DJ1_indexOf_4cfef_0 4 rfl
theorem dJ1_indexOf_4cfef_9 : decode cJ1_indexOf_4cfef 9 = .ok (.iload_n 2, 1) := dAt (x := (9, .iload_n 2, 1)) DJ1_indexOf_4cfef_0 5 rfl
theorem dJ1_indexOf_4cfef_10 : decode cJ1_indexOf_4cfef 10 = .ok (.iconst 0, 1) := dAt (x := (10, .iconst 0, 1)) DJ1_indexOf_4cfef_0 6 rfl
theorem dJ1_indexOf_4cfef_11 : decode cJ1_indexOf_4cfef 11 = .ok (.invokestatic 92, 3) := dAt (x := (11, .invokestatic 92, 3)) DJ1_indexOf_4cfef_0 7 rfl
theorem dJ1_indexOf_4cfef_14 : decode cJ1_indexOf_4cfef 14 = .ok (.istore_n 2, 1) := dAt (x := (14, .istore_n 2, 1)) DJ1_indexOf_4cfef_0 8 rfl
theorem dJ1_indexOf_4cfef_15 : decode cJ1_indexOf_4cfef 15 = .ok (.iload_n 3, 1) := dAt (x := (15, .iload_n 3, 1)) DJ1_indexOf_4cfef_0 9 rfl
theorem dJ1_indexOf_4cfef_16 : decode cJ1_indexOf_4cfef 16 = .ok (.aload_n 0, 1) := dAt (x := (16, .aload_n 0, 1)) DJ1_indexOf_4cfef_0 10 rfl
theorem dJ1_indexOf_4cfef_17 : decode cJ1_indexOf_4cfef 17 = .ok (.arraylength, 1) := dAt (x := (17, .arraylength, 1)) DJ1_indexOf_4cfef_0 11 rfl
theorem dJ1_indexOf_4cfef_18 : decode cJ1_indexOf_4cfef 18 = .ok (.invokestatic 38, 3) := dAt (x := (18, .invokestatic 38, 3)) DJ1_indexOf_4cfef_0 12 rfl
theorem dJ1_indexOf_4cfef_21 : decode cJ1_indexOf_4cfef 21 = .ok (.istore_n 3, 1) := dAt (x := (21, .istore_n 3, 1)) DJ1_indexOf_4cfef_0 13 rfl
theorem dJ1_indexOf_4cfef_22 : decode cJ1_indexOf_4cfef 22 = .ok (.iload_n 2, 1) := dAt (x := (22, .iload_n 2, 1)) DJ1_indexOf_4cfef_0 14 rfl
theorem dJ1_indexOf_4cfef_23 : decode cJ1_indexOf_4cfef 23 = .ok (.iload_n 3, 1) := dAt (x := (23, .iload_n 3, 1)) DJ1_indexOf_4cfef_0 15 rfl
theorem dJ1_indexOf_4cfef_24 : decode cJ1_indexOf_4cfef 24 = .ok (.if_icmp .lt 5, 3) := dAt (x := (24, .if_icmp .lt 5, 3)) DJ1_indexOf_4cfef_0 16 rfl
theorem dJ1_indexOf_4cfef_27 : decode cJ1_indexOf_4cfef 27 = .ok (.iconst (-1), 1) := dAt (x := (27, .iconst (-1), 1)) DJ1_indexOf_4cfef_0 17 rfl
theorem dJ1_indexOf_4cfef_28 : decode cJ1_indexOf_4cfef 28 = .ok (.ireturn, 1) := dAt (x := (28, .ireturn, 1)) DJ1_indexOf_4cfef_0 18 rfl
theorem dJ1_indexOf_4cfef_29 : decode cJ1_indexOf_4cfef 29 = .ok (.aload_n 0, 1) := dAt (x := (29, .aload_n 0, 1)) DJ1_indexOf_4cfef_0 19 rfl
theorem dJ1_indexOf_4cfef_30 : decode cJ1_indexOf_4cfef 30 = .ok (.iload_n 1, 1) := dAt (x := (30, .iload_n 1, 1)) DJ1_indexOf_4cfef_0 20 rfl
theorem dJ1_indexOf_4cfef_31 : decode cJ1_indexOf_4cfef 31 = .ok (.iload_n 2, 1) := dAt (x := (31, .iload_n 2, 1)) DJ1_indexOf_4cfef_0 21 rfl
theorem dJ1_indexOf_4cfef_32 : decode cJ1_indexOf_4cfef 32 = .ok (.iload_n 3, 1) := dAt (x := (32, .iload_n 3, 1)) DJ1_indexOf_4cfef_0 22 rfl
theorem dJ1_indexOf_4cfef_33 : decode cJ1_indexOf_4cfef 33 = .ok (.invokestatic 95, 3) := dAt (x := (33, .invokestatic 95, 3)) DJ1_indexOf_4cfef_0 23 rfl
theorem dJ1_indexOf_4cfef_36 : decode cJ1_indexOf_4cfef 36 = .ok (.ireturn, 1) := dAt (x := (36, .ireturn, 1)) DJ1_indexOf_4cfef_0 24 rfl
def lDJ1_indexOfChar_4cfef_0 : List (Nat × Instr × Nat) := [(0, .iload_n 1, 1), (1, .i2b, 1), (2, .istore 4, 2), (4, .iload_n 2, 1), (5, .istore 5, 2), (7, .iload 5, 2), (9, .iload_n 3, 1), (10, .if_icmp .ge 21, 3), (13, .aload_n 0, 1), (14, .iload 5, 2), (16, .baload, 1), (17, .iload 4, 2), (19, .if_icmp .ne 6, 3), (22, .iload 5, 2), (24, .ireturn, 1), (25, .iinc 5 1, 3), (28, .goto (-21), 3), (31, .iconst (-1), 1), (32, .ireturn, 1)]
theorem DJ1_indexOfChar_4cfef_0 : dAll cJ1_indexOfChar_4cfef lDJ1_indexOfChar_4cfef_0 = true := by decide +kernel
theorem dJ1_indexOfChar_4cfef_0 : decode cJ1_indexOfChar_4cfef 0 = .ok (.iload_n 1, 1) := dAt (x := (0, .iload_n 1, 1)) DJ1_indexOfChar_4cfef_0 0 rfl
theorem dJ1_indexOfChar_4cfef_1 : decode cJ1_indexOfChar_4cfef 1 = .ok (.i2b, 1) := dAt (x := (1, .i2b, 1)) DJ1_indexOfChar_4cfef_0 1 rfl
theorem dJ1_indexOfChar_4cfef_2 : decode cJ1_indexOfChar_4cfef 2 = .ok (.istore 4, 2) := dAt (x := (2, .istore 4, 2)) DJ1_indexOfChar_4cfef_0 2 rfl
theorem dJ1_indexOfChar_4cfef_4 : decode cJ1_indexOfChar_4cfef 4 = .ok (.iload_n 2, 1) := dAt (x := (4, .iload_n 2, 1)) DJ1_indexOfChar_4cfef_0 3 rfl
theorem dJ1_indexOfChar_4cfef_5 : decode cJ1_indexOfChar_4cfef 5 = .ok (.istore 5, 2) := dAt (x := (5, .istore 5, 2)) DJ1_indexOfChar_4cfef_0 4 rfl
theorem dJ1_indexOfChar_4cfef_7 : decode cJ1_indexOfChar_4cfef 7 = .ok (.iload 5, 2) := dAt (x := (7, .iload 5, 2)) DJ1_indexOfChar_4cfef_0 5 rfl
theorem dJ1_indexOfChar_4cfef_9 : decode cJ1_indexOfChar_4cfef 9 = .ok (.iload_n 3, 1) := dAt (x := (9, .iload_n 3, 1)) DJ1_indexOfChar_4cfef_0 6 rfl
theorem dJ1_indexOfChar_4cfef_10 : decode cJ1_indexOfChar_4cfef 10 = .ok (.if_icmp .ge 21, 3) := dAt (x := (10, .if_icmp .ge 21, 3)) DJ1_indexOfChar_4cfef_0 7 rfl
theorem dJ1_indexOfChar_4cfef_13 : decode cJ1_indexOfChar_4cfef 13 = .ok (.aload_n 0, 1) := dAt (x := (13, .aload_n 0, 1)) DJ1_indexOfChar_4cfef_0 8 rfl
theorem dJ1_indexOfChar_4cfef_14 : decode cJ1_indexOfChar_4cfef 14 = .ok (.iload 5, 2) := dAt (x := (14, .iload 5, 2)) DJ1_indexOfChar_4cfef_0 9 rfl
theorem dJ1_indexOfChar_4cfef_16 : decode cJ1_indexOfChar_4cfef 16 = .ok (.baload, 1) := dAt (x := (16, .baload, 1)) DJ1_indexOfChar_4cfef_0 10 rfl
theorem dJ1_indexOfChar_4cfef_17 : decode cJ1_indexOfChar_4cfef 17 = .ok (.iload 4, 2) := dAt (x := (17, .iload 4, 2)) DJ1_indexOfChar_4cfef_0 11 rfl
theorem dJ1_indexOfChar_4cfef_19 : decode cJ1_indexOfChar_4cfef 19 = .ok (.if_icmp .ne 6, 3) := dAt (x := (19, .if_icmp .ne 6, 3)) DJ1_indexOfChar_4cfef_0 12 rfl
theorem dJ1_indexOfChar_4cfef_22 : decode cJ1_indexOfChar_4cfef 22 = .ok (.iload 5, 2) := dAt (x := (22, .iload 5, 2)) DJ1_indexOfChar_4cfef_0 13 rfl
theorem dJ1_indexOfChar_4cfef_24 : decode cJ1_indexOfChar_4cfef 24 = .ok (.ireturn, 1) := dAt (x := (24, .ireturn, 1)) DJ1_indexOfChar_4cfef_0 14 rfl
theorem dJ1_indexOfChar_4cfef_25 : decode cJ1_indexOfChar_4cfef 25 = .ok (.iinc 5 1, 3) := dAt (x := (25, .iinc 5 1, 3)) DJ1_indexOfChar_4cfef_0 15 rfl
theorem dJ1_indexOfChar_4cfef_28 : decode cJ1_indexOfChar_4cfef 28 = .ok (.goto (-21), 3) := dAt (x := (28, .goto (-21), 3)) DJ1_indexOfChar_4cfef_0 16 rfl
theorem dJ1_indexOfChar_4cfef_31 : decode cJ1_indexOfChar_4cfef 31 = .ok (.iconst (-1), 1) := dAt (x := (31, .iconst (-1), 1)) DJ1_indexOfChar_4cfef_0 17 rfl
theorem dJ1_indexOfChar_4cfef_32 : decode cJ1_indexOfChar_4cfef 32 = .ok (.ireturn, 1) := dAt (x := (32, .ireturn, 1)) DJ1_indexOfChar_4cfef_0 18 rfl
def lDJ7_fill_d0a16_0 : List (Nat × Instr × Nat) := [(0, .iconst 0, 1), (1, .istore_n 3, 1), (2, .aload_n 0, 1), (3, .arraylength, 1), (4, .istore 4, 2), (6, .iload_n 3, 1), (7, .iload 4, 2), (9, .if_icmp .ge 13, 3), (12, .aload_n 0, 1), (13, .iload_n 3, 1), (14, .lload_n 1, 1), (15, .lastore, 1), (16, .iinc 3 1, 3), (19, .goto (-13), 3), (22, .return_, 1)]
theorem DJ7_fill_d0a16_0 : dAll cJ7_fill_d0a16 lDJ7_fill_d0a16_0 = true := by decide +kernel
theorem dJ7_fill_d0a16_0 : decode cJ7_fill_d0a16 0 = .ok (.iconst 0, 1) := dAt (x := (0, .iconst 0, 1)) DJ7_fill_d0a16_0 0 rfl
theorem dJ7_fill_d0a16_1 : decode cJ7_fill_d0a16 1 = .ok (.istore_n 3, 1) := dAt (x := (1, .istore_n 3, 1)) DJ7_fill_d0a16_0 1 rfl
theorem dJ7_fill_d0a16_2 : decode cJ7_fill_d0a16 2 = .ok (.aload_n 0, 1) := dAt (x := (2, .aload_n 0, 1)) DJ7_fill_d0a16_0 2 rfl
theorem dJ7_fill_d0a16_3 : decode cJ7_fill_d0a16 3 = .ok (.arraylength, 1) := dAt (x := (3, .arraylength, 1)) DJ7_fill_d0a16_0 3 rfl
theorem dJ7_fill_d0a16_4 : decode cJ7_fill_d0a16 4 = .ok (.istore 4, 2) := dAt (x := (4, .istore 4, 2)) DJ7_fill_d0a16_0 4 rfl
theorem dJ7_fill_d0a16_6 : decode cJ7_fill_d0a16 6 = .ok (.iload_n 3, 1) := dAt (x := (6, .iload_n 3, 1)) DJ7_fill_d0a16_0 5 rfl
theorem dJ7_fill_d0a16_7 : decode cJ7_fill_d0a16 7 = .ok (.iload 4, 2) := dAt (x := (7, .iload 4, 2)) DJ7_fill_d0a16_0 6 rfl
theorem dJ7_fill_d0a16_9 : decode cJ7_fill_d0a16 9 = .ok (.if_icmp .ge 13, 3) := dAt (x := (9, .if_icmp .ge 13, 3)) DJ7_fill_d0a16_0 7 rfl
theorem dJ7_fill_d0a16_12 : decode cJ7_fill_d0a16 12 = .ok (.aload_n 0, 1) := dAt (x := (12, .aload_n 0, 1)) DJ7_fill_d0a16_0 8 rfl
theorem dJ7_fill_d0a16_13 : decode cJ7_fill_d0a16 13 = .ok (.iload_n 3, 1) := dAt (x := (13, .iload_n 3, 1)) DJ7_fill_d0a16_0 9 rfl
theorem dJ7_fill_d0a16_14 : decode cJ7_fill_d0a16 14 = .ok (.lload_n 1, 1) := dAt (x := (14, .lload_n 1, 1)) DJ7_fill_d0a16_0 10 rfl
theorem dJ7_fill_d0a16_15 : decode cJ7_fill_d0a16 15 = .ok (.lastore, 1) := dAt (x := (15, .lastore, 1)) DJ7_fill_d0a16_0 11 rfl
theorem dJ7_fill_d0a16_16 : decode cJ7_fill_d0a16 16 = .ok (.iinc 3 1, 3) := dAt (x := (16, .iinc 3 1, 3)) DJ7_fill_d0a16_0 12 rfl
theorem dJ7_fill_d0a16_19 : decode cJ7_fill_d0a16 19 = .ok (.goto (-13), 3) := dAt (x := (19, .goto (-13), 3)) DJ7_fill_d0a16_0 13 rfl
theorem dJ7_fill_d0a16_22 : decode cJ7_fill_d0a16 22 = .ok (.return_, 1) := dAt (x := (22, .return_, 1)) DJ7_fill_d0a16_0 14 rfl
def lDJ7_fill_53178_0 : List (Nat × Instr × Nat) := [(0, .iconst 0, 1), (1, .istore_n 2, 1), (2, .aload_n 0, 1), (3, .arraylength, 1), (4, .istore_n 3, 1), (5, .iload_n 2, 1), (6, .iload_n 3, 1), (7, .if_icmp .ge 13, 3), (10, .aload_n 0, 1), (11, .iload_n 2, 1), (12, .iload_n 1, 1), (13, .iastore, 1), (14, .iinc 2 1, 3), (17, .goto (-12), 3), (20, .return_, 1)]
theorem DJ7_fill_53178_0 : dAll cJ7_fill_53178 lDJ7_fill_53178_0 = true := by decide +kernel
theorem dJ7_fill_53178_0 : decode cJ7_fill_53178 0 = .ok (.iconst 0, 1) := dAt (x := (0, .iconst 0, 1)) DJ7_fill_53178_0 0 rfl
theorem dJ7_fill_53178_1 : decode cJ7_fill_53178 1 = .ok (.istore_n 2, 1) := dAt (x := (1, .istore_n 2, 1)) DJ7_fill_53178_0 1 rfl
theorem dJ7_fill_53178_2 : decode cJ7_fill_53178 2 = .ok (.aload_n 0, 1) := dAt (x := (2, .aload_n 0, 1)) DJ7_fill_53178_0 2 rfl
theorem dJ7_fill_53178_3 : decode cJ7_fill_53178 3 = .ok (.arraylength, 1) := dAt (x := (3, .arraylength, 1)) DJ7_fill_53178_0 3 rfl
theorem dJ7_fill_53178_4 : decode cJ7_fill_53178 4 = .ok (.istore_n 3, 1) := dAt (x := (4, .istore_n 3, 1)) DJ7_fill_53178_0 4 rfl
theorem dJ7_fill_53178_5 : decode cJ7_fill_53178 5 = .ok (.iload_n 2, 1) := dAt (x := (5, .iload_n 2, 1)) DJ7_fill_53178_0 5 rfl
theorem dJ7_fill_53178_6 : decode cJ7_fill_53178 6 = .ok (.iload_n 3, 1) := dAt (x := (6, .iload_n 3, 1)) DJ7_fill_53178_0 6 rfl
theorem dJ7_fill_53178_7 : decode cJ7_fill_53178 7 = .ok (.if_icmp .ge 13, 3) := dAt (x := (7, .if_icmp .ge 13, 3)) DJ7_fill_53178_0 7 rfl
theorem dJ7_fill_53178_10 : decode cJ7_fill_53178 10 = .ok (.aload_n 0, 1) := dAt (x := (10, .aload_n 0, 1)) DJ7_fill_53178_0 8 rfl
theorem dJ7_fill_53178_11 : decode cJ7_fill_53178 11 = .ok (.iload_n 2, 1) := dAt (x := (11, .iload_n 2, 1)) DJ7_fill_53178_0 9 rfl
theorem dJ7_fill_53178_12 : decode cJ7_fill_53178 12 = .ok (.iload_n 1, 1) := dAt (x := (12, .iload_n 1, 1)) DJ7_fill_53178_0 10 rfl
theorem dJ7_fill_53178_13 : decode cJ7_fill_53178 13 = .ok (.iastore, 1) := dAt (x := (13, .iastore, 1)) DJ7_fill_53178_0 11 rfl
theorem dJ7_fill_53178_14 : decode cJ7_fill_53178 14 = .ok (.iinc 2 1, 3) := dAt (x := (14, .iinc 2 1, 3)) DJ7_fill_53178_0 12 rfl
theorem dJ7_fill_53178_17 : decode cJ7_fill_53178 17 = .ok (.goto (-12), 3) := dAt (x := (17, .goto (-12), 3)) DJ7_fill_53178_0 13 rfl
theorem dJ7_fill_53178_20 : decode cJ7_fill_53178 20 = .ok (.return_, 1) := dAt (x := (20, .return_, 1)) DJ7_fill_53178_0 14 rfl
def lDJ3_checkIndex_8e157_0 : List (Nat × Instr × Nat) := [(0, .iload_n 0, 1), (1, .ifCond .lt 8, 3), (4, .iload_n 0, 1), (5, .iload_n 1, 1), (6, .if_icmp .lt 10, 3), (9, .aload_n 2, 1), (10, .iload_n 0, 1), (11, .iload_n 1, 1), (12, .invokestatic 95, 3), (15, .athrow, 1), (16, .iload_n 0, 1), (17, .ireturn, 1)]
theorem DJ3_checkIndex_8e157_0 : dAll cJ3_checkIndex_8e157 lDJ3_checkIndex_8e157_0 = true := by decide +kernel
theorem dJ3_checkIndex_8e157_0 : decode cJ3_checkIndex_8e157 0 = .ok (.iload_n 0, 1) := dAt (x := (0, .iload_n 0, 1)) DJ3_checkIndex_8e157_0 0 rfl
theorem dJ3_checkIndex_8e157_1 : decode cJ3_checkIndex_8e157 1 = .ok (.ifCond .lt 8, 3) := dAt (x := (1, .ifCond .lt 8, 3)) DJ3_checkIndex_8e157_0 1 rfl
theorem dJ3_checkIndex_8e157_4 : decode cJ3_checkIndex_8e157 4 = .ok (.iload_n 0, 1) := dAt (x := (4, .iload_n 0, 1)) DJ3_checkIndex_8e157_0 2 rfl
theorem dJ3_checkIndex_8e157_5 : decode cJ3_checkIndex_8e157 5 = .ok (.iload_n 1, 1) := dAt (x := (5, .iload_n 1, 1)) DJ3_checkIndex_8e157_0 3 rfl
theorem dJ3_checkIndex_8e157_6 : decode cJ3_checkIndex_8e157 6 = .ok (.if_icmp .lt 10, 3) := dAt (x := (6, .if_icmp .lt 10, 3)) DJ3_checkIndex_8e157_0 4 rfl
theorem dJ3_checkIndex_8e157_9 : decode cJ3_checkIndex_8e157 9 = .ok (.aload_n 2, 1) := dAt (x := (9, .aload_n 2, 1)) DJ3_checkIndex_8e157_0 5 rfl
theorem dJ3_checkIndex_8e157_10 : decode cJ3_checkIndex_8e157 10 = .ok (.iload_n 0, 1) := dAt (x := (10, .iload_n 0, 1)) DJ3_checkIndex_8e157_0 6 rfl
theorem dJ3_checkIndex_8e157_11 : decode cJ3_checkIndex_8e157 11 = .ok (.iload_n 1, 1) := dAt (x := (11, .iload_n 1, 1)) DJ3_checkIndex_8e157_0 7 rfl
theorem dJ3_checkIndex_8e157_12 : decode cJ3_checkIndex_8e157 12 = .ok (.invokestatic 95, 3) := dAt (x := (12, .invokestatic 95, 3)) DJ3_checkIndex_8e157_0 8 rfl
theorem dJ3_checkIndex_8e157_15 : decode cJ3_checkIndex_8e157 15 = .ok (.athrow, 1) := dAt (x := (15, .athrow, 1)) DJ3_checkIndex_8e157_0 9 rfl
theorem dJ3_checkIndex_8e157_16 : decode cJ3_checkIndex_8e157 16 = .ok (.iload_n 0, 1) := dAt (x := (16, .iload_n 0, 1)) DJ3_checkIndex_8e157_0 10 rfl
theorem dJ3_checkIndex_8e157_17 : decode cJ3_checkIndex_8e157 17 = .ok (.ireturn, 1) := dAt (x := (17, .ireturn, 1)) DJ3_checkIndex_8e157_0 11 rfl
def lDL_latch_0 : List (Nat × Instr × Nat) := [(0, .aload_n 3, 1), (1, .iconst 0, 1), (2, .aload_n 0, 1), (3, .iload_n 1, 1), (4, .iload_n 2, 1), (5, .invokevirtual 7, 3), (8, .i2l, 1), (9, .lastore, 1), (10, .goto 11, 3), (13, .astore 4, 2), (15, .iconst 1, 1), (16, .ireturn, 1), (17, .astore 4, 2), (19, .iconst 2, 1), (20, .ireturn, 1), (21, .iconst 0, 1), (22, .ireturn, 1)]
theorem DL_latch_0 : dAll cL_latch lDL_latch_0 = true := by decide +kernel
theorem dL_latch_0 : decode cL_latch 0 = .ok (.aload_n 3, 1) := dAt (x := (0, .aload_n 3, 1)) DL_latch_0 0 rfl
theorem dL_latch_1 : decode cL_latch 1 = .ok (.iconst 0, 1) := dAt (x := (1, .iconst 0, 1)) DL_latch_0 1 rfl
theorem dL_latch_2 : decode cL_latch 2 = .ok (.aload_n 0, 1) := dAt (x := (2, .aload_n 0, 1)) DL_latch_0 2 rfl
theorem dL_latch_3 : decode cL_latch 3 = .ok (.iload_n 1, 1) := dAt (x := (3, .iload_n 1, 1)) DL_latch_0 3 rfl
theorem dL_latch_4 : decode cL_latch 4 = .ok (.iload_n 2, 1) := dAt (x := (4, .iload_n 2, 1)) DL_latch_0 4 rfl
theorem dL_latch_5 : decode cL_latch 5 = .ok (.invokevirtual 7, 3) := dAt (x := (5, .invokevirtual 7, 3)) DL_latch_0 5 rfl
theorem dL_latch_8 : decode cL_latch 8 = .ok (.i2l, 1) := dAt (x := (8, .i2l, 1)) DL_latch_0 6 rfl
theorem dL_latch_9 : decode cL_latch 9 = .ok (.lastore, 1) := dAt (x := (9, .lastore, 1)) DL_latch_0 7 rfl
theorem dL_latch_10 : decode cL_latch 10 = .ok (.goto 11, 3) := dAt (x := (10, .goto 11, 3)) DL_latch_0 8 rfl
theorem dL_latch_13 : decode cL_latch 13 = .ok (.astore 4, 2) := dAt (x := (13, .astore 4, 2)) DL_latch_0 9 rfl
theorem dL_latch_15 : decode cL_latch 15 = .ok (.iconst 1, 1) := dAt (x := (15, .iconst 1, 1)) DL_latch_0 10 rfl
theorem dL_latch_16 : decode cL_latch 16 = .ok (.ireturn, 1) := dAt (x := (16, .ireturn, 1)) DL_latch_0 11 rfl
theorem dL_latch_17 : decode cL_latch 17 = .ok (.astore 4, 2) := dAt (x := (17, .astore 4, 2)) DL_latch_0 12 rfl
theorem dL_latch_19 : decode cL_latch 19 = .ok (.iconst 2, 1) := dAt (x := (19, .iconst 2, 1)) DL_latch_0 13 rfl
theorem dL_latch_20 : decode cL_latch 20 = .ok (.ireturn, 1) := dAt (x := (20, .ireturn, 1)) DL_latch_0 14 rfl
theorem dL_latch_21 : decode cL_latch 21 = .ok (.iconst 0, 1) := dAt (x := (21, .iconst 0, 1)) DL_latch_0 15 rfl
theorem dL_latch_22 : decode cL_latch 22 = .ok (.ireturn, 1) := dAt (x := (22, .ireturn, 1)) DL_latch_0 16 rfl
def lDL_law_0 : List (Nat × Instr × Nat) := [(0, .new 8, 3), (3, .dup, 1), (4, .invokespecial 17, 3), (7, .astore_n 1, 1), (8, .new 18, 3), (11, .dup, 1), (12, .invokespecial 20, 3), (15, .astore_n 2, 1), (16, .iconst 1, 1), (17, .newarray .long, 2), (19, .astore_n 3, 1), (20, .iconst 0, 1), (21, .istore 4, 2), (23, .iload 4, 2), (25, .aload_n 0, 1), (26, .arraylength, 1), (27, .bipush 6, 2), (29, .isub, 1), (30, .if_icmp .gt 1369, 3), (33, .aload_n 0, 1), (34, .iload 4, 2), (36, .iaload, 1), (37, .bipush 63, 2), (39, .iand, 1), (40, .tableswitch 1353 0 38 #[172, 245, 270, 295, 320, 388, 413, 450, 488, 513, 538, 563, 588, 625, 650, 675, 700, 725, 738, 763, 776, 789, 826, 851, 876, 901, 926, 976, 1014, 1079, 1104, 1129, 1154, 1191, 1240, 1289, 1302, 1315, 1328], 172), (212, .aload_n 1, 1), (213, .aload_n 0, 1), (214, .iload 4, 2), (216, .iconst 1, 1), (217, .iadd, 1), (218, .iaload, 1), (219, .aload_n 0, 1), (220, .iload 4, 2), (222, .iconst 2, 1), (223, .iadd, 1), (224, .iaload, 1), (225, .aload_n 0, 1), (226, .iload 4, 2), (228, .iconst 3, 1), (229, .iadd, 1), (230, .iaload, 1), (231, .aload_n 0, 1), (232, .iload 4, 2), (234, .iconst 4, 1), (235, .iadd, 1), (236, .iaload, 1), (237, .aload_n 0, 1), (238, .iload 4, 2), (240, .iconst 5, 1), (241, .iadd, 1), (242, .iaload, 1), (243, .invokevirtual 21, 3), (246, .aload_n 2, 1), (247, .aload_n 0, 1), (248, .iload 4, 2), (250, .iconst 1, 1), (251, .iadd, 1), (252, .iaload, 1), (253, .aload_n 0, 1), (254, .iload 4, 2)]
theorem DL_law_0 : dAll cL_law lDL_law_0 = true := by decide +kernel
theorem dL_law_0 : decode cL_law 0 = .ok (.new 8, 3) := dAt (x := (0, .new 8, 3)) DL_law_0 0 rfl
theorem dL_law_3 : decode cL_law 3 = .ok (.dup, 1) := dAt (x := (3, .dup, 1)) DL_law_0 1 rfl
theorem dL_law_4 : decode cL_law 4 = .ok (.invokespecial 17, 3) := dAt (x := (4, .invokespecial 17, 3)) DL_law_0 2 rfl
theorem dL_law_7 : decode cL_law 7 = .ok (.astore_n 1, 1) := dAt (x := (7, .astore_n 1, 1)) DL_law_0 3 rfl
theorem dL_law_8 : decode cL_law 8 = .ok (.new 18, 3) := dAt (x := (8, .new 18, 3)) DL_law_0 4 rfl
theorem dL_law_11 : decode cL_law 11 = .ok (.dup, 1) := dAt (x := (11, .dup, 1)) DL_law_0 5 rfl
theorem dL_law_12 : decode cL_law 12 = .ok (.invokespecial 20, 3) := dAt (x := (12, .invokespecial 20, 3)) DL_law_0 6 rfl
theorem dL_law_15 : decode cL_law 15 = .ok (.astore_n 2, 1) := dAt (x := (15, .astore_n 2, 1)) DL_law_0 7 rfl
theorem dL_law_16 : decode cL_law 16 = .ok (.iconst 1, 1) := dAt (x := (16, .iconst 1, 1)) DL_law_0 8 rfl
theorem dL_law_17 : decode cL_law 17 = .ok (.newarray .long, 2) := dAt (x := (17, .newarray .long, 2)) DL_law_0 9 rfl
theorem dL_law_19 : decode cL_law 19 = .ok (.astore_n 3, 1) := dAt (x := (19, .astore_n 3, 1)) DL_law_0 10 rfl
theorem dL_law_20 : decode cL_law 20 = .ok (.iconst 0, 1) := dAt (x := (20, .iconst 0, 1)) DL_law_0 11 rfl
theorem dL_law_21 : decode cL_law 21 = .ok (.istore 4, 2) := dAt (x := (21, .istore 4, 2)) DL_law_0 12 rfl
theorem dL_law_23 : decode cL_law 23 = .ok (.iload 4, 2) := dAt (x := (23, .iload 4, 2)) DL_law_0 13 rfl
theorem dL_law_25 : decode cL_law 25 = .ok (.aload_n 0, 1) := dAt (x := (25, .aload_n 0, 1)) DL_law_0 14 rfl
theorem dL_law_26 : decode cL_law 26 = .ok (.arraylength, 1) := dAt (x := (26, .arraylength, 1)) DL_law_0 15 rfl
theorem dL_law_27 : decode cL_law 27 = .ok (.bipush 6, 2) := dAt (x := (27, .bipush 6, 2)) DL_law_0 16 rfl
theorem dL_law_29 : decode cL_law 29 = .ok (.isub, 1) := dAt (x := (29, .isub, 1)) DL_law_0 17 rfl
theorem dL_law_30 : decode cL_law 30 = .ok (.if_icmp .gt 1369, 3) := dAt (x := (30, .if_icmp .gt 1369, 3)) DL_law_0 18 rfl
theorem dL_law_33 : decode cL_law 33 = .ok (.aload_n 0, 1) := dAt (x := (33, .aload_n 0, 1)) DL_law_0 19 rfl
theorem dL_law_34 : decode cL_law 34 = .ok (.iload 4, 2) := dAt (x := (34, .iload 4, 2)) DL_law_0 20 rfl
theorem dL_law_36 : decode cL_law 36 = .ok (.iaload, 1) := dAt (x := (36, .iaload, 1)) DL_law_0 21 rfl
theorem dL_law_37 : decode cL_law 37 = .ok (.bipush 63, 2) := dAt (x := (37, .bipush 63, 2)) DL_law_0 22 rfl
theorem dL_law_39 : decode cL_law 39 = .ok (.iand, 1) := dAt (x := (39, .iand, 1)) DL_law_0 23 rfl
theorem dL_law_40 : decode cL_law 40 = .ok (.tableswitch 1353 0 38 #[172, 245, 270, 295, 320, 388, 413, 450, 488, 513, 538, 563, 588, 625, 650, 675, 700, 725, 738, 763, 776, 789, 826, 851, 876, 901, 926, 976, 1014, 1079, 1104, 1129, 1154, 1191, 1240, 1289, 1302, 1315, 1328], 172) := dAt (x := (40, .tableswitch 1353 0 38 #[172, 245, 270, 295, 320, 388, 413, 450, 488, 513, 538, 563, 588, 625, 650, 675, 700, 725, 738, 763, 776, 789, 826, 851, 876, 901, 926, 976, 1014, 1079, 1104, 1129, 1154, 1191, 1240, 1289, 1302, 1315, 1328], 172)) DL_law_0 24 rfl
theorem dL_law_212 : decode cL_law 212 = .ok (.aload_n 1, 1) := dAt (x := (212, .aload_n 1, 1)) DL_law_0 25 rfl
theorem dL_law_213 : decode cL_law 213 = .ok (.aload_n 0, 1) := dAt (x := (213, .aload_n 0, 1)) DL_law_0 26 rfl
theorem dL_law_214 : decode cL_law 214 = .ok (.iload 4, 2) := dAt (x := (214, .iload 4, 2)) DL_law_0 27 rfl
theorem dL_law_216 : decode cL_law 216 = .ok (.iconst 1, 1) := dAt (x := (216, .iconst 1, 1)) DL_law_0 28 rfl
theorem dL_law_217 : decode cL_law 217 = .ok (.iadd, 1) := dAt (x := (217, .iadd, 1)) DL_law_0 29 rfl
theorem dL_law_218 : decode cL_law 218 = .ok (.iaload, 1) := dAt (x := (218, .iaload, 1)) DL_law_0 30 rfl
theorem dL_law_219 : decode cL_law 219 = .ok (.aload_n 0, 1) := dAt (x := (219, .aload_n 0, 1)) DL_law_0 31 rfl
theorem dL_law_220 : decode cL_law 220 = .ok (.iload 4, 2) := dAt (x := (220, .iload 4, 2)) DL_law_0 32 rfl
theorem dL_law_222 : decode cL_law 222 = .ok (.iconst 2, 1) := dAt (x := (222, .iconst 2, 1)) DL_law_0 33 rfl
theorem dL_law_223 : decode cL_law 223 = .ok (.iadd, 1) := dAt (x := (223, .iadd, 1)) DL_law_0 34 rfl
theorem dL_law_224 : decode cL_law 224 = .ok (.iaload, 1) := dAt (x := (224, .iaload, 1)) DL_law_0 35 rfl
theorem dL_law_225 : decode cL_law 225 = .ok (.aload_n 0, 1) := dAt (x := (225, .aload_n 0, 1)) DL_law_0 36 rfl
theorem dL_law_226 : decode cL_law 226 = .ok (.iload 4, 2) := dAt (x := (226, .iload 4, 2)) DL_law_0 37 rfl
theorem dL_law_228 : decode cL_law 228 = .ok (.iconst 3, 1) := dAt (x := (228, .iconst 3, 1)) DL_law_0 38 rfl
theorem dL_law_229 : decode cL_law 229 = .ok (.iadd, 1) := dAt (x := (229, .iadd, 1)) DL_law_0 39 rfl
theorem dL_law_230 : decode cL_law 230 = .ok (.iaload, 1) := dAt (x := (230, .iaload, 1)) DL_law_0 40 rfl
theorem dL_law_231 : decode cL_law 231 = .ok (.aload_n 0, 1) := dAt (x := (231, .aload_n 0, 1)) DL_law_0 41 rfl
theorem dL_law_232 : decode cL_law 232 = .ok (.iload 4, 2) := dAt (x := (232, .iload 4, 2)) DL_law_0 42 rfl
theorem dL_law_234 : decode cL_law 234 = .ok (.iconst 4, 1) := dAt (x := (234, .iconst 4, 1)) DL_law_0 43 rfl
theorem dL_law_235 : decode cL_law 235 = .ok (.iadd, 1) := dAt (x := (235, .iadd, 1)) DL_law_0 44 rfl
theorem dL_law_236 : decode cL_law 236 = .ok (.iaload, 1) := dAt (x := (236, .iaload, 1)) DL_law_0 45 rfl
theorem dL_law_237 : decode cL_law 237 = .ok (.aload_n 0, 1) := dAt (x := (237, .aload_n 0, 1)) DL_law_0 46 rfl
theorem dL_law_238 : decode cL_law 238 = .ok (.iload 4, 2) := dAt (x := (238, .iload 4, 2)) DL_law_0 47 rfl
theorem dL_law_240 : decode cL_law 240 = .ok (.iconst 5, 1) := dAt (x := (240, .iconst 5, 1)) DL_law_0 48 rfl
theorem dL_law_241 : decode cL_law 241 = .ok (.iadd, 1) := dAt (x := (241, .iadd, 1)) DL_law_0 49 rfl
theorem dL_law_242 : decode cL_law 242 = .ok (.iaload, 1) := dAt (x := (242, .iaload, 1)) DL_law_0 50 rfl
theorem dL_law_243 : decode cL_law 243 = .ok (.invokevirtual 21, 3) := dAt (x := (243, .invokevirtual 21, 3)) DL_law_0 51 rfl
theorem dL_law_246 : decode cL_law 246 = .ok (.aload_n 2, 1) := dAt (x := (246, .aload_n 2, 1)) DL_law_0 52 rfl
theorem dL_law_247 : decode cL_law 247 = .ok (.aload_n 0, 1) := dAt (x := (247, .aload_n 0, 1)) DL_law_0 53 rfl
theorem dL_law_248 : decode cL_law 248 = .ok (.iload 4, 2) := dAt (x := (248, .iload 4, 2)) DL_law_0 54 rfl
theorem dL_law_250 : decode cL_law 250 = .ok (.iconst 1, 1) := dAt (x := (250, .iconst 1, 1)) DL_law_0 55 rfl
theorem dL_law_251 : decode cL_law 251 = .ok (.iadd, 1) := dAt (x := (251, .iadd, 1)) DL_law_0 56 rfl
theorem dL_law_252 : decode cL_law 252 = .ok (.iaload, 1) := dAt (x := (252, .iaload, 1)) DL_law_0 57 rfl
theorem dL_law_253 : decode cL_law 253 = .ok (.aload_n 0, 1) := dAt (x := (253, .aload_n 0, 1)) DL_law_0 58 rfl
theorem dL_law_254 : decode cL_law 254 = .ok (.iload 4, 2) := dAt (x := (254, .iload 4, 2)) DL_law_0 59 rfl
def lDL_law_1 : List (Nat × Instr × Nat) := [(256, .iconst 2, 1), (257, .iadd, 1), (258, .iaload, 1), (259, .aload_n 0, 1), (260, .iload 4, 2), (262, .iconst 3, 1), (263, .iadd, 1), (264, .iaload, 1), (265, .aload_n 0, 1), (266, .iload 4, 2), (268, .iconst 4, 1), (269, .iadd, 1), (270, .iaload, 1), (271, .aload_n 0, 1), (272, .iload 4, 2), (274, .iconst 5, 1), (275, .iadd, 1), (276, .iaload, 1), (277, .invokevirtual 25, 3), (280, .if_icmp .eq 1113, 3), (283, .iconst 0, 1), (284, .ireturn, 1), (285, .aload_n 1, 1), (286, .aload_n 0, 1), (287, .iload 4, 2), (289, .iconst 1, 1), (290, .iadd, 1), (291, .iaload, 1), (292, .invokevirtual 26, 3), (295, .aload_n 2, 1), (296, .aload_n 0, 1), (297, .iload 4, 2), (299, .iconst 1, 1), (300, .iadd, 1), (301, .iaload, 1), (302, .invokevirtual 30, 3), (305, .if_icmp .eq 1088, 3), (308, .iconst 0, 1), (309, .ireturn, 1), (310, .aload_n 1, 1), (311, .aload_n 0, 1), (312, .iload 4, 2), (314, .iconst 1, 1), (315, .iadd, 1), (316, .iaload, 1), (317, .invokevirtual 31, 3), (320, .aload_n 2, 1), (321, .aload_n 0, 1), (322, .iload 4, 2), (324, .iconst 1, 1), (325, .iadd, 1), (326, .iaload, 1), (327, .invokevirtual 34, 3), (330, .if_icmp .eq 1063, 3), (333, .iconst 0, 1), (334, .ireturn, 1), (335, .aload_n 1, 1), (336, .aload_n 0, 1), (337, .iload 4, 2), (339, .iconst 1, 1)]
theorem DL_law_1 : dAll cL_law lDL_law_1 = true := by decide +kernel
theorem dL_law_256 : decode cL_law 256 = .ok (.iconst 2, 1) := dAt (x := (256, .iconst 2, 1)) DL_law_1 0 rfl
theorem dL_law_257 : decode cL_law 257 = .ok (.iadd, 1) := dAt (x := (257, .iadd, 1)) DL_law_1 1 rfl
theorem dL_law_258 : decode cL_law 258 = .ok (.iaload, 1) := dAt (x := (258, .iaload, 1)) DL_law_1 2 rfl
theorem dL_law_259 : decode cL_law 259 = .ok (.aload_n 0, 1) := dAt (x := (259, .aload_n 0, 1)) DL_law_1 3 rfl
theorem dL_law_260 : decode cL_law 260 = .ok (.iload 4, 2) := dAt (x := (260, .iload 4, 2)) DL_law_1 4 rfl
theorem dL_law_262 : decode cL_law 262 = .ok (.iconst 3, 1) := dAt (x := (262, .iconst 3, 1)) DL_law_1 5 rfl
theorem dL_law_263 : decode cL_law 263 = .ok (.iadd, 1) := dAt (x := (263, .iadd, 1)) DL_law_1 6 rfl
theorem dL_law_264 : decode cL_law 264 = .ok (.iaload, 1) := dAt (x := (264, .iaload, 1)) DL_law_1 7 rfl
theorem dL_law_265 : decode cL_law 265 = .ok (.aload_n 0, 1) := dAt (x := (265, .aload_n 0, 1)) DL_law_1 8 rfl
theorem dL_law_266 : decode cL_law 266 = .ok (.iload 4, 2) := dAt (x := (266, .iload 4, 2)) DL_law_1 9 rfl
theorem dL_law_268 : decode cL_law 268 = .ok (.iconst 4, 1) := dAt (x := (268, .iconst 4, 1)) DL_law_1 10 rfl
theorem dL_law_269 : decode cL_law 269 = .ok (.iadd, 1) := dAt (x := (269, .iadd, 1)) DL_law_1 11 rfl
theorem dL_law_270 : decode cL_law 270 = .ok (.iaload, 1) := dAt (x := (270, .iaload, 1)) DL_law_1 12 rfl
theorem dL_law_271 : decode cL_law 271 = .ok (.aload_n 0, 1) := dAt (x := (271, .aload_n 0, 1)) DL_law_1 13 rfl
theorem dL_law_272 : decode cL_law 272 = .ok (.iload 4, 2) := dAt (x := (272, .iload 4, 2)) DL_law_1 14 rfl
theorem dL_law_274 : decode cL_law 274 = .ok (.iconst 5, 1) := dAt (x := (274, .iconst 5, 1)) DL_law_1 15 rfl
theorem dL_law_275 : decode cL_law 275 = .ok (.iadd, 1) := dAt (x := (275, .iadd, 1)) DL_law_1 16 rfl
theorem dL_law_276 : decode cL_law 276 = .ok (.iaload, 1) := dAt (x := (276, .iaload, 1)) DL_law_1 17 rfl
theorem dL_law_277 : decode cL_law 277 = .ok (.invokevirtual 25, 3) := dAt (x := (277, .invokevirtual 25, 3)) DL_law_1 18 rfl
theorem dL_law_280 : decode cL_law 280 = .ok (.if_icmp .eq 1113, 3) := dAt (x := (280, .if_icmp .eq 1113, 3)) DL_law_1 19 rfl
theorem dL_law_283 : decode cL_law 283 = .ok (.iconst 0, 1) := dAt (x := (283, .iconst 0, 1)) DL_law_1 20 rfl
theorem dL_law_284 : decode cL_law 284 = .ok (.ireturn, 1) := dAt (x := (284, .ireturn, 1)) DL_law_1 21 rfl
theorem dL_law_285 : decode cL_law 285 = .ok (.aload_n 1, 1) := dAt (x := (285, .aload_n 1, 1)) DL_law_1 22 rfl
theorem dL_law_286 : decode cL_law 286 = .ok (.aload_n 0, 1) := dAt (x := (286, .aload_n 0, 1)) DL_law_1 23 rfl
theorem dL_law_287 : decode cL_law 287 = .ok (.iload 4, 2) := dAt (x := (287, .iload 4, 2)) DL_law_1 24 rfl
theorem dL_law_289 : decode cL_law 289 = .ok (.iconst 1, 1) := dAt (x := (289, .iconst 1, 1)) DL_law_1 25 rfl
theorem dL_law_290 : decode cL_law 290 = .ok (.iadd, 1) := dAt (x := (290, .iadd, 1)) DL_law_1 26 rfl
theorem dL_law_291 : decode cL_law 291 = .ok (.iaload, 1) := dAt (x := (291, .iaload, 1)) DL_law_1 27 rfl
theorem dL_law_292 : decode cL_law 292 = .ok (.invokevirtual 26, 3) := dAt (x := (292, .invokevirtual 26, 3)) DL_law_1 28 rfl
theorem dL_law_295 : decode cL_law 295 = .ok (.aload_n 2, 1) := dAt (x := (295, .aload_n 2, 1)) DL_law_1 29 rfl
theorem dL_law_296 : decode cL_law 296 = .ok (.aload_n 0, 1) := dAt (x := (296, .aload_n 0, 1)) DL_law_1 30 rfl
theorem dL_law_297 : decode cL_law 297 = .ok (.iload 4, 2) := dAt (x := (297, .iload 4, 2)) DL_law_1 31 rfl
theorem dL_law_299 : decode cL_law 299 = .ok (.iconst 1, 1) := dAt (x := (299, .iconst 1, 1)) DL_law_1 32 rfl
theorem dL_law_300 : decode cL_law 300 = .ok (.iadd, 1) := dAt (x := (300, .iadd, 1)) DL_law_1 33 rfl
theorem dL_law_301 : decode cL_law 301 = .ok (.iaload, 1) := dAt (x := (301, .iaload, 1)) DL_law_1 34 rfl
theorem dL_law_302 : decode cL_law 302 = .ok (.invokevirtual 30, 3) := dAt (x := (302, .invokevirtual 30, 3)) DL_law_1 35 rfl
theorem dL_law_305 : decode cL_law 305 = .ok (.if_icmp .eq 1088, 3) := dAt (x := (305, .if_icmp .eq 1088, 3)) DL_law_1 36 rfl
theorem dL_law_308 : decode cL_law 308 = .ok (.iconst 0, 1) := dAt (x := (308, .iconst 0, 1)) DL_law_1 37 rfl
theorem dL_law_309 : decode cL_law 309 = .ok (.ireturn, 1) := dAt (x := (309, .ireturn, 1)) DL_law_1 38 rfl
theorem dL_law_310 : decode cL_law 310 = .ok (.aload_n 1, 1) := dAt (x := (310, .aload_n 1, 1)) DL_law_1 39 rfl
theorem dL_law_311 : decode cL_law 311 = .ok (.aload_n 0, 1) := dAt (x := (311, .aload_n 0, 1)) DL_law_1 40 rfl
theorem dL_law_312 : decode cL_law 312 = .ok (.iload 4, 2) := dAt (x := (312, .iload 4, 2)) DL_law_1 41 rfl
theorem dL_law_314 : decode cL_law 314 = .ok (.iconst 1, 1) := dAt (x := (314, .iconst 1, 1)) DL_law_1 42 rfl
theorem dL_law_315 : decode cL_law 315 = .ok (.iadd, 1) := dAt (x := (315, .iadd, 1)) DL_law_1 43 rfl
theorem dL_law_316 : decode cL_law 316 = .ok (.iaload, 1) := dAt (x := (316, .iaload, 1)) DL_law_1 44 rfl
theorem dL_law_317 : decode cL_law 317 = .ok (.invokevirtual 31, 3) := dAt (x := (317, .invokevirtual 31, 3)) DL_law_1 45 rfl
theorem dL_law_320 : decode cL_law 320 = .ok (.aload_n 2, 1) := dAt (x := (320, .aload_n 2, 1)) DL_law_1 46 rfl
theorem dL_law_321 : decode cL_law 321 = .ok (.aload_n 0, 1) := dAt (x := (321, .aload_n 0, 1)) DL_law_1 47 rfl
theorem dL_law_322 : decode cL_law 322 = .ok (.iload 4, 2) := dAt (x := (322, .iload 4, 2)) DL_law_1 48 rfl
theorem dL_law_324 : decode cL_law 324 = .ok (.iconst 1, 1) := dAt (x := (324, .iconst 1, 1)) DL_law_1 49 rfl
theorem dL_law_325 : decode cL_law 325 = .ok (.iadd, 1) := dAt (x := (325, .iadd, 1)) DL_law_1 50 rfl
theorem dL_law_326 : decode cL_law 326 = .ok (.iaload, 1) := dAt (x := (326, .iaload, 1)) DL_law_1 51 rfl
theorem dL_law_327 : decode cL_law 327 = .ok (.invokevirtual 34, 3) := dAt (x := (327, .invokevirtual 34, 3)) DL_law_1 52 rfl
theorem dL_law_330 : decode cL_law 330 = .ok (.if_icmp .eq 1063, 3) := dAt (x := (330, .if_icmp .eq 1063, 3)) DL_law_1 53 rfl
theorem dL_law_333 : decode cL_law 333 = .ok (.iconst 0, 1) := dAt (x := (333, .iconst 0, 1)) DL_law_1 54 rfl
theorem dL_law_334 : decode cL_law 334 = .ok (.ireturn, 1) := dAt (x := (334, .ireturn, 1)) DL_law_1 55 rfl
theorem dL_law_335 : decode cL_law 335 = .ok (.aload_n 1, 1) := dAt (x := (335, .aload_n 1, 1)) DL_law_1 56 rfl
theorem dL_law_336 : decode cL_law 336 = .ok (.aload_n 0, 1) := dAt (x := (336, .aload_n 0, 1)) DL_law_1 57 rfl
theorem dL_law_337 : decode cL_law 337 = .ok (.iload 4, 2) := dAt (x := (337, .iload 4, 2)) DL_law_1 58 rfl
theorem dL_law_339 : decode cL_law 339 = .ok (.iconst 1, 1) := dAt (x := (339, .iconst 1, 1)) DL_law_1 59 rfl
def lDL_law_2 : List (Nat × Instr × Nat) := [(340, .iadd, 1), (341, .iaload, 1), (342, .invokevirtual 35, 3), (345, .aload_n 2, 1), (346, .aload_n 0, 1), (347, .iload 4, 2), (349, .iconst 1, 1), (350, .iadd, 1), (351, .iaload, 1), (352, .invokevirtual 38, 3), (355, .if_icmp .eq 1038, 3), (358, .iconst 0, 1), (359, .ireturn, 1), (360, .aload_n 1, 1), (361, .aload_n 0, 1), (362, .iload 4, 2), (364, .iconst 1, 1), (365, .iadd, 1), (366, .iaload, 1), (367, .aload_n 0, 1), (368, .iload 4, 2), (370, .iconst 2, 1), (371, .iadd, 1), (372, .iaload, 1), (373, .aload_n 3, 1), (374, .invokestatic 39, 3), (377, .istore 5, 2), (379, .aload_n 2, 1), (380, .aload_n 0, 1), (381, .iload 4, 2), (383, .iconst 1, 1), (384, .iadd, 1), (385, .iaload, 1), (386, .aload_n 0, 1), (387, .iload 4, 2), (389, .iconst 2, 1), (390, .iadd, 1), (391, .iaload, 1), (392, .invokevirtual 44, 3), (395, .istore 6, 2), (397, .aload_n 2, 1), (398, .invokevirtual 45, 3), (401, .iload 5, 2), (403, .if_icmp .eq 5, 3), (406, .iconst 0, 1), (407, .ireturn, 1), (408, .iload 5, 2), (410, .ifCond .ne 15, 3), (413, .aload_n 3, 1), (414, .iconst 0, 1), (415, .laload, 1), (416, .iload 6, 2), (418, .i2l, 1), (419, .lcmp, 1), (420, .ifCond .eq 5, 3), (423, .iconst 0, 1), (424, .ireturn, 1), (425, .goto 968, 3), (428, .aload_n 1, 1), (429, .aload_n 0, 1)]
theorem DL_law_2 : dAll cL_law lDL_law_2 = true := by decide +kernel
theorem dL_law_340 : decode cL_law 340 = .ok (.iadd, 1) := dAt (x := (340, .iadd, 1)) DL_law_2 0 rfl
theorem dL_law_341 : decode cL_law 341 = .ok (.iaload, 1) := dAt (x := (341, .iaload, 1)) DL_law_2 1 rfl
theorem dL_law_342 : decode cL_law 342 = .ok (.invokevirtual 35, 3) := dAt (x := (342, .invokevirtual 35, 3)) DL_law_2 2 rfl
theorem dL_law_345 : decode cL_law 345 = .ok (.aload_n 2, 1) := dAt (x := (345, .aload_n 2, 1)) DL_law_2 3 rfl
theorem dL_law_346 : decode cL_law 346 = .ok (.aload_n 0, 1) := dAt (x := (346, .aload_n 0, 1)) DL_law_2 4 rfl
theorem dL_law_347 : decode cL_law 347 = .ok (.iload 4, 2) := dAt (x := (347, .iload 4, 2)) DL_law_2 5 rfl
theorem dL_law_349 : decode cL_law 349 = .ok (.iconst 1, 1) := dAt (x := (349, .iconst 1, 1)) DL_law_2 6 rfl
theorem dL_law_350 : decode cL_law 350 = .ok (.iadd, 1) := dAt (x := (350, .iadd, 1)) DL_law_2 7 rfl
theorem dL_law_351 : decode cL_law 351 = .ok (.iaload, 1) := dAt (x := (351, .iaload, 1)) DL_law_2 8 rfl
theorem dL_law_352 : decode cL_law 352 = .ok (.invokevirtual 38, 3) := dAt (x := (352, .invokevirtual 38, 3)) DL_law_2 9 rfl
theorem dL_law_355 : decode cL_law 355 = .ok (.if_icmp .eq 1038, 3) := dAt (x := (355, .if_icmp .eq 1038, 3)) DL_law_2 10 rfl
theorem dL_law_358 : decode cL_law 358 = .ok (.iconst 0, 1) := dAt (x := (358, .iconst 0, 1)) DL_law_2 11 rfl
theorem dL_law_359 : decode cL_law 359 = .ok (.ireturn, 1) := dAt (x := (359, .ireturn, 1)) DL_law_2 12 rfl
theorem dL_law_360 : decode cL_law 360 = .ok (.aload_n 1, 1) := dAt (x := (360, .aload_n 1, 1)) DL_law_2 13 rfl
theorem dL_law_361 : decode cL_law 361 = .ok (.aload_n 0, 1) := dAt (x := (361, .aload_n 0, 1)) DL_law_2 14 rfl
theorem dL_law_362 : decode cL_law 362 = .ok (.iload 4, 2) := dAt (x := (362, .iload 4, 2)) DL_law_2 15 rfl
theorem dL_law_364 : decode cL_law 364 = .ok (.iconst 1, 1) := dAt (x := (364, .iconst 1, 1)) DL_law_2 16 rfl
theorem dL_law_365 : decode cL_law 365 = .ok (.iadd, 1) := dAt (x := (365, .iadd, 1)) DL_law_2 17 rfl
theorem dL_law_366 : decode cL_law 366 = .ok (.iaload, 1) := dAt (x := (366, .iaload, 1)) DL_law_2 18 rfl
theorem dL_law_367 : decode cL_law 367 = .ok (.aload_n 0, 1) := dAt (x := (367, .aload_n 0, 1)) DL_law_2 19 rfl
theorem dL_law_368 : decode cL_law 368 = .ok (.iload 4, 2) := dAt (x := (368, .iload 4, 2)) DL_law_2 20 rfl
theorem dL_law_370 : decode cL_law 370 = .ok (.iconst 2, 1) := dAt (x := (370, .iconst 2, 1)) DL_law_2 21 rfl
theorem dL_law_371 : decode cL_law 371 = .ok (.iadd, 1) := dAt (x := (371, .iadd, 1)) DL_law_2 22 rfl
theorem dL_law_372 : decode cL_law 372 = .ok (.iaload, 1) := dAt (x := (372, .iaload, 1)) DL_law_2 23 rfl
theorem dL_law_373 : decode cL_law 373 = .ok (.aload_n 3, 1) := dAt (x := (373, .aload_n 3, 1)) DL_law_2 24 rfl
theorem dL_law_374 : decode cL_law 374 = .ok (.invokestatic 39, 3) := dAt (x := (374, .invokestatic 39, 3)) DL_law_2 25 rfl
theorem dL_law_377 : decode cL_law 377 = .ok (.istore 5, 2) := dAt (x := (377, .istore 5, 2)) DL_law_2 26 rfl
theorem dL_law_379 : decode cL_law 379 = .ok (.aload_n 2, 1) := dAt (x := (379, .aload_n 2, 1)) DL_law_2 27 rfl
theorem dL_law_380 : decode cL_law 380 = .ok (.aload_n 0, 1) := dAt (x := (380, .aload_n 0, 1)) DL_law_2 28 rfl
theorem dL_law_381 : decode cL_law 381 = .ok (.iload 4, 2) := dAt (x := (381, .iload 4, 2)) DL_law_2 29 rfl
theorem dL_law_383 : decode cL_law 383 = .ok (.iconst 1, 1) := dAt (x := (383, .iconst 1, 1)) DL_law_2 30 rfl
theorem dL_law_384 : decode cL_law 384 = .ok (.iadd, 1) := dAt (x := (384, .iadd, 1)) DL_law_2 31 rfl
theorem dL_law_385 : decode cL_law 385 = .ok (.iaload, 1) := dAt (x := (385, .iaload, 1)) DL_law_2 32 rfl
theorem dL_law_386 : decode cL_law 386 = .ok (.aload_n 0, 1) := dAt (x := (386, .aload_n 0, 1)) DL_law_2 33 rfl
theorem dL_law_387 : decode cL_law 387 = .ok (.iload 4, 2) := dAt (x := (387, .iload 4, 2)) DL_law_2 34 rfl
theorem dL_law_389 : decode cL_law 389 = .ok (.iconst 2, 1) := dAt (x := (389, .iconst 2, 1)) DL_law_2 35 rfl
theorem dL_law_390 : decode cL_law 390 = .ok (.iadd, 1) := dAt (x := (390, .iadd, 1)) DL_law_2 36 rfl
theorem dL_law_391 : decode cL_law 391 = .ok (.iaload, 1) := dAt (x := (391, .iaload, 1)) DL_law_2 37 rfl
theorem dL_law_392 : decode cL_law 392 = .ok (.invokevirtual 44, 3) := dAt (x := (392, .invokevirtual 44, 3)) DL_law_2 38 rfl
theorem dL_law_395 : decode cL_law 395 = .ok (.istore 6, 2) := dAt (x := (395, .istore 6, 2)) DL_law_2 39 rfl
theorem dL_law_397 : decode cL_law 397 = .ok (.aload_n 2, 1) := dAt (x := (397, .aload_n 2, 1)) DL_law_2 40 rfl
theorem dL_law_398 : decode cL_law 398 = .ok (.invokevirtual 45, 3) := dAt (x := (398, .invokevirtual 45, 3)) DL_law_2 41 rfl
theorem dL_law_401 : decode cL_law 401 = .ok (.iload 5, 2) := dAt (x := (401, .iload 5, 2)) DL_law_2 42 rfl
theorem dL_law_403 : decode cL_law 403 = .ok (.if_icmp .eq 5, 3) := dAt (x := (403, .if_icmp .eq 5, 3)) DL_law_2 43 rfl
theorem dL_law_406 : decode cL_law 406 = .ok (.iconst 0, 1) := dAt (x := (406, .iconst 0, 1)) DL_law_2 44 rfl
theorem dL_law_407 : decode cL_law 407 = .ok (.ireturn, 1) := dAt (x := (407, .ireturn, 1)) DL_law_2 45 rfl
theorem dL_law_408 : decode cL_law 408 = .ok (.iload 5, 2) := dAt (x := (408, .iload 5, 2)) DL_law_2 46 rfl
theorem dL_law_410 : decode cL_law 410 = .ok (.ifCond .ne 15, 3) := dAt (x := (410, .ifCond .ne 15, 3)) DL_law_2 47 rfl
theorem dL_law_413 : decode cL_law 413 = .ok (.aload_n 3, 1) := dAt (x := (413, .aload_n 3, 1)) DL_law_2 48 rfl
theorem dL_law_414 : decode cL_law 414 = .ok (.iconst 0, 1) := dAt (x := (414, .iconst 0, 1)) DL_law_2 49 rfl
theorem dL_law_415 : decode cL_law 415 = .ok (.laload, 1) := dAt (x := (415, .laload, 1)) DL_law_2 50 rfl
theorem dL_law_416 : decode cL_law 416 = .ok (.iload 6, 2) := dAt (x := (416, .iload 6, 2)) DL_law_2 51 rfl
theorem dL_law_418 : decode cL_law 418 = .ok (.i2l, 1) := dAt (x := (418, .i2l, 1)) DL_law_2 52 rfl
theorem dL_law_419 : decode cL_law 419 = .ok (.lcmp, 1) := dAt (x := (419, .lcmp, 1)) DL_law_2 53 rfl
theorem dL_law_420 : decode cL_law 420 = .ok (.ifCond .eq 5, 3) := dAt (x := (420, .ifCond .eq 5, 3)) DL_law_2 54 rfl
theorem dL_law_423 : decode cL_law 423 = .ok (.iconst 0, 1) := dAt (x := (423, .iconst 0, 1)) DL_law_2 55 rfl
theorem dL_law_424 : decode cL_law 424 = .ok (.ireturn, 1) := dAt (x := (424, .ireturn, 1)) DL_law_2 56 rfl
theorem dL_law_425 : decode cL_law 425 = .ok (.goto 968, 3) := dAt (x := (425, .goto 968, 3)) DL_law_2 57 rfl
theorem dL_law_428 : decode cL_law 428 = .ok (.aload_n 1, 1) := dAt (x := (428, .aload_n 1, 1)) DL_law_2 58 rfl
theorem dL_law_429 : decode cL_law 429 = .ok (.aload_n 0, 1) := dAt (x := (429, .aload_n 0, 1)) DL_law_2 59 rfl
def lDL_law_3 : List (Nat × Instr × Nat) := [(430, .iload 4, 2), (432, .iconst 1, 1), (433, .iadd, 1), (434, .iaload, 1), (435, .invokevirtual 49, 3), (438, .aload_n 2, 1), (439, .aload_n 0, 1), (440, .iload 4, 2), (442, .iconst 1, 1), (443, .iadd, 1), (444, .iaload, 1), (445, .invokevirtual 52, 3), (448, .if_icmp .eq 945, 3), (451, .iconst 0, 1), (452, .ireturn, 1), (453, .aload_n 1, 1), (454, .aload_n 0, 1), (455, .iload 4, 2), (457, .iconst 1, 1), (458, .iadd, 1), (459, .iaload, 1), (460, .aload_n 0, 1), (461, .iload 4, 2), (463, .iconst 2, 1), (464, .iadd, 1), (465, .iaload, 1), (466, .invokevirtual 53, 3), (469, .aload_n 2, 1), (470, .aload_n 0, 1), (471, .iload 4, 2), (473, .iconst 1, 1), (474, .iadd, 1), (475, .iaload, 1), (476, .aload_n 0, 1), (477, .iload 4, 2), (479, .iconst 2, 1), (480, .iadd, 1), (481, .iaload, 1), (482, .invokevirtual 56, 3), (485, .if_icmp .eq 908, 3), (488, .iconst 0, 1), (489, .ireturn, 1), (490, .aload_n 1, 1), (491, .aload_n 0, 1), (492, .iload 4, 2), (494, .iconst 1, 1), (495, .iadd, 1), (496, .iaload, 1), (497, .aload_n 0, 1), (498, .iload 4, 2), (500, .iconst 2, 1), (501, .iadd, 1), (502, .iaload, 1), (503, .invokevirtual 57, 3), (506, .aload_n 2, 1), (507, .aload_n 0, 1), (508, .iload 4, 2), (510, .iconst 1, 1), (511, .iadd, 1), (512, .iaload, 1)]
theorem DL_law_3 : dAll cL_law lDL_law_3 = true := by decide +kernel
theorem dL_law_430 : decode cL_law 430 = .ok (.iload 4, 2) := dAt (x := (430, .iload 4, 2)) DL_law_3 0 rfl
theorem dL_law_432 : decode cL_law 432 = .ok (.iconst 1, 1) := dAt (x := (432, .iconst 1, 1)) DL_law_3 1 rfl
theorem dL_law_433 : decode cL_law 433 = .ok (.iadd, 1) := dAt (x := (433, .iadd, 1)) DL_law_3 2 rfl
theorem dL_law_434 : decode cL_law 434 = .ok (.iaload, 1) := dAt (x := (434, .iaload, 1)) DL_law_3 3 rfl
theorem dL_law_435 : decode cL_law 435 = .ok (.invokevirtual 49, 3) := dAt (x := (435, .invokevirtual 49, 3)) DL_law_3 4 rfl
theorem dL_law_438 : decode cL_law 438 = .ok (.aload_n 2, 1) := dAt (x := (438, .aload_n 2, 1)) DL_law_3 5 rfl
theorem dL_law_439 : decode cL_law 439 = .ok (.aload_n 0, 1) := dAt (x := (439, .aload_n 0, 1)) DL_law_3 6 rfl
theorem dL_law_440 : decode cL_law 440 = .ok (.iload 4, 2) := dAt (x := (440, .iload 4, 2)) DL_law_3 7 rfl
theorem dL_law_442 : decode cL_law 442 = .ok (.iconst 1, 1) := dAt (x := (442, .iconst 1, 1)) DL_law_3 8 rfl
theorem dL_law_443 : decode cL_law 443 = .ok (.iadd, 1) := dAt (x := (443, .iadd, 1)) DL_law_3 9 rfl
theorem dL_law_444 : decode cL_law 444 = .ok (.iaload, 1) := dAt (x := (444, .iaload, 1)) DL_law_3 10 rfl
theorem dL_law_445 : decode cL_law 445 = .ok (.invokevirtual 52, 3) := dAt (x := (445, .invokevirtual 52, 3)) DL_law_3 11 rfl
theorem dL_law_448 : decode cL_law 448 = .ok (.if_icmp .eq 945, 3) := dAt (x := (448, .if_icmp .eq 945, 3)) DL_law_3 12 rfl
theorem dL_law_451 : decode cL_law 451 = .ok (.iconst 0, 1) := dAt (x := (451, .iconst 0, 1)) DL_law_3 13 rfl
theorem dL_law_452 : decode cL_law 452 = .ok (.ireturn, 1) := dAt (x := (452, .ireturn, 1)) DL_law_3 14 rfl
theorem dL_law_453 : decode cL_law 453 = .ok (.aload_n 1, 1) := dAt (x := (453, .aload_n 1, 1)) DL_law_3 15 rfl
theorem dL_law_454 : decode cL_law 454 = .ok (.aload_n 0, 1) := dAt (x := (454, .aload_n 0, 1)) DL_law_3 16 rfl
theorem dL_law_455 : decode cL_law 455 = .ok (.iload 4, 2) := dAt (x := (455, .iload 4, 2)) DL_law_3 17 rfl
theorem dL_law_457 : decode cL_law 457 = .ok (.iconst 1, 1) := dAt (x := (457, .iconst 1, 1)) DL_law_3 18 rfl
theorem dL_law_458 : decode cL_law 458 = .ok (.iadd, 1) := dAt (x := (458, .iadd, 1)) DL_law_3 19 rfl
theorem dL_law_459 : decode cL_law 459 = .ok (.iaload, 1) := dAt (x := (459, .iaload, 1)) DL_law_3 20 rfl
theorem dL_law_460 : decode cL_law 460 = .ok (.aload_n 0, 1) := dAt (x := (460, .aload_n 0, 1)) DL_law_3 21 rfl
theorem dL_law_461 : decode cL_law 461 = .ok (.iload 4, 2) := dAt (x := (461, .iload 4, 2)) DL_law_3 22 rfl
theorem dL_law_463 : decode cL_law 463 = .ok (.iconst 2, 1) := dAt (x := (463, .iconst 2, 1)) DL_law_3 23 rfl
theorem dL_law_464 : decode cL_law 464 = .ok (.iadd, 1) := dAt (x := (464, .iadd, 1)) DL_law_3 24 rfl
theorem dL_law_465 : decode cL_law 465 = .ok (.iaload, 1) := dAt (x := (465, .iaload, 1)) DL_law_3 25 rfl
theorem dL_law_466 : decode cL_law 466 = .ok (.invokevirtual 53, 3) := dAt (x := (466, .invokevirtual 53, 3)) DL_law_3 26 rfl
theorem dL_law_469 : decode cL_law 469 = .ok (.aload_n 2, 1) := dAt (x := (469, .aload_n 2, 1)) DL_law_3 27 rfl
theorem dL_law_470 : decode cL_law 470 = .ok (.aload_n 0, 1) := dAt (x := (470, .aload_n 0, 1)) DL_law_3 28 rfl
theorem dL_law_471 : decode cL_law 471 = .ok (.iload 4, 2) := dAt (x := (471, .iload 4, 2)) DL_law_3 29 rfl
theorem dL_law_473 : decode cL_law 473 = .ok (.iconst 1, 1) := dAt (x := (473, .iconst 1, 1)) DL_law_3 30 rfl
theorem dL_law_474 : decode cL_law 474 = .ok (.iadd, 1) := dAt (x := (474, .iadd, 1)) DL_law_3 31 rfl
theorem dL_law_475 : decode cL_law 475 = .ok (.iaload, 1) := dAt (x := (475, .iaload, 1)) DL_law_3 32 rfl
theorem dL_law_476 : decode cL_law 476 = .ok (.aload_n 0, 1) := dAt (x := (476, .aload_n 0, 1)) DL_law_3 33 rfl
theorem dL_law_477 : decode cL_law 477 = .ok (.iload 4, 2) := dAt (x := (477, .iload 4, 2)) DL_law_3 34 rfl
theorem dL_law_479 : decode cL_law 479 = .ok (.iconst 2, 1) := dAt (x := (479, .iconst 2, 1)) DL_law_3 35 rfl
theorem dL_law_480 : decode cL_law 480 = .ok (.iadd, 1) := dAt (x := (480, .iadd, 1)) DL_law_3 36 rfl
theorem dL_law_481 : decode cL_law 481 = .ok (.iaload, 1) := dAt (x := (481, .iaload, 1)) DL_law_3 37 rfl
theorem dL_law_482 : decode cL_law 482 = .ok (.invokevirtual 56, 3) := dAt (x := (482, .invokevirtual 56, 3)) DL_law_3 38 rfl
theorem dL_law_485 : decode cL_law 485 = .ok (.if_icmp .eq 908, 3) := dAt (x := (485, .if_icmp .eq 908, 3)) DL_law_3 39 rfl
theorem dL_law_488 : decode cL_law 488 = .ok (.iconst 0, 1) := dAt (x := (488, .iconst 0, 1)) DL_law_3 40 rfl
theorem dL_law_489 : decode cL_law 489 = .ok (.ireturn, 1) := dAt (x := (489, .ireturn, 1)) DL_law_3 41 rfl
theorem dL_law_490 : decode cL_law 490 = .ok (.aload_n 1, 1) := dAt (x := (490, .aload_n 1, 1)) DL_law_3 42 rfl
theorem dL_law_491 : decode cL_law 491 = .ok (.aload_n 0, 1) := dAt (x := (491, .aload_n 0, 1)) DL_law_3 43 rfl
theorem dL_law_492 : decode cL_law 492 = .ok (.iload 4, 2) := dAt (x := (492, .iload 4, 2)) DL_law_3 44 rfl
theorem dL_law_494 : decode cL_law 494 = .ok (.iconst 1, 1) := dAt (x := (494, .iconst 1, 1)) DL_law_3 45 rfl
theorem dL_law_495 : decode cL_law 495 = .ok (.iadd, 1) := dAt (x := (495, .iadd, 1)) DL_law_3 46 rfl
theorem dL_law_496 : decode cL_law 496 = .ok (.iaload, 1) := dAt (x := (496, .iaload, 1)) DL_law_3 47 rfl
theorem dL_law_497 : decode cL_law 497 = .ok (.aload_n 0, 1) := dAt (x := (497, .aload_n 0, 1)) DL_law_3 48 rfl
theorem dL_law_498 : decode cL_law 498 = .ok (.iload 4, 2) := dAt (x := (498, .iload 4, 2)) DL_law_3 49 rfl
theorem dL_law_500 : decode cL_law 500 = .ok (.iconst 2, 1) := dAt (x := (500, .iconst 2, 1)) DL_law_3 50 rfl
theorem dL_law_501 : decode cL_law 501 = .ok (.iadd, 1) := dAt (x := (501, .iadd, 1)) DL_law_3 51 rfl
theorem dL_law_502 : decode cL_law 502 = .ok (.iaload, 1) := dAt (x := (502, .iaload, 1)) DL_law_3 52 rfl
theorem dL_law_503 : decode cL_law 503 = .ok (.invokevirtual 57, 3) := dAt (x := (503, .invokevirtual 57, 3)) DL_law_3 53 rfl
theorem dL_law_506 : decode cL_law 506 = .ok (.aload_n 2, 1) := dAt (x := (506, .aload_n 2, 1)) DL_law_3 54 rfl
theorem dL_law_507 : decode cL_law 507 = .ok (.aload_n 0, 1) := dAt (x := (507, .aload_n 0, 1)) DL_law_3 55 rfl
theorem dL_law_508 : decode cL_law 508 = .ok (.iload 4, 2) := dAt (x := (508, .iload 4, 2)) DL_law_3 56 rfl
theorem dL_law_510 : decode cL_law 510 = .ok (.iconst 1, 1) := dAt (x := (510, .iconst 1, 1)) DL_law_3 57 rfl
theorem dL_law_511 : decode cL_law 511 = .ok (.iadd, 1) := dAt (x := (511, .iadd, 1)) DL_law_3 58 rfl
theorem dL_law_512 : decode cL_law 512 = .ok (.iaload, 1) := dAt (x := (512, .iaload, 1)) DL_law_3 59 rfl
def lDL_law_4 : List (Nat × Instr × Nat) := [(513, .aload_n 0, 1), (514, .iload 4, 2), (516, .iconst 2, 1), (517, .iadd, 1), (518, .iaload, 1), (519, .invokevirtual 61, 3), (522, .lcmp, 1), (523, .ifCond .eq 870, 3), (526, .iconst 0, 1), (527, .ireturn, 1), (528, .aload_n 1, 1), (529, .aload_n 0, 1), (530, .iload 4, 2), (532, .iconst 1, 1), (533, .iadd, 1), (534, .iaload, 1), (535, .invokevirtual 62, 3), (538, .aload_n 2, 1), (539, .aload_n 0, 1), (540, .iload 4, 2), (542, .iconst 1, 1), (543, .iadd, 1), (544, .iaload, 1), (545, .invokevirtual 65, 3), (548, .if_icmp .eq 845, 3), (551, .iconst 0, 1), (552, .ireturn, 1), (553, .aload_n 1, 1), (554, .aload_n 0, 1), (555, .iload 4, 2), (557, .iconst 1, 1), (558, .iadd, 1), (559, .iaload, 1), (560, .invokevirtual 66, 3), (563, .aload_n 2, 1), (564, .aload_n 0, 1), (565, .iload 4, 2), (567, .iconst 1, 1), (568, .iadd, 1), (569, .iaload, 1), (570, .invokevirtual 69, 3), (573, .if_icmp .eq 820, 3), (576, .iconst 0, 1), (577, .ireturn, 1), (578, .aload_n 1, 1), (579, .aload_n 0, 1), (580, .iload 4, 2), (582, .iconst 1, 1), (583, .iadd, 1), (584, .iaload, 1), (585, .invokevirtual 70, 3), (588, .aload_n 2, 1), (589, .aload_n 0, 1), (590, .iload 4, 2), (592, .iconst 1, 1), (593, .iadd, 1), (594, .iaload, 1), (595, .invokevirtual 73, 3), (598, .if_icmp .eq 795, 3), (601, .iconst 0, 1)]
theorem DL_law_4 : dAll cL_law lDL_law_4 = true := by decide +kernel
theorem dL_law_513 : decode cL_law 513 = .ok (.aload_n 0, 1) := dAt (x := (513, .aload_n 0, 1)) DL_law_4 0 rfl
theorem dL_law_514 : decode cL_law 514 = .ok (.iload 4, 2) := dAt (x := (514, .iload 4, 2)) DL_law_4 1 rfl
theorem dL_law_516 : decode cL_law 516 = .ok (.iconst 2, 1) := dAt (x := (516, .iconst 2, 1)) DL_law_4 2 rfl
theorem dL_law_517 : decode cL_law 517 = .ok (.iadd, 1) := dAt (x := (517, .iadd, 1)) DL_law_4 3 rfl
theorem dL_law_518 : decode cL_law 518 = .ok (.iaload, 1) := dAt (x := (518, .iaload, 1)) DL_law_4 4 rfl
theorem dL_law_519 : decode cL_law 519 = .ok (.invokevirtual 61, 3) := dAt (x := (519, .invokevirtual 61, 3)) DL_law_4 5 rfl
theorem dL_law_522 : decode cL_law 522 = .ok (.lcmp, 1) := dAt (x := (522, .lcmp, 1)) DL_law_4 6 rfl
theorem dL_law_523 : decode cL_law 523 = .ok (.ifCond .eq 870, 3) := dAt (x := (523, .ifCond .eq 870, 3)) DL_law_4 7 rfl
theorem dL_law_526 : decode cL_law 526 = .ok (.iconst 0, 1) := dAt (x := (526, .iconst 0, 1)) DL_law_4 8 rfl
theorem dL_law_527 : decode cL_law 527 = .ok (.ireturn, 1) := dAt (x := (527, .ireturn, 1)) DL_law_4 9 rfl
theorem dL_law_528 : decode cL_law 528 = .ok (.aload_n 1, 1) := dAt (x := (528, .aload_n 1, 1)) DL_law_4 10 rfl
theorem dL_law_529 : decode cL_law 529 = .ok (.aload_n 0, 1) := dAt (x := (529, .aload_n 0, 1)) DL_law_4 11 rfl
theorem dL_law_530 : decode cL_law 530 = .ok (.iload 4, 2) := dAt (x := (530, .iload 4, 2)) DL_law_4 12 rfl
theorem dL_law_532 : decode cL_law 532 = .ok (.iconst 1, 1) := dAt (x := (532, .iconst 1, 1)) DL_law_4 13 rfl
theorem dL_law_533 : decode cL_law 533 = .ok (.iadd, 1) := dAt (x := (533, .iadd, 1)) DL_law_4 14 rfl
theorem dL_law_534 : decode cL_law 534 = .ok (.iaload, 1) := dAt (x := (534, .iaload, 1)) DL_law_4 15 rfl
theorem dL_law_535 : decode cL_law 535 = .ok (.invokevirtual 62, 3) := dAt (x := (535, .invokevirtual 62, 3)) DL_law_4 16 rfl
theorem dL_law_538 : decode cL_law 538 = .ok (.aload_n 2, 1) := dAt (x := (538, .aload_n 2, 1)) DL_law_4 17 rfl
theorem dL_law_539 : decode cL_law 539 = .ok (.aload_n 0, 1) := dAt (x := (539, .aload_n 0, 1)) DL_law_4 18 rfl
theorem dL_law_540 : decode cL_law 540 = .ok (.iload 4, 2) := dAt (x := (540, .iload 4, 2)) DL_law_4 19 rfl
theorem dL_law_542 : decode cL_law 542 = .ok (.iconst 1, 1) := dAt (x := (542, .iconst 1, 1)) DL_law_4 20 rfl
theorem dL_law_543 : decode cL_law 543 = .ok (.iadd, 1) := dAt (x := (543, .iadd, 1)) DL_law_4 21 rfl
theorem dL_law_544 : decode cL_law 544 = .ok (.iaload, 1) := dAt (x := (544, .iaload, 1)) DL_law_4 22 rfl
theorem dL_law_545 : decode cL_law 545 = .ok (.invokevirtual 65, 3) := dAt (x := (545, .invokevirtual 65, 3)) DL_law_4 23 rfl
theorem dL_law_548 : decode cL_law 548 = .ok (.if_icmp .eq 845, 3) := dAt (x := (548, .if_icmp .eq 845, 3)) DL_law_4 24 rfl
theorem dL_law_551 : decode cL_law 551 = .ok (.iconst 0, 1) := dAt (x := (551, .iconst 0, 1)) DL_law_4 25 rfl
theorem dL_law_552 : decode cL_law 552 = .ok (.ireturn, 1) := dAt (x := (552, .ireturn, 1)) DL_law_4 26 rfl
theorem dL_law_553 : decode cL_law 553 = .ok (.aload_n 1, 1) := dAt (x := (553, .aload_n 1, 1)) DL_law_4 27 rfl
theorem dL_law_554 : decode cL_law 554 = .ok (.aload_n 0, 1) := dAt (x := (554, .aload_n 0, 1)) DL_law_4 28 rfl
theorem dL_law_555 : decode cL_law 555 = .ok (.iload 4, 2) := dAt (x := (555, .iload 4, 2)) DL_law_4 29 rfl
theorem dL_law_557 : decode cL_law 557 = .ok (.iconst 1, 1) := dAt (x := (557, .iconst 1, 1)) DL_law_4 30 rfl
theorem dL_law_558 : decode cL_law 558 = .ok (.iadd, 1) := dAt (x := (558, .iadd, 1)) DL_law_4 31 rfl
theorem dL_law_559 : decode cL_law 559 = .ok (.iaload, 1) := dAt (x := (559, .iaload, 1)) DL_law_4 32 rfl
theorem dL_law_560 : decode cL_law 560 = .ok (.invokevirtual 66, 3) := dAt (x := (560, .invokevirtual 66, 3)) DL_law_4 33 rfl
theorem dL_law_563 : decode cL_law 563 = .ok (.aload_n 2, 1) := dAt (x := (563, .aload_n 2, 1)) DL_law_4 34 rfl
theorem dL_law_564 : decode cL_law 564 = .ok (.aload_n 0, 1) := dAt (x := (564, .aload_n 0, 1)) DL_law_4 35 rfl
theorem dL_law_565 : decode cL_law 565 = .ok (.iload 4, 2) := dAt (x := (565, .iload 4, 2)) DL_law_4 36 rfl
theorem dL_law_567 : decode cL_law 567 = .ok (.iconst 1, 1) := dAt (x := (567, .iconst 1, 1)) DL_law_4 37 rfl
theorem dL_law_568 : decode cL_law 568 = .ok (.iadd, 1) := dAt (x := (568, .iadd, 1)) DL_law_4 38 rfl
theorem dL_law_569 : decode cL_law 569 = .ok (.iaload, 1) := dAt (x := (569, .iaload, 1)) DL_law_4 39 rfl
theorem dL_law_570 : decode cL_law 570 = .ok (.invokevirtual 69, 3) := dAt (x := (570, .invokevirtual 69, 3)) DL_law_4 40 rfl
theorem dL_law_573 : decode cL_law 573 = .ok (.if_icmp .eq 820, 3) := dAt (x := (573, .if_icmp .eq 820, 3)) DL_law_4 41 rfl
theorem dL_law_576 : decode cL_law 576 = .ok (.iconst 0, 1) := dAt (x := (576, .iconst 0, 1)) DL_law_4 42 rfl
theorem dL_law_577 : decode cL_law 577 = .ok (.ireturn, 1) := dAt (x := (577, .ireturn, 1)) DL_law_4 43 rfl
theorem dL_law_578 : decode cL_law 578 = .ok (.aload_n 1, 1) := dAt (x := (578, .aload_n 1, 1)) DL_law_4 44 rfl
theorem dL_law_579 : decode cL_law 579 = .ok (.aload_n 0, 1) := dAt (x := (579, .aload_n 0, 1)) DL_law_4 45 rfl
theorem dL_law_580 : decode cL_law 580 = .ok (.iload 4, 2) := dAt (x := (580, .iload 4, 2)) DL_law_4 46 rfl
theorem dL_law_582 : decode cL_law 582 = .ok (.iconst 1, 1) := dAt (x := (582, .iconst 1, 1)) DL_law_4 47 rfl
theorem dL_law_583 : decode cL_law 583 = .ok (.iadd, 1) := dAt (x := (583, .iadd, 1)) DL_law_4 48 rfl
theorem dL_law_584 : decode cL_law 584 = .ok (.iaload, 1) := dAt (x := (584, .iaload, 1)) DL_law_4 49 rfl
theorem dL_law_585 : decode cL_law 585 = .ok (.invokevirtual 70, 3) := dAt (x := (585, .invokevirtual 70, 3)) DL_law_4 50 rfl
theorem dL_law_588 : decode cL_law 588 = .ok (.aload_n 2, 1) := dAt (x := (588, .aload_n 2, 1)) DL_law_4 51 rfl
theorem dL_law_589 : decode cL_law 589 = .ok (.aload_n 0, 1) := dAt (x := (589, .aload_n 0, 1)) DL_law_4 52 rfl
theorem dL_law_590 : decode cL_law 590 = .ok (.iload 4, 2) := dAt (x := (590, .iload 4, 2)) DL_law_4 53 rfl
theorem dL_law_592 : decode cL_law 592 = .ok (.iconst 1, 1) := dAt (x := (592, .iconst 1, 1)) DL_law_4 54 rfl
theorem dL_law_593 : decode cL_law 593 = .ok (.iadd, 1) := dAt (x := (593, .iadd, 1)) DL_law_4 55 rfl
theorem dL_law_594 : decode cL_law 594 = .ok (.iaload, 1) := dAt (x := (594, .iaload, 1)) DL_law_4 56 rfl
theorem dL_law_595 : decode cL_law 595 = .ok (.invokevirtual 73, 3) := dAt (x := (595, .invokevirtual 73, 3)) DL_law_4 57 rfl
theorem dL_law_598 : decode cL_law 598 = .ok (.if_icmp .eq 795, 3) := dAt (x := (598, .if_icmp .eq 795, 3)) DL_law_4 58 rfl
theorem dL_law_601 : decode cL_law 601 = .ok (.iconst 0, 1) := dAt (x := (601, .iconst 0, 1)) DL_law_4 59 rfl
def lDL_law_5 : List (Nat × Instr × Nat) := [(602, .ireturn, 1), (603, .aload_n 1, 1), (604, .aload_n 0, 1), (605, .iload 4, 2), (607, .iconst 1, 1), (608, .iadd, 1), (609, .iaload, 1), (610, .invokevirtual 74, 3), (613, .aload_n 2, 1), (614, .aload_n 0, 1), (615, .iload 4, 2), (617, .iconst 1, 1), (618, .iadd, 1), (619, .iaload, 1), (620, .invokevirtual 77, 3), (623, .if_icmp .eq 770, 3), (626, .iconst 0, 1), (627, .ireturn, 1), (628, .aload_n 1, 1), (629, .aload_n 0, 1), (630, .iload 4, 2), (632, .iconst 1, 1), (633, .iadd, 1), (634, .iaload, 1), (635, .aload_n 0, 1), (636, .iload 4, 2), (638, .iconst 2, 1), (639, .iadd, 1), (640, .iaload, 1), (641, .invokevirtual 78, 3), (644, .aload_n 2, 1), (645, .aload_n 0, 1), (646, .iload 4, 2), (648, .iconst 1, 1), (649, .iadd, 1), (650, .iaload, 1), (651, .aload_n 0, 1), (652, .iload 4, 2), (654, .iconst 2, 1), (655, .iadd, 1), (656, .iaload, 1), (657, .invokevirtual 81, 3), (660, .if_icmp .eq 733, 3), (663, .iconst 0, 1), (664, .ireturn, 1), (665, .aload_n 1, 1), (666, .aload_n 0, 1), (667, .iload 4, 2), (669, .iconst 1, 1), (670, .iadd, 1), (671, .iaload, 1), (672, .invokevirtual 82, 3), (675, .aload_n 2, 1), (676, .aload_n 0, 1), (677, .iload 4, 2), (679, .iconst 1, 1), (680, .iadd, 1), (681, .iaload, 1), (682, .invokevirtual 85, 3), (685, .if_icmp .eq 708, 3)]
theorem DL_law_5 : dAll cL_law lDL_law_5 = true := by decide +kernel
theorem dL_law_602 : decode cL_law 602 = .ok (.ireturn, 1) := dAt (x := (602, .ireturn, 1)) DL_law_5 0 rfl
theorem dL_law_603 : decode cL_law 603 = .ok (.aload_n 1, 1) := dAt (x := (603, .aload_n 1, 1)) DL_law_5 1 rfl
theorem dL_law_604 : decode cL_law 604 = .ok (.aload_n 0, 1) := dAt (x := (604, .aload_n 0, 1)) DL_law_5 2 rfl
theorem dL_law_605 : decode cL_law 605 = .ok (.iload 4, 2) := dAt (x := (605, .iload 4, 2)) DL_law_5 3 rfl
theorem dL_law_607 : decode cL_law 607 = .ok (.iconst 1, 1) := dAt (x := (607, .iconst 1, 1)) DL_law_5 4 rfl
theorem dL_law_608 : decode cL_law 608 = .ok (.iadd, 1) := dAt (x := (608, .iadd, 1)) DL_law_5 5 rfl
theorem dL_law_609 : decode cL_law 609 = .ok (.iaload, 1) := dAt (x := (609, .iaload, 1)) DL_law_5 6 rfl
theorem dL_law_610 : decode cL_law 610 = .ok (.invokevirtual 74, 3) := dAt (x := (610, .invokevirtual 74, 3)) DL_law_5 7 rfl
theorem dL_law_613 : decode cL_law 613 = .ok (.aload_n 2, 1) := dAt (x := (613, .aload_n 2, 1)) DL_law_5 8 rfl
theorem dL_law_614 : decode cL_law 614 = .ok (.aload_n 0, 1) := dAt (x := (614, .aload_n 0, 1)) DL_law_5 9 rfl
theorem dL_law_615 : decode cL_law 615 = .ok (.iload 4, 2) := dAt (x := (615, .iload 4, 2)) DL_law_5 10 rfl
theorem dL_law_617 : decode cL_law 617 = .ok (.iconst 1, 1) := dAt (x := (617, .iconst 1, 1)) DL_law_5 11 rfl
theorem dL_law_618 : decode cL_law 618 = .ok (.iadd, 1) := dAt (x := (618, .iadd, 1)) DL_law_5 12 rfl
theorem dL_law_619 : decode cL_law 619 = .ok (.iaload, 1) := dAt (x := (619, .iaload, 1)) DL_law_5 13 rfl
theorem dL_law_620 : decode cL_law 620 = .ok (.invokevirtual 77, 3) := dAt (x := (620, .invokevirtual 77, 3)) DL_law_5 14 rfl
theorem dL_law_623 : decode cL_law 623 = .ok (.if_icmp .eq 770, 3) := dAt (x := (623, .if_icmp .eq 770, 3)) DL_law_5 15 rfl
theorem dL_law_626 : decode cL_law 626 = .ok (.iconst 0, 1) := dAt (x := (626, .iconst 0, 1)) DL_law_5 16 rfl
theorem dL_law_627 : decode cL_law 627 = .ok (.ireturn, 1) := dAt (x := (627, .ireturn, 1)) DL_law_5 17 rfl
theorem dL_law_628 : decode cL_law 628 = .ok (.aload_n 1, 1) := dAt (x := (628, .aload_n 1, 1)) DL_law_5 18 rfl
theorem dL_law_629 : decode cL_law 629 = .ok (.aload_n 0, 1) := dAt (x := (629, .aload_n 0, 1)) DL_law_5 19 rfl
theorem dL_law_630 : decode cL_law 630 = .ok (.iload 4, 2) := dAt (x := (630, .iload 4, 2)) DL_law_5 20 rfl
theorem dL_law_632 : decode cL_law 632 = .ok (.iconst 1, 1) := dAt (x := (632, .iconst 1, 1)) DL_law_5 21 rfl
theorem dL_law_633 : decode cL_law 633 = .ok (.iadd, 1) := dAt (x := (633, .iadd, 1)) DL_law_5 22 rfl
theorem dL_law_634 : decode cL_law 634 = .ok (.iaload, 1) := dAt (x := (634, .iaload, 1)) DL_law_5 23 rfl
theorem dL_law_635 : decode cL_law 635 = .ok (.aload_n 0, 1) := dAt (x := (635, .aload_n 0, 1)) DL_law_5 24 rfl
theorem dL_law_636 : decode cL_law 636 = .ok (.iload 4, 2) := dAt (x := (636, .iload 4, 2)) DL_law_5 25 rfl
theorem dL_law_638 : decode cL_law 638 = .ok (.iconst 2, 1) := dAt (x := (638, .iconst 2, 1)) DL_law_5 26 rfl
theorem dL_law_639 : decode cL_law 639 = .ok (.iadd, 1) := dAt (x := (639, .iadd, 1)) DL_law_5 27 rfl
theorem dL_law_640 : decode cL_law 640 = .ok (.iaload, 1) := dAt (x := (640, .iaload, 1)) DL_law_5 28 rfl
theorem dL_law_641 : decode cL_law 641 = .ok (.invokevirtual 78, 3) := dAt (x := (641, .invokevirtual 78, 3)) DL_law_5 29 rfl
theorem dL_law_644 : decode cL_law 644 = .ok (.aload_n 2, 1) := dAt (x := (644, .aload_n 2, 1)) DL_law_5 30 rfl
theorem dL_law_645 : decode cL_law 645 = .ok (.aload_n 0, 1) := dAt (x := (645, .aload_n 0, 1)) DL_law_5 31 rfl
theorem dL_law_646 : decode cL_law 646 = .ok (.iload 4, 2) := dAt (x := (646, .iload 4, 2)) DL_law_5 32 rfl
theorem dL_law_648 : decode cL_law 648 = .ok (.iconst 1, 1) := dAt (x := (648, .iconst 1, 1)) DL_law_5 33 rfl
theorem dL_law_649 : decode cL_law 649 = .ok (.iadd, 1) := dAt (x := (649, .iadd, 1)) DL_law_5 34 rfl
theorem dL_law_650 : decode cL_law 650 = .ok (.iaload, 1) := dAt (x := (650, .iaload, 1)) DL_law_5 35 rfl
theorem dL_law_651 : decode cL_law 651 = .ok (.aload_n 0, 1) := dAt (x := (651, .aload_n 0, 1)) DL_law_5 36 rfl
theorem dL_law_652 : decode cL_law 652 = .ok (.iload 4, 2) := dAt (x := (652, .iload 4, 2)) DL_law_5 37 rfl
theorem dL_law_654 : decode cL_law 654 = .ok (.iconst 2, 1) := dAt (x := (654, .iconst 2, 1)) DL_law_5 38 rfl
theorem dL_law_655 : decode cL_law 655 = .ok (.iadd, 1) := dAt (x := (655, .iadd, 1)) DL_law_5 39 rfl
theorem dL_law_656 : decode cL_law 656 = .ok (.iaload, 1) := dAt (x := (656, .iaload, 1)) DL_law_5 40 rfl
theorem dL_law_657 : decode cL_law 657 = .ok (.invokevirtual 81, 3) := dAt (x := (657, .invokevirtual 81, 3)) DL_law_5 41 rfl
theorem dL_law_660 : decode cL_law 660 = .ok (.if_icmp .eq 733, 3) := dAt (x := (660, .if_icmp .eq 733, 3)) DL_law_5 42 rfl
theorem dL_law_663 : decode cL_law 663 = .ok (.iconst 0, 1) := dAt (x := (663, .iconst 0, 1)) DL_law_5 43 rfl
theorem dL_law_664 : decode cL_law 664 = .ok (.ireturn, 1) := dAt (x := (664, .ireturn, 1)) DL_law_5 44 rfl
theorem dL_law_665 : decode cL_law 665 = .ok (.aload_n 1, 1) := dAt (x := (665, .aload_n 1, 1)) DL_law_5 45 rfl
theorem dL_law_666 : decode cL_law 666 = .ok (.aload_n 0, 1) := dAt (x := (666, .aload_n 0, 1)) DL_law_5 46 rfl
theorem dL_law_667 : decode cL_law 667 = .ok (.iload 4, 2) := dAt (x := (667, .iload 4, 2)) DL_law_5 47 rfl
theorem dL_law_669 : decode cL_law 669 = .ok (.iconst 1, 1) := dAt (x := (669, .iconst 1, 1)) DL_law_5 48 rfl
theorem dL_law_670 : decode cL_law 670 = .ok (.iadd, 1) := dAt (x := (670, .iadd, 1)) DL_law_5 49 rfl
theorem dL_law_671 : decode cL_law 671 = .ok (.iaload, 1) := dAt (x := (671, .iaload, 1)) DL_law_5 50 rfl
theorem dL_law_672 : decode cL_law 672 = .ok (.invokevirtual 82, 3) := dAt (x := (672, .invokevirtual 82, 3)) DL_law_5 51 rfl
theorem dL_law_675 : decode cL_law 675 = .ok (.aload_n 2, 1) := dAt (x := (675, .aload_n 2, 1)) DL_law_5 52 rfl
theorem dL_law_676 : decode cL_law 676 = .ok (.aload_n 0, 1) := dAt (x := (676, .aload_n 0, 1)) DL_law_5 53 rfl
theorem dL_law_677 : decode cL_law 677 = .ok (.iload 4, 2) := dAt (x := (677, .iload 4, 2)) DL_law_5 54 rfl
theorem dL_law_679 : decode cL_law 679 = .ok (.iconst 1, 1) := dAt (x := (679, .iconst 1, 1)) DL_law_5 55 rfl
theorem dL_law_680 : decode cL_law 680 = .ok (.iadd, 1) := dAt (x := (680, .iadd, 1)) DL_law_5 56 rfl
theorem dL_law_681 : decode cL_law 681 = .ok (.iaload, 1) := dAt (x := (681, .iaload, 1)) DL_law_5 57 rfl
theorem dL_law_682 : decode cL_law 682 = .ok (.invokevirtual 85, 3) := dAt (x := (682, .invokevirtual 85, 3)) DL_law_5 58 rfl
theorem dL_law_685 : decode cL_law 685 = .ok (.if_icmp .eq 708, 3) := dAt (x := (685, .if_icmp .eq 708, 3)) DL_law_5 59 rfl
