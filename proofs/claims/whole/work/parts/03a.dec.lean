def dAll (c : ByteArray) (l : List (Nat × Instr × Nat)) : Bool := l.all fun x => decide (decode c x.1 = .ok (x.2.1, x.2.2))
theorem dAt {c : ByteArray} {l : List (Nat × Instr × Nat)} {x : Nat × Instr × Nat} (h : dAll c l = true) (i : Nat) (hx : l[i]? = some x) : decode c x.1 = .ok (x.2.1, x.2.2) := by
  have h1 := List.all_eq_true.mp h x (List.mem_of_getElem? hx)
  simpa using h1
def lDX0_init_0 : List (Nat × Instr × Nat) := [(0, .aload_n 0, 1), (1, .invokespecial 3, 3), (4, .aload_n 0, 1), (5, .new 9, 3), (8, .dup, 1), (9, .invokespecial 11, 3), (12, .putfield 12, 3), (15, .aload_n 0, 1), (16, .iconst (-1), 1), (17, .putfield 18, 3), (20, .aload_n 0, 1), (21, .iconst (-1), 1), (22, .putfield 22, 3), (25, .return_, 1)]
theorem DX0_init_0 : dAll cX0_init lDX0_init_0 = true := by decide +kernel
theorem dX0_init_0 : decode cX0_init 0 = .ok (.aload_n 0, 1) := dAt (x := (0, .aload_n 0, 1)) DX0_init_0 0 rfl
theorem dX0_init_1 : decode cX0_init 1 = .ok (.invokespecial 3, 3) := dAt (x := (1, .invokespecial 3, 3)) DX0_init_0 1 rfl
theorem dX0_init_4 : decode cX0_init 4 = .ok (.aload_n 0, 1) := dAt (x := (4, .aload_n 0, 1)) DX0_init_0 2 rfl
theorem dX0_init_5 : decode cX0_init 5 = .ok (.new 9, 3) := dAt (x := (5, .new 9, 3)) DX0_init_0 3 rfl
theorem dX0_init_8 : decode cX0_init 8 = .ok (.dup, 1) := dAt (x := (8, .dup, 1)) DX0_init_0 4 rfl
theorem dX0_init_9 : decode cX0_init 9 = .ok (.invokespecial 11, 3) := dAt (x := (9, .invokespecial 11, 3)) DX0_init_0 5 rfl
theorem dX0_init_12 : decode cX0_init 12 = .ok (.putfield 12, 3) := dAt (x := (12, .putfield 12, 3)) DX0_init_0 6 rfl
theorem dX0_init_15 : decode cX0_init 15 = .ok (.aload_n 0, 1) := dAt (x := (15, .aload_n 0, 1)) DX0_init_0 7 rfl
theorem dX0_init_16 : decode cX0_init 16 = .ok (.iconst (-1), 1) := dAt (x := (16, .iconst (-1), 1)) DX0_init_0 8 rfl
theorem dX0_init_17 : decode cX0_init 17 = .ok (.putfield 18, 3) := dAt (x := (17, .putfield 18, 3)) DX0_init_0 9 rfl
theorem dX0_init_20 : decode cX0_init 20 = .ok (.aload_n 0, 1) := dAt (x := (20, .aload_n 0, 1)) DX0_init_0 10 rfl
theorem dX0_init_21 : decode cX0_init 21 = .ok (.iconst (-1), 1) := dAt (x := (21, .iconst (-1), 1)) DX0_init_0 11 rfl
theorem dX0_init_22 : decode cX0_init 22 = .ok (.putfield 22, 3) := dAt (x := (22, .putfield 22, 3)) DX0_init_0 12 rfl
theorem dX0_init_25 : decode cX0_init 25 = .ok (.return_, 1) := dAt (x := (25, .return_, 1)) DX0_init_0 13 rfl
def lDX0_asItGoes_0 : List (Nat × Instr × Nat) := [(0, .aload_n 0, 1), (1, .iconst 0, 1), (2, .putfield 25, 3), (5, .aload_n 0, 1), (6, .iconst (-1), 1), (7, .putfield 18, 3), (10, .aload_n 0, 1), (11, .iconst (-1), 1), (12, .putfield 22, 3), (15, .return_, 1)]
theorem DX0_asItGoes_0 : dAll cX0_asItGoes lDX0_asItGoes_0 = true := by decide +kernel
theorem dX0_asItGoes_0 : decode cX0_asItGoes 0 = .ok (.aload_n 0, 1) := dAt (x := (0, .aload_n 0, 1)) DX0_asItGoes_0 0 rfl
theorem dX0_asItGoes_1 : decode cX0_asItGoes 1 = .ok (.iconst 0, 1) := dAt (x := (1, .iconst 0, 1)) DX0_asItGoes_0 1 rfl
theorem dX0_asItGoes_2 : decode cX0_asItGoes 2 = .ok (.putfield 25, 3) := dAt (x := (2, .putfield 25, 3)) DX0_asItGoes_0 2 rfl
theorem dX0_asItGoes_5 : decode cX0_asItGoes 5 = .ok (.aload_n 0, 1) := dAt (x := (5, .aload_n 0, 1)) DX0_asItGoes_0 3 rfl
theorem dX0_asItGoes_6 : decode cX0_asItGoes 6 = .ok (.iconst (-1), 1) := dAt (x := (6, .iconst (-1), 1)) DX0_asItGoes_0 4 rfl
theorem dX0_asItGoes_7 : decode cX0_asItGoes 7 = .ok (.putfield 18, 3) := dAt (x := (7, .putfield 18, 3)) DX0_asItGoes_0 5 rfl
theorem dX0_asItGoes_10 : decode cX0_asItGoes 10 = .ok (.aload_n 0, 1) := dAt (x := (10, .aload_n 0, 1)) DX0_asItGoes_0 6 rfl
theorem dX0_asItGoes_11 : decode cX0_asItGoes 11 = .ok (.iconst (-1), 1) := dAt (x := (11, .iconst (-1), 1)) DX0_asItGoes_0 7 rfl
theorem dX0_asItGoes_12 : decode cX0_asItGoes 12 = .ok (.putfield 22, 3) := dAt (x := (12, .putfield 22, 3)) DX0_asItGoes_0 8 rfl
theorem dX0_asItGoes_15 : decode cX0_asItGoes 15 = .ok (.return_, 1) := dAt (x := (15, .return_, 1)) DX0_asItGoes_0 9 rfl
def lDX0_drawn_0 : List (Nat × Instr × Nat) := [(0, .aload_n 0, 1), (1, .invokevirtual 29, 3), (4, .aload_n 0, 1), (5, .iconst 1, 1), (6, .putfield 25, 3), (9, .return_, 1)]
theorem DX0_drawn_0 : dAll cX0_drawn lDX0_drawn_0 = true := by decide +kernel
theorem dX0_drawn_0 : decode cX0_drawn 0 = .ok (.aload_n 0, 1) := dAt (x := (0, .aload_n 0, 1)) DX0_drawn_0 0 rfl
theorem dX0_drawn_1 : decode cX0_drawn 1 = .ok (.invokevirtual 29, 3) := dAt (x := (1, .invokevirtual 29, 3)) DX0_drawn_0 1 rfl
theorem dX0_drawn_4 : decode cX0_drawn 4 = .ok (.aload_n 0, 1) := dAt (x := (4, .aload_n 0, 1)) DX0_drawn_0 2 rfl
theorem dX0_drawn_5 : decode cX0_drawn 5 = .ok (.iconst 1, 1) := dAt (x := (5, .iconst 1, 1)) DX0_drawn_0 3 rfl
theorem dX0_drawn_6 : decode cX0_drawn 6 = .ok (.putfield 25, 3) := dAt (x := (6, .putfield 25, 3)) DX0_drawn_0 4 rfl
theorem dX0_drawn_9 : decode cX0_drawn 9 = .ok (.return_, 1) := dAt (x := (9, .return_, 1)) DX0_drawn_0 5 rfl
def lDX0_otherwise_0 : List (Nat × Instr × Nat) := [(0, .aload_n 0, 1), (1, .invokevirtual 29, 3), (4, .aload_n 0, 1), (5, .iload_n 1, 1), (6, .putfield 18, 3), (9, .aload_n 0, 1), (10, .iload_n 1, 1), (11, .iconst 2, 1), (12, .if_icmp .ne 7, 3), (15, .iload_n 2, 1), (16, .goto 4, 3), (19, .iconst (-1), 1), (20, .putfield 22, 3), (23, .return_, 1)]
theorem DX0_otherwise_0 : dAll cX0_otherwise lDX0_otherwise_0 = true := by decide +kernel
theorem dX0_otherwise_0 : decode cX0_otherwise 0 = .ok (.aload_n 0, 1) := dAt (x := (0, .aload_n 0, 1)) DX0_otherwise_0 0 rfl
theorem dX0_otherwise_1 : decode cX0_otherwise 1 = .ok (.invokevirtual 29, 3) := dAt (x := (1, .invokevirtual 29, 3)) DX0_otherwise_0 1 rfl
theorem dX0_otherwise_4 : decode cX0_otherwise 4 = .ok (.aload_n 0, 1) := dAt (x := (4, .aload_n 0, 1)) DX0_otherwise_0 2 rfl
theorem dX0_otherwise_5 : decode cX0_otherwise 5 = .ok (.iload_n 1, 1) := dAt (x := (5, .iload_n 1, 1)) DX0_otherwise_0 3 rfl
theorem dX0_otherwise_6 : decode cX0_otherwise 6 = .ok (.putfield 18, 3) := dAt (x := (6, .putfield 18, 3)) DX0_otherwise_0 4 rfl
theorem dX0_otherwise_9 : decode cX0_otherwise 9 = .ok (.aload_n 0, 1) := dAt (x := (9, .aload_n 0, 1)) DX0_otherwise_0 5 rfl
theorem dX0_otherwise_10 : decode cX0_otherwise 10 = .ok (.iload_n 1, 1) := dAt (x := (10, .iload_n 1, 1)) DX0_otherwise_0 6 rfl
theorem dX0_otherwise_11 : decode cX0_otherwise 11 = .ok (.iconst 2, 1) := dAt (x := (11, .iconst 2, 1)) DX0_otherwise_0 7 rfl
theorem dX0_otherwise_12 : decode cX0_otherwise 12 = .ok (.if_icmp .ne 7, 3) := dAt (x := (12, .if_icmp .ne 7, 3)) DX0_otherwise_0 8 rfl
theorem dX0_otherwise_15 : decode cX0_otherwise 15 = .ok (.iload_n 2, 1) := dAt (x := (15, .iload_n 2, 1)) DX0_otherwise_0 9 rfl
theorem dX0_otherwise_16 : decode cX0_otherwise 16 = .ok (.goto 4, 3) := dAt (x := (16, .goto 4, 3)) DX0_otherwise_0 10 rfl
theorem dX0_otherwise_19 : decode cX0_otherwise 19 = .ok (.iconst (-1), 1) := dAt (x := (19, .iconst (-1), 1)) DX0_otherwise_0 11 rfl
theorem dX0_otherwise_20 : decode cX0_otherwise 20 = .ok (.putfield 22, 3) := dAt (x := (20, .putfield 22, 3)) DX0_otherwise_0 12 rfl
theorem dX0_otherwise_23 : decode cX0_otherwise 23 = .ok (.return_, 1) := dAt (x := (23, .return_, 1)) DX0_otherwise_0 13 rfl
def lDX0_pass_0 : List (Nat × Instr × Nat) := [(0, .iconst 0, 1), (1, .istore 4, 2), (3, .iload 4, 2), (5, .iload_n 3, 1), (6, .if_icmp .ge 34, 3), (9, .aload_n 2, 1), (10, .getfield 32, 3), (13, .bipush 99, 2), (15, .if_icmp .gt 9, 3), (18, .aload_n 0, 1), (19, .aload_n 1, 1), (20, .aload_n 2, 1), (21, .invokevirtual 37, 3), (24, .aload_n 2, 1), (25, .dup, 1), (26, .getfield 32, 3), (29, .iconst 1, 1), (30, .iadd, 1), (31, .putfield 32, 3), (34, .iinc 4 1, 3), (37, .goto (-34), 3), (40, .return_, 1)]
theorem DX0_pass_0 : dAll cX0_pass lDX0_pass_0 = true := by decide +kernel
theorem dX0_pass_0 : decode cX0_pass 0 = .ok (.iconst 0, 1) := dAt (x := (0, .iconst 0, 1)) DX0_pass_0 0 rfl
theorem dX0_pass_1 : decode cX0_pass 1 = .ok (.istore 4, 2) := dAt (x := (1, .istore 4, 2)) DX0_pass_0 1 rfl
theorem dX0_pass_3 : decode cX0_pass 3 = .ok (.iload 4, 2) := dAt (x := (3, .iload 4, 2)) DX0_pass_0 2 rfl
theorem dX0_pass_5 : decode cX0_pass 5 = .ok (.iload_n 3, 1) := dAt (x := (5, .iload_n 3, 1)) DX0_pass_0 3 rfl
theorem dX0_pass_6 : decode cX0_pass 6 = .ok (.if_icmp .ge 34, 3) := dAt (x := (6, .if_icmp .ge 34, 3)) DX0_pass_0 4 rfl
theorem dX0_pass_9 : decode cX0_pass 9 = .ok (.aload_n 2, 1) := dAt (x := (9, .aload_n 2, 1)) DX0_pass_0 5 rfl
theorem dX0_pass_10 : decode cX0_pass 10 = .ok (.getfield 32, 3) := dAt (x := (10, .getfield 32, 3)) DX0_pass_0 6 rfl
theorem dX0_pass_13 : decode cX0_pass 13 = .ok (.bipush 99, 2) := dAt (x := (13, .bipush 99, 2)) DX0_pass_0 7 rfl
theorem dX0_pass_15 : decode cX0_pass 15 = .ok (.if_icmp .gt 9, 3) := dAt (x := (15, .if_icmp .gt 9, 3)) DX0_pass_0 8 rfl
theorem dX0_pass_18 : decode cX0_pass 18 = .ok (.aload_n 0, 1) := dAt (x := (18, .aload_n 0, 1)) DX0_pass_0 9 rfl
theorem dX0_pass_19 : decode cX0_pass 19 = .ok (.aload_n 1, 1) := dAt (x := (19, .aload_n 1, 1)) DX0_pass_0 10 rfl
theorem dX0_pass_20 : decode cX0_pass 20 = .ok (.aload_n 2, 1) := dAt (x := (20, .aload_n 2, 1)) DX0_pass_0 11 rfl
theorem dX0_pass_21 : decode cX0_pass 21 = .ok (.invokevirtual 37, 3) := dAt (x := (21, .invokevirtual 37, 3)) DX0_pass_0 12 rfl
theorem dX0_pass_24 : decode cX0_pass 24 = .ok (.aload_n 2, 1) := dAt (x := (24, .aload_n 2, 1)) DX0_pass_0 13 rfl
theorem dX0_pass_25 : decode cX0_pass 25 = .ok (.dup, 1) := dAt (x := (25, .dup, 1)) DX0_pass_0 14 rfl
theorem dX0_pass_26 : decode cX0_pass 26 = .ok (.getfield 32, 3) := dAt (x := (26, .getfield 32, 3)) DX0_pass_0 15 rfl
theorem dX0_pass_29 : decode cX0_pass 29 = .ok (.iconst 1, 1) := dAt (x := (29, .iconst 1, 1)) DX0_pass_0 16 rfl
theorem dX0_pass_30 : decode cX0_pass 30 = .ok (.iadd, 1) := dAt (x := (30, .iadd, 1)) DX0_pass_0 17 rfl
theorem dX0_pass_31 : decode cX0_pass 31 = .ok (.putfield 32, 3) := dAt (x := (31, .putfield 32, 3)) DX0_pass_0 18 rfl
theorem dX0_pass_34 : decode cX0_pass 34 = .ok (.iinc 4 1, 3) := dAt (x := (34, .iinc 4 1, 3)) DX0_pass_0 19 rfl
theorem dX0_pass_37 : decode cX0_pass 37 = .ok (.goto (-34), 3) := dAt (x := (37, .goto (-34), 3)) DX0_pass_0 20 rfl
theorem dX0_pass_40 : decode cX0_pass 40 = .ok (.return_, 1) := dAt (x := (40, .return_, 1)) DX0_pass_0 21 rfl
def lDX0_passOne_0 : List (Nat × Instr × Nat) := [(0, .aload_n 0, 1), (1, .getfield 18, 3), (4, .iconst 3, 1), (5, .if_icmp .eq 19, 3), (8, .aload_n 1, 1), (9, .aload_n 2, 1), (10, .getfield 32, 3), (13, .invokevirtual 41, 3), (16, .ifCond .eq 8, 3), (19, .aload_n 2, 1), (20, .iconst 0, 1), (21, .putfield 47, 3), (24, .aload_n 0, 1), (25, .getfield 18, 3), (28, .iconst 4, 1), (29, .if_icmp .ne 7, 3), (32, .iconst 2, 1), (33, .goto 4, 3), (36, .iconst 1, 1), (37, .istore_n 3, 1), (38, .iconst 0, 1), (39, .istore 4, 2), (41, .iload 4, 2), (43, .aload_n 1, 1), (44, .getfield 50, 3), (47, .if_icmp .ge 87, 3), (50, .iload 4, 2), (52, .bipush 16, 2), (54, .if_icmp .ge 80, 3), (57, .aload_n 1, 1), (58, .getfield 53, 3), (61, .iload 4, 2), (63, .iaload, 1), (64, .istore 5, 2), (66, .aload_n 1, 1), (67, .getfield 57, 3), (70, .iload 4, 2), (72, .iaload, 1), (73, .aload_n 2, 1), (74, .getfield 32, 3), (77, .if_icmp .ne 51, 3), (80, .iload 5, 2), (82, .aload_n 0, 1), (83, .getfield 22, 3), (86, .if_icmp .ne 6, 3), (89, .goto 39, 3), (92, .iconst 0, 1), (93, .istore 6, 2), (95, .iload 6, 2), (97, .iload_n 3, 1), (98, .if_icmp .ge 30, 3), (101, .aload_n 0, 1), (102, .aload_n 1, 1), (103, .aload_n 2, 1), (104, .iload 5, 2), (106, .invokevirtual 60, 3), (109, .ifCond .ne 13, 3), (112, .aload_n 2, 1), (113, .dup, 1), (114, .getfield 63, 3)]
theorem DX0_passOne_0 : dAll cX0_passOne lDX0_passOne_0 = true := by decide +kernel
theorem dX0_passOne_0 : decode cX0_passOne 0 = .ok (.aload_n 0, 1) := dAt (x := (0, .aload_n 0, 1)) DX0_passOne_0 0 rfl
theorem dX0_passOne_1 : decode cX0_passOne 1 = .ok (.getfield 18, 3) := dAt (x := (1, .getfield 18, 3)) DX0_passOne_0 1 rfl
theorem dX0_passOne_4 : decode cX0_passOne 4 = .ok (.iconst 3, 1) := dAt (x := (4, .iconst 3, 1)) DX0_passOne_0 2 rfl
theorem dX0_passOne_5 : decode cX0_passOne 5 = .ok (.if_icmp .eq 19, 3) := dAt (x := (5, .if_icmp .eq 19, 3)) DX0_passOne_0 3 rfl
theorem dX0_passOne_8 : decode cX0_passOne 8 = .ok (.aload_n 1, 1) := dAt (x := (8, .aload_n 1, 1)) DX0_passOne_0 4 rfl
theorem dX0_passOne_9 : decode cX0_passOne 9 = .ok (.aload_n 2, 1) := dAt (x := (9, .aload_n 2, 1)) DX0_passOne_0 5 rfl
theorem dX0_passOne_10 : decode cX0_passOne 10 = .ok (.getfield 32, 3) := dAt (x := (10, .getfield 32, 3)) DX0_passOne_0 6 rfl
theorem dX0_passOne_13 : decode cX0_passOne 13 = .ok (.invokevirtual 41, 3) := dAt (x := (13, .invokevirtual 41, 3)) DX0_passOne_0 7 rfl
theorem dX0_passOne_16 : decode cX0_passOne 16 = .ok (.ifCond .eq 8, 3) := dAt (x := (16, .ifCond .eq 8, 3)) DX0_passOne_0 8 rfl
theorem dX0_passOne_19 : decode cX0_passOne 19 = .ok (.aload_n 2, 1) := dAt (x := (19, .aload_n 2, 1)) DX0_passOne_0 9 rfl
theorem dX0_passOne_20 : decode cX0_passOne 20 = .ok (.iconst 0, 1) := dAt (x := (20, .iconst 0, 1)) DX0_passOne_0 10 rfl
theorem dX0_passOne_21 : decode cX0_passOne 21 = .ok (.putfield 47, 3) := dAt (x := (21, .putfield 47, 3)) DX0_passOne_0 11 rfl
theorem dX0_passOne_24 : decode cX0_passOne 24 = .ok (.aload_n 0, 1) := dAt (x := (24, .aload_n 0, 1)) DX0_passOne_0 12 rfl
theorem dX0_passOne_25 : decode cX0_passOne 25 = .ok (.getfield 18, 3) := dAt (x := (25, .getfield 18, 3)) DX0_passOne_0 13 rfl
theorem dX0_passOne_28 : decode cX0_passOne 28 = .ok (.iconst 4, 1) := dAt (x := (28, .iconst 4, 1)) DX0_passOne_0 14 rfl
theorem dX0_passOne_29 : decode cX0_passOne 29 = .ok (.if_icmp .ne 7, 3) := dAt (x := (29, .if_icmp .ne 7, 3)) DX0_passOne_0 15 rfl
theorem dX0_passOne_32 : decode cX0_passOne 32 = .ok (.iconst 2, 1) := dAt (x := (32, .iconst 2, 1)) DX0_passOne_0 16 rfl
theorem dX0_passOne_33 : decode cX0_passOne 33 = .ok (.goto 4, 3) := dAt (x := (33, .goto 4, 3)) DX0_passOne_0 17 rfl
theorem dX0_passOne_36 : decode cX0_passOne 36 = .ok (.iconst 1, 1) := dAt (x := (36, .iconst 1, 1)) DX0_passOne_0 18 rfl
theorem dX0_passOne_37 : decode cX0_passOne 37 = .ok (.istore_n 3, 1) := dAt (x := (37, .istore_n 3, 1)) DX0_passOne_0 19 rfl
theorem dX0_passOne_38 : decode cX0_passOne 38 = .ok (.iconst 0, 1) := dAt (x := (38, .iconst 0, 1)) DX0_passOne_0 20 rfl
theorem dX0_passOne_39 : decode cX0_passOne 39 = .ok (.istore 4, 2) := dAt (x := (39, .istore 4, 2)) DX0_passOne_0 21 rfl
theorem dX0_passOne_41 : decode cX0_passOne 41 = .ok (.iload 4, 2) := dAt (x := (41, .iload 4, 2)) DX0_passOne_0 22 rfl
theorem dX0_passOne_43 : decode cX0_passOne 43 = .ok (.aload_n 1, 1) := dAt (x := (43, .aload_n 1, 1)) DX0_passOne_0 23 rfl
theorem dX0_passOne_44 : decode cX0_passOne 44 = .ok (.getfield 50, 3) := dAt (x := (44, .getfield 50, 3)) DX0_passOne_0 24 rfl
theorem dX0_passOne_47 : decode cX0_passOne 47 = .ok (.if_icmp .ge 87, 3) := dAt (x := (47, .if_icmp .ge 87, 3)) DX0_passOne_0 25 rfl
theorem dX0_passOne_50 : decode cX0_passOne 50 = .ok (.iload 4, 2) := dAt (x := (50, .iload 4, 2)) DX0_passOne_0 26 rfl
theorem dX0_passOne_52 : decode cX0_passOne 52 = .ok (.bipush 16, 2) := dAt (x := (52, .bipush 16, 2)) DX0_passOne_0 27 rfl
theorem dX0_passOne_54 : decode cX0_passOne 54 = .ok (.if_icmp .ge 80, 3) := dAt (x := (54, .if_icmp .ge 80, 3)) DX0_passOne_0 28 rfl
theorem dX0_passOne_57 : decode cX0_passOne 57 = .ok (.aload_n 1, 1) := dAt (x := (57, .aload_n 1, 1)) DX0_passOne_0 29 rfl
theorem dX0_passOne_58 : decode cX0_passOne 58 = .ok (.getfield 53, 3) := dAt (x := (58, .getfield 53, 3)) DX0_passOne_0 30 rfl
theorem dX0_passOne_61 : decode cX0_passOne 61 = .ok (.iload 4, 2) := dAt (x := (61, .iload 4, 2)) DX0_passOne_0 31 rfl
theorem dX0_passOne_63 : decode cX0_passOne 63 = .ok (.iaload, 1) := dAt (x := (63, .iaload, 1)) DX0_passOne_0 32 rfl
theorem dX0_passOne_64 : decode cX0_passOne 64 = .ok (.istore 5, 2) := dAt (x := (64, .istore 5, 2)) DX0_passOne_0 33 rfl
theorem dX0_passOne_66 : decode cX0_passOne 66 = .ok (.aload_n 1, 1) := dAt (x := (66, .aload_n 1, 1)) DX0_passOne_0 34 rfl
theorem dX0_passOne_67 : decode cX0_passOne 67 = .ok (.getfield 57, 3) := dAt (x := (67, .getfield 57, 3)) DX0_passOne_0 35 rfl
theorem dX0_passOne_70 : decode cX0_passOne 70 = .ok (.iload 4, 2) := dAt (x := (70, .iload 4, 2)) DX0_passOne_0 36 rfl
theorem dX0_passOne_72 : decode cX0_passOne 72 = .ok (.iaload, 1) := dAt (x := (72, .iaload, 1)) DX0_passOne_0 37 rfl
theorem dX0_passOne_73 : decode cX0_passOne 73 = .ok (.aload_n 2, 1) := dAt (x := (73, .aload_n 2, 1)) DX0_passOne_0 38 rfl
theorem dX0_passOne_74 : decode cX0_passOne 74 = .ok (.getfield 32, 3) := dAt (x := (74, .getfield 32, 3)) DX0_passOne_0 39 rfl
theorem dX0_passOne_77 : decode cX0_passOne 77 = .ok (.if_icmp .ne 51, 3) := dAt (x := (77, .if_icmp .ne 51, 3)) DX0_passOne_0 40 rfl
theorem dX0_passOne_80 : decode cX0_passOne 80 = .ok (.iload 5, 2) := dAt (x := (80, .iload 5, 2)) DX0_passOne_0 41 rfl
theorem dX0_passOne_82 : decode cX0_passOne 82 = .ok (.aload_n 0, 1) := dAt (x := (82, .aload_n 0, 1)) DX0_passOne_0 42 rfl
theorem dX0_passOne_83 : decode cX0_passOne 83 = .ok (.getfield 22, 3) := dAt (x := (83, .getfield 22, 3)) DX0_passOne_0 43 rfl
theorem dX0_passOne_86 : decode cX0_passOne 86 = .ok (.if_icmp .ne 6, 3) := dAt (x := (86, .if_icmp .ne 6, 3)) DX0_passOne_0 44 rfl
theorem dX0_passOne_89 : decode cX0_passOne 89 = .ok (.goto 39, 3) := dAt (x := (89, .goto 39, 3)) DX0_passOne_0 45 rfl
theorem dX0_passOne_92 : decode cX0_passOne 92 = .ok (.iconst 0, 1) := dAt (x := (92, .iconst 0, 1)) DX0_passOne_0 46 rfl
theorem dX0_passOne_93 : decode cX0_passOne 93 = .ok (.istore 6, 2) := dAt (x := (93, .istore 6, 2)) DX0_passOne_0 47 rfl
theorem dX0_passOne_95 : decode cX0_passOne 95 = .ok (.iload 6, 2) := dAt (x := (95, .iload 6, 2)) DX0_passOne_0 48 rfl
theorem dX0_passOne_97 : decode cX0_passOne 97 = .ok (.iload_n 3, 1) := dAt (x := (97, .iload_n 3, 1)) DX0_passOne_0 49 rfl
theorem dX0_passOne_98 : decode cX0_passOne 98 = .ok (.if_icmp .ge 30, 3) := dAt (x := (98, .if_icmp .ge 30, 3)) DX0_passOne_0 50 rfl
theorem dX0_passOne_101 : decode cX0_passOne 101 = .ok (.aload_n 0, 1) := dAt (x := (101, .aload_n 0, 1)) DX0_passOne_0 51 rfl
theorem dX0_passOne_102 : decode cX0_passOne 102 = .ok (.aload_n 1, 1) := dAt (x := (102, .aload_n 1, 1)) DX0_passOne_0 52 rfl
theorem dX0_passOne_103 : decode cX0_passOne 103 = .ok (.aload_n 2, 1) := dAt (x := (103, .aload_n 2, 1)) DX0_passOne_0 53 rfl
theorem dX0_passOne_104 : decode cX0_passOne 104 = .ok (.iload 5, 2) := dAt (x := (104, .iload 5, 2)) DX0_passOne_0 54 rfl
theorem dX0_passOne_106 : decode cX0_passOne 106 = .ok (.invokevirtual 60, 3) := dAt (x := (106, .invokevirtual 60, 3)) DX0_passOne_0 55 rfl
theorem dX0_passOne_109 : decode cX0_passOne 109 = .ok (.ifCond .ne 13, 3) := dAt (x := (109, .ifCond .ne 13, 3)) DX0_passOne_0 56 rfl
theorem dX0_passOne_112 : decode cX0_passOne 112 = .ok (.aload_n 2, 1) := dAt (x := (112, .aload_n 2, 1)) DX0_passOne_0 57 rfl
theorem dX0_passOne_113 : decode cX0_passOne 113 = .ok (.dup, 1) := dAt (x := (113, .dup, 1)) DX0_passOne_0 58 rfl
theorem dX0_passOne_114 : decode cX0_passOne 114 = .ok (.getfield 63, 3) := dAt (x := (114, .getfield 63, 3)) DX0_passOne_0 59 rfl
def lDX0_passOne_1 : List (Nat × Instr × Nat) := [(117, .iconst 1, 1), (118, .iadd, 1), (119, .putfield 63, 3), (122, .iinc 6 1, 3), (125, .goto (-30), 3), (128, .iinc 4 1, 3), (131, .goto (-90), 3), (134, .return_, 1)]
theorem DX0_passOne_1 : dAll cX0_passOne lDX0_passOne_1 = true := by decide +kernel
theorem dX0_passOne_117 : decode cX0_passOne 117 = .ok (.iconst 1, 1) := dAt (x := (117, .iconst 1, 1)) DX0_passOne_1 0 rfl
theorem dX0_passOne_118 : decode cX0_passOne 118 = .ok (.iadd, 1) := dAt (x := (118, .iadd, 1)) DX0_passOne_1 1 rfl
theorem dX0_passOne_119 : decode cX0_passOne 119 = .ok (.putfield 63, 3) := dAt (x := (119, .putfield 63, 3)) DX0_passOne_1 2 rfl
theorem dX0_passOne_122 : decode cX0_passOne 122 = .ok (.iinc 6 1, 3) := dAt (x := (122, .iinc 6 1, 3)) DX0_passOne_1 3 rfl
theorem dX0_passOne_125 : decode cX0_passOne 125 = .ok (.goto (-30), 3) := dAt (x := (125, .goto (-30), 3)) DX0_passOne_1 4 rfl
theorem dX0_passOne_128 : decode cX0_passOne 128 = .ok (.iinc 4 1, 3) := dAt (x := (128, .iinc 4 1, 3)) DX0_passOne_1 5 rfl
theorem dX0_passOne_131 : decode cX0_passOne 131 = .ok (.goto (-90), 3) := dAt (x := (131, .goto (-90), 3)) DX0_passOne_1 6 rfl
theorem dX0_passOne_134 : decode cX0_passOne 134 = .ok (.return_, 1) := dAt (x := (134, .return_, 1)) DX0_passOne_1 7 rfl
def lDX0_pushes_0 : List (Nat × Instr × Nat) := [(0, .aload_n 0, 1), (1, .getfield 18, 3), (4, .iconst 1, 1), (5, .if_icmp .ne 17, 3), (8, .aload_n 1, 1), (9, .invokevirtual 66, 3), (12, .aload_n 2, 1), (13, .getfield 47, 3), (16, .iconst (-1), 1), (17, .ixor, 1), (18, .iand, 1), (19, .goto 15, 3), (22, .aload_n 1, 1), (23, .aload_n 2, 1), (24, .getfield 70, 3), (27, .aload_n 2, 1), (28, .getfield 47, 3), (31, .invokevirtual 73, 3), (34, .istore 4, 2), (36, .aload_n 1, 1), (37, .iload_n 3, 1), (38, .invokevirtual 77, 3), (41, .ifCond .eq 12, 3), (44, .iload 4, 2), (46, .iload_n 3, 1), (47, .ishr, 1), (48, .iconst 1, 1), (49, .iand, 1), (50, .ifCond .ne 5, 3), (53, .iconst 0, 1), (54, .ireturn, 1), (55, .aload_n 0, 1), (56, .aload_n 1, 1), (57, .aload_n 2, 1), (58, .iconst 0, 1), (59, .iload_n 3, 1), (60, .invokevirtual 80, 3), (63, .ldc2_w 84, 3), (66, .lconst 1, 1), (67, .invokestatic 86, 3), (70, .lstore 5, 2), (72, .aload_n 2, 1), (73, .dup, 1), (74, .getfield 70, 3), (77, .iconst 1, 1), (78, .iload_n 3, 1), (79, .ishl, 1), (80, .ixor, 1), (81, .putfield 70, 3), (84, .aload_n 2, 1), (85, .ldc2_w 90, 3), (88, .aload_n 2, 1), (89, .getfield 92, 3), (92, .i2l, 1), (93, .lload 5, 2), (95, .ladd, 1), (96, .invokestatic 95, 3), (99, .l2i, 1), (100, .putfield 92, 3), (103, .aload_n 2, 1)]
theorem DX0_pushes_0 : dAll cX0_pushes lDX0_pushes_0 = true := by decide +kernel
theorem dX0_pushes_0 : decode cX0_pushes 0 = .ok (.aload_n 0, 1) := dAt (x := (0, .aload_n 0, 1)) DX0_pushes_0 0 rfl
theorem dX0_pushes_1 : decode cX0_pushes 1 = .ok (.getfield 18, 3) := dAt (x := (1, .getfield 18, 3)) DX0_pushes_0 1 rfl
theorem dX0_pushes_4 : decode cX0_pushes 4 = .ok (.iconst 1, 1) := dAt (x := (4, .iconst 1, 1)) DX0_pushes_0 2 rfl
theorem dX0_pushes_5 : decode cX0_pushes 5 = .ok (.if_icmp .ne 17, 3) := dAt (x := (5, .if_icmp .ne 17, 3)) DX0_pushes_0 3 rfl
theorem dX0_pushes_8 : decode cX0_pushes 8 = .ok (.aload_n 1, 1) := dAt (x := (8, .aload_n 1, 1)) DX0_pushes_0 4 rfl
theorem dX0_pushes_9 : decode cX0_pushes 9 = .ok (.invokevirtual 66, 3) := dAt (x := (9, .invokevirtual 66, 3)) DX0_pushes_0 5 rfl
theorem dX0_pushes_12 : decode cX0_pushes 12 = .ok (.aload_n 2, 1) := dAt (x := (12, .aload_n 2, 1)) DX0_pushes_0 6 rfl
theorem dX0_pushes_13 : decode cX0_pushes 13 = .ok (.getfield 47, 3) := dAt (x := (13, .getfield 47, 3)) DX0_pushes_0 7 rfl
theorem dX0_pushes_16 : decode cX0_pushes 16 = .ok (.iconst (-1), 1) := dAt (x := (16, .iconst (-1), 1)) DX0_pushes_0 8 rfl
theorem dX0_pushes_17 : decode cX0_pushes 17 = .ok (.ixor, 1) := dAt (x := (17, .ixor, 1)) DX0_pushes_0 9 rfl
theorem dX0_pushes_18 : decode cX0_pushes 18 = .ok (.iand, 1) := dAt (x := (18, .iand, 1)) DX0_pushes_0 10 rfl
theorem dX0_pushes_19 : decode cX0_pushes 19 = .ok (.goto 15, 3) := dAt (x := (19, .goto 15, 3)) DX0_pushes_0 11 rfl
theorem dX0_pushes_22 : decode cX0_pushes 22 = .ok (.aload_n 1, 1) := dAt (x := (22, .aload_n 1, 1)) DX0_pushes_0 12 rfl
theorem dX0_pushes_23 : decode cX0_pushes 23 = .ok (.aload_n 2, 1) := dAt (x := (23, .aload_n 2, 1)) DX0_pushes_0 13 rfl
theorem dX0_pushes_24 : decode cX0_pushes 24 = .ok (.getfield 70, 3) := dAt (x := (24, .getfield 70, 3)) DX0_pushes_0 14 rfl
theorem dX0_pushes_27 : decode cX0_pushes 27 = .ok (.aload_n 2, 1) := dAt (x := (27, .aload_n 2, 1)) DX0_pushes_0 15 rfl
theorem dX0_pushes_28 : decode cX0_pushes 28 = .ok (.getfield 47, 3) := dAt (x := (28, .getfield 47, 3)) DX0_pushes_0 16 rfl
theorem dX0_pushes_31 : decode cX0_pushes 31 = .ok (.invokevirtual 73, 3) := dAt (x := (31, .invokevirtual 73, 3)) DX0_pushes_0 17 rfl
theorem dX0_pushes_34 : decode cX0_pushes 34 = .ok (.istore 4, 2) := dAt (x := (34, .istore 4, 2)) DX0_pushes_0 18 rfl
theorem dX0_pushes_36 : decode cX0_pushes 36 = .ok (.aload_n 1, 1) := dAt (x := (36, .aload_n 1, 1)) DX0_pushes_0 19 rfl
theorem dX0_pushes_37 : decode cX0_pushes 37 = .ok (.iload_n 3, 1) := dAt (x := (37, .iload_n 3, 1)) DX0_pushes_0 20 rfl
theorem dX0_pushes_38 : decode cX0_pushes 38 = .ok (.invokevirtual 77, 3) := dAt (x := (38, .invokevirtual 77, 3)) DX0_pushes_0 21 rfl
theorem dX0_pushes_41 : decode cX0_pushes 41 = .ok (.ifCond .eq 12, 3) := dAt (x := (41, .ifCond .eq 12, 3)) DX0_pushes_0 22 rfl
theorem dX0_pushes_44 : decode cX0_pushes 44 = .ok (.iload 4, 2) := dAt (x := (44, .iload 4, 2)) DX0_pushes_0 23 rfl
theorem dX0_pushes_46 : decode cX0_pushes 46 = .ok (.iload_n 3, 1) := dAt (x := (46, .iload_n 3, 1)) DX0_pushes_0 24 rfl
theorem dX0_pushes_47 : decode cX0_pushes 47 = .ok (.ishr, 1) := dAt (x := (47, .ishr, 1)) DX0_pushes_0 25 rfl
theorem dX0_pushes_48 : decode cX0_pushes 48 = .ok (.iconst 1, 1) := dAt (x := (48, .iconst 1, 1)) DX0_pushes_0 26 rfl
theorem dX0_pushes_49 : decode cX0_pushes 49 = .ok (.iand, 1) := dAt (x := (49, .iand, 1)) DX0_pushes_0 27 rfl
theorem dX0_pushes_50 : decode cX0_pushes 50 = .ok (.ifCond .ne 5, 3) := dAt (x := (50, .ifCond .ne 5, 3)) DX0_pushes_0 28 rfl
theorem dX0_pushes_53 : decode cX0_pushes 53 = .ok (.iconst 0, 1) := dAt (x := (53, .iconst 0, 1)) DX0_pushes_0 29 rfl
theorem dX0_pushes_54 : decode cX0_pushes 54 = .ok (.ireturn, 1) := dAt (x := (54, .ireturn, 1)) DX0_pushes_0 30 rfl
theorem dX0_pushes_55 : decode cX0_pushes 55 = .ok (.aload_n 0, 1) := dAt (x := (55, .aload_n 0, 1)) DX0_pushes_0 31 rfl
theorem dX0_pushes_56 : decode cX0_pushes 56 = .ok (.aload_n 1, 1) := dAt (x := (56, .aload_n 1, 1)) DX0_pushes_0 32 rfl
theorem dX0_pushes_57 : decode cX0_pushes 57 = .ok (.aload_n 2, 1) := dAt (x := (57, .aload_n 2, 1)) DX0_pushes_0 33 rfl
theorem dX0_pushes_58 : decode cX0_pushes 58 = .ok (.iconst 0, 1) := dAt (x := (58, .iconst 0, 1)) DX0_pushes_0 34 rfl
theorem dX0_pushes_59 : decode cX0_pushes 59 = .ok (.iload_n 3, 1) := dAt (x := (59, .iload_n 3, 1)) DX0_pushes_0 35 rfl
theorem dX0_pushes_60 : decode cX0_pushes 60 = .ok (.invokevirtual 80, 3) := dAt (x := (60, .invokevirtual 80, 3)) DX0_pushes_0 36 rfl
theorem dX0_pushes_63 : decode cX0_pushes 63 = .ok (.ldc2_w 84, 3) := dAt (x := (63, .ldc2_w 84, 3)) DX0_pushes_0 37 rfl
theorem dX0_pushes_66 : decode cX0_pushes 66 = .ok (.lconst 1, 1) := dAt (x := (66, .lconst 1, 1)) DX0_pushes_0 38 rfl
theorem dX0_pushes_67 : decode cX0_pushes 67 = .ok (.invokestatic 86, 3) := dAt (x := (67, .invokestatic 86, 3)) DX0_pushes_0 39 rfl
theorem dX0_pushes_70 : decode cX0_pushes 70 = .ok (.lstore 5, 2) := dAt (x := (70, .lstore 5, 2)) DX0_pushes_0 40 rfl
theorem dX0_pushes_72 : decode cX0_pushes 72 = .ok (.aload_n 2, 1) := dAt (x := (72, .aload_n 2, 1)) DX0_pushes_0 41 rfl
theorem dX0_pushes_73 : decode cX0_pushes 73 = .ok (.dup, 1) := dAt (x := (73, .dup, 1)) DX0_pushes_0 42 rfl
theorem dX0_pushes_74 : decode cX0_pushes 74 = .ok (.getfield 70, 3) := dAt (x := (74, .getfield 70, 3)) DX0_pushes_0 43 rfl
theorem dX0_pushes_77 : decode cX0_pushes 77 = .ok (.iconst 1, 1) := dAt (x := (77, .iconst 1, 1)) DX0_pushes_0 44 rfl
theorem dX0_pushes_78 : decode cX0_pushes 78 = .ok (.iload_n 3, 1) := dAt (x := (78, .iload_n 3, 1)) DX0_pushes_0 45 rfl
theorem dX0_pushes_79 : decode cX0_pushes 79 = .ok (.ishl, 1) := dAt (x := (79, .ishl, 1)) DX0_pushes_0 46 rfl
theorem dX0_pushes_80 : decode cX0_pushes 80 = .ok (.ixor, 1) := dAt (x := (80, .ixor, 1)) DX0_pushes_0 47 rfl
theorem dX0_pushes_81 : decode cX0_pushes 81 = .ok (.putfield 70, 3) := dAt (x := (81, .putfield 70, 3)) DX0_pushes_0 48 rfl
theorem dX0_pushes_84 : decode cX0_pushes 84 = .ok (.aload_n 2, 1) := dAt (x := (84, .aload_n 2, 1)) DX0_pushes_0 49 rfl
theorem dX0_pushes_85 : decode cX0_pushes 85 = .ok (.ldc2_w 90, 3) := dAt (x := (85, .ldc2_w 90, 3)) DX0_pushes_0 50 rfl
theorem dX0_pushes_88 : decode cX0_pushes 88 = .ok (.aload_n 2, 1) := dAt (x := (88, .aload_n 2, 1)) DX0_pushes_0 51 rfl
theorem dX0_pushes_89 : decode cX0_pushes 89 = .ok (.getfield 92, 3) := dAt (x := (89, .getfield 92, 3)) DX0_pushes_0 52 rfl
theorem dX0_pushes_92 : decode cX0_pushes 92 = .ok (.i2l, 1) := dAt (x := (92, .i2l, 1)) DX0_pushes_0 53 rfl
theorem dX0_pushes_93 : decode cX0_pushes 93 = .ok (.lload 5, 2) := dAt (x := (93, .lload 5, 2)) DX0_pushes_0 54 rfl
theorem dX0_pushes_95 : decode cX0_pushes 95 = .ok (.ladd, 1) := dAt (x := (95, .ladd, 1)) DX0_pushes_0 55 rfl
theorem dX0_pushes_96 : decode cX0_pushes 96 = .ok (.invokestatic 95, 3) := dAt (x := (96, .invokestatic 95, 3)) DX0_pushes_0 56 rfl
theorem dX0_pushes_99 : decode cX0_pushes 99 = .ok (.l2i, 1) := dAt (x := (99, .l2i, 1)) DX0_pushes_0 57 rfl
theorem dX0_pushes_100 : decode cX0_pushes 100 = .ok (.putfield 92, 3) := dAt (x := (100, .putfield 92, 3)) DX0_pushes_0 58 rfl
theorem dX0_pushes_103 : decode cX0_pushes 103 = .ok (.aload_n 2, 1) := dAt (x := (103, .aload_n 2, 1)) DX0_pushes_0 59 rfl
def lDX0_pushes_1 : List (Nat × Instr × Nat) := [(104, .iload_n 3, 1), (105, .sipush 999, 3), (108, .aload_n 2, 1), (109, .iload_n 3, 1), (110, .invokevirtual 101, 3), (113, .iconst 1, 1), (114, .iadd, 1), (115, .invokestatic 105, 3), (118, .invokevirtual 107, 3), (121, .aload_n 0, 1), (122, .getfield 18, 3), (125, .ifCond .eq 72, 3), (128, .aload_n 0, 1), (129, .aload_n 1, 1), (130, .aload_n 2, 1), (131, .iconst 1, 1), (132, .iload_n 3, 1), (133, .invokevirtual 80, 3), (136, .lstore 7, 2), (138, .aload_n 0, 1), (139, .aload_n 1, 1), (140, .aload_n 2, 1), (141, .iconst 2, 1), (142, .iload_n 3, 1), (143, .invokevirtual 80, 3), (146, .ldc2_w 111, 3), (149, .aload_n 1, 1), (150, .getfield 113, 3), (153, .i2l, 1), (154, .invokestatic 86, 3), (157, .lstore 9, 2), (159, .aload_n 0, 1), (160, .aload_n 2, 1), (161, .lload 9, 2), (163, .invokevirtual 116, 3), (166, .ifCond .ne 19, 3), (169, .lload 7, 2), (171, .lconst 0, 1), (172, .lcmp, 1), (173, .ifCond .eq 24, 3), (176, .lload 7, 2), (178, .ldc2_w 120, 3), (181, .lcmp, 1), (182, .ifCond .eq 15, 3), (185, .aload_n 2, 1), (186, .dup, 1), (187, .getfield 47, 3), (190, .iconst 1, 1), (191, .iload_n 3, 1), (192, .ishl, 1), (193, .ior, 1), (194, .putfield 47, 3), (197, .iconst 1, 1), (198, .ireturn, 1)]
theorem DX0_pushes_1 : dAll cX0_pushes lDX0_pushes_1 = true := by decide +kernel
theorem dX0_pushes_104 : decode cX0_pushes 104 = .ok (.iload_n 3, 1) := dAt (x := (104, .iload_n 3, 1)) DX0_pushes_1 0 rfl
theorem dX0_pushes_105 : decode cX0_pushes 105 = .ok (.sipush 999, 3) := dAt (x := (105, .sipush 999, 3)) DX0_pushes_1 1 rfl
theorem dX0_pushes_108 : decode cX0_pushes 108 = .ok (.aload_n 2, 1) := dAt (x := (108, .aload_n 2, 1)) DX0_pushes_1 2 rfl
theorem dX0_pushes_109 : decode cX0_pushes 109 = .ok (.iload_n 3, 1) := dAt (x := (109, .iload_n 3, 1)) DX0_pushes_1 3 rfl
theorem dX0_pushes_110 : decode cX0_pushes 110 = .ok (.invokevirtual 101, 3) := dAt (x := (110, .invokevirtual 101, 3)) DX0_pushes_1 4 rfl
theorem dX0_pushes_113 : decode cX0_pushes 113 = .ok (.iconst 1, 1) := dAt (x := (113, .iconst 1, 1)) DX0_pushes_1 5 rfl
theorem dX0_pushes_114 : decode cX0_pushes 114 = .ok (.iadd, 1) := dAt (x := (114, .iadd, 1)) DX0_pushes_1 6 rfl
theorem dX0_pushes_115 : decode cX0_pushes 115 = .ok (.invokestatic 105, 3) := dAt (x := (115, .invokestatic 105, 3)) DX0_pushes_1 7 rfl
theorem dX0_pushes_118 : decode cX0_pushes 118 = .ok (.invokevirtual 107, 3) := dAt (x := (118, .invokevirtual 107, 3)) DX0_pushes_1 8 rfl
theorem dX0_pushes_121 : decode cX0_pushes 121 = .ok (.aload_n 0, 1) := dAt (x := (121, .aload_n 0, 1)) DX0_pushes_1 9 rfl
theorem dX0_pushes_122 : decode cX0_pushes 122 = .ok (.getfield 18, 3) := dAt (x := (122, .getfield 18, 3)) DX0_pushes_1 10 rfl
theorem dX0_pushes_125 : decode cX0_pushes 125 = .ok (.ifCond .eq 72, 3) := dAt (x := (125, .ifCond .eq 72, 3)) DX0_pushes_1 11 rfl
theorem dX0_pushes_128 : decode cX0_pushes 128 = .ok (.aload_n 0, 1) := dAt (x := (128, .aload_n 0, 1)) DX0_pushes_1 12 rfl
theorem dX0_pushes_129 : decode cX0_pushes 129 = .ok (.aload_n 1, 1) := dAt (x := (129, .aload_n 1, 1)) DX0_pushes_1 13 rfl
theorem dX0_pushes_130 : decode cX0_pushes 130 = .ok (.aload_n 2, 1) := dAt (x := (130, .aload_n 2, 1)) DX0_pushes_1 14 rfl
theorem dX0_pushes_131 : decode cX0_pushes 131 = .ok (.iconst 1, 1) := dAt (x := (131, .iconst 1, 1)) DX0_pushes_1 15 rfl
theorem dX0_pushes_132 : decode cX0_pushes 132 = .ok (.iload_n 3, 1) := dAt (x := (132, .iload_n 3, 1)) DX0_pushes_1 16 rfl
theorem dX0_pushes_133 : decode cX0_pushes 133 = .ok (.invokevirtual 80, 3) := dAt (x := (133, .invokevirtual 80, 3)) DX0_pushes_1 17 rfl
theorem dX0_pushes_136 : decode cX0_pushes 136 = .ok (.lstore 7, 2) := dAt (x := (136, .lstore 7, 2)) DX0_pushes_1 18 rfl
theorem dX0_pushes_138 : decode cX0_pushes 138 = .ok (.aload_n 0, 1) := dAt (x := (138, .aload_n 0, 1)) DX0_pushes_1 19 rfl
theorem dX0_pushes_139 : decode cX0_pushes 139 = .ok (.aload_n 1, 1) := dAt (x := (139, .aload_n 1, 1)) DX0_pushes_1 20 rfl
theorem dX0_pushes_140 : decode cX0_pushes 140 = .ok (.aload_n 2, 1) := dAt (x := (140, .aload_n 2, 1)) DX0_pushes_1 21 rfl
theorem dX0_pushes_141 : decode cX0_pushes 141 = .ok (.iconst 2, 1) := dAt (x := (141, .iconst 2, 1)) DX0_pushes_1 22 rfl
theorem dX0_pushes_142 : decode cX0_pushes 142 = .ok (.iload_n 3, 1) := dAt (x := (142, .iload_n 3, 1)) DX0_pushes_1 23 rfl
theorem dX0_pushes_143 : decode cX0_pushes 143 = .ok (.invokevirtual 80, 3) := dAt (x := (143, .invokevirtual 80, 3)) DX0_pushes_1 24 rfl
theorem dX0_pushes_146 : decode cX0_pushes 146 = .ok (.ldc2_w 111, 3) := dAt (x := (146, .ldc2_w 111, 3)) DX0_pushes_1 25 rfl
theorem dX0_pushes_149 : decode cX0_pushes 149 = .ok (.aload_n 1, 1) := dAt (x := (149, .aload_n 1, 1)) DX0_pushes_1 26 rfl
theorem dX0_pushes_150 : decode cX0_pushes 150 = .ok (.getfield 113, 3) := dAt (x := (150, .getfield 113, 3)) DX0_pushes_1 27 rfl
theorem dX0_pushes_153 : decode cX0_pushes 153 = .ok (.i2l, 1) := dAt (x := (153, .i2l, 1)) DX0_pushes_1 28 rfl
theorem dX0_pushes_154 : decode cX0_pushes 154 = .ok (.invokestatic 86, 3) := dAt (x := (154, .invokestatic 86, 3)) DX0_pushes_1 29 rfl
theorem dX0_pushes_157 : decode cX0_pushes 157 = .ok (.lstore 9, 2) := dAt (x := (157, .lstore 9, 2)) DX0_pushes_1 30 rfl
theorem dX0_pushes_159 : decode cX0_pushes 159 = .ok (.aload_n 0, 1) := dAt (x := (159, .aload_n 0, 1)) DX0_pushes_1 31 rfl
theorem dX0_pushes_160 : decode cX0_pushes 160 = .ok (.aload_n 2, 1) := dAt (x := (160, .aload_n 2, 1)) DX0_pushes_1 32 rfl
theorem dX0_pushes_161 : decode cX0_pushes 161 = .ok (.lload 9, 2) := dAt (x := (161, .lload 9, 2)) DX0_pushes_1 33 rfl
theorem dX0_pushes_163 : decode cX0_pushes 163 = .ok (.invokevirtual 116, 3) := dAt (x := (163, .invokevirtual 116, 3)) DX0_pushes_1 34 rfl
theorem dX0_pushes_166 : decode cX0_pushes 166 = .ok (.ifCond .ne 19, 3) := dAt (x := (166, .ifCond .ne 19, 3)) DX0_pushes_1 35 rfl
theorem dX0_pushes_169 : decode cX0_pushes 169 = .ok (.lload 7, 2) := dAt (x := (169, .lload 7, 2)) DX0_pushes_1 36 rfl
theorem dX0_pushes_171 : decode cX0_pushes 171 = .ok (.lconst 0, 1) := dAt (x := (171, .lconst 0, 1)) DX0_pushes_1 37 rfl
theorem dX0_pushes_172 : decode cX0_pushes 172 = .ok (.lcmp, 1) := dAt (x := (172, .lcmp, 1)) DX0_pushes_1 38 rfl
theorem dX0_pushes_173 : decode cX0_pushes 173 = .ok (.ifCond .eq 24, 3) := dAt (x := (173, .ifCond .eq 24, 3)) DX0_pushes_1 39 rfl
theorem dX0_pushes_176 : decode cX0_pushes 176 = .ok (.lload 7, 2) := dAt (x := (176, .lload 7, 2)) DX0_pushes_1 40 rfl
theorem dX0_pushes_178 : decode cX0_pushes 178 = .ok (.ldc2_w 120, 3) := dAt (x := (178, .ldc2_w 120, 3)) DX0_pushes_1 41 rfl
theorem dX0_pushes_181 : decode cX0_pushes 181 = .ok (.lcmp, 1) := dAt (x := (181, .lcmp, 1)) DX0_pushes_1 42 rfl
theorem dX0_pushes_182 : decode cX0_pushes 182 = .ok (.ifCond .eq 15, 3) := dAt (x := (182, .ifCond .eq 15, 3)) DX0_pushes_1 43 rfl
theorem dX0_pushes_185 : decode cX0_pushes 185 = .ok (.aload_n 2, 1) := dAt (x := (185, .aload_n 2, 1)) DX0_pushes_1 44 rfl
theorem dX0_pushes_186 : decode cX0_pushes 186 = .ok (.dup, 1) := dAt (x := (186, .dup, 1)) DX0_pushes_1 45 rfl
theorem dX0_pushes_187 : decode cX0_pushes 187 = .ok (.getfield 47, 3) := dAt (x := (187, .getfield 47, 3)) DX0_pushes_1 46 rfl
theorem dX0_pushes_190 : decode cX0_pushes 190 = .ok (.iconst 1, 1) := dAt (x := (190, .iconst 1, 1)) DX0_pushes_1 47 rfl
theorem dX0_pushes_191 : decode cX0_pushes 191 = .ok (.iload_n 3, 1) := dAt (x := (191, .iload_n 3, 1)) DX0_pushes_1 48 rfl
theorem dX0_pushes_192 : decode cX0_pushes 192 = .ok (.ishl, 1) := dAt (x := (192, .ishl, 1)) DX0_pushes_1 49 rfl
theorem dX0_pushes_193 : decode cX0_pushes 193 = .ok (.ior, 1) := dAt (x := (193, .ior, 1)) DX0_pushes_1 50 rfl
theorem dX0_pushes_194 : decode cX0_pushes 194 = .ok (.putfield 47, 3) := dAt (x := (194, .putfield 47, 3)) DX0_pushes_1 51 rfl
theorem dX0_pushes_197 : decode cX0_pushes 197 = .ok (.iconst 1, 1) := dAt (x := (197, .iconst 1, 1)) DX0_pushes_1 52 rfl
theorem dX0_pushes_198 : decode cX0_pushes 198 = .ok (.ireturn, 1) := dAt (x := (198, .ireturn, 1)) DX0_pushes_1 53 rfl
def lDX0_rusts_0 : List (Nat × Instr × Nat) := [(0, .lload_n 2, 1), (1, .lconst 0, 1), (2, .lcmp, 1), (3, .ifCond .le 11, 3), (6, .lload_n 2, 1), (7, .ldc2_w 111, 3), (10, .lcmp, 1), (11, .ifCond .lt 17, 3), (14, .lload_n 2, 1), (15, .ldc2_w 111, 3), (18, .lcmp, 1), (19, .ifCond .lt 7, 3), (22, .iconst 1, 1), (23, .goto 4, 3), (26, .iconst 0, 1), (27, .ireturn, 1), (28, .aload_n 0, 1), (29, .getfield 25, 3), (32, .ifCond .ne 17, 3), (35, .lload_n 2, 1), (36, .ldc2_w 122, 3), (39, .lcmp, 1), (40, .ifCond .lt 7, 3), (43, .iconst 1, 1), (44, .goto 4, 3), (47, .iconst 0, 1), (48, .ireturn, 1), (49, .aload_n 1, 1), (50, .aload_n 1, 1), (51, .getfield 124, 3), (54, .ldc2_w 128, 3), (57, .lmul, 1), (58, .ldc2_w 130, 3), (61, .ladd, 1), (62, .ldc2_w 132, 3), (65, .land, 1), (66, .putfield 124, 3), (69, .aload_n 1, 1), (70, .getfield 124, 3), (73, .ldc2_w 134, 3), (76, .ldiv, 1), (77, .ldc2_w 111, 3), (80, .lrem, 1), (81, .lload_n 2, 1), (82, .lcmp, 1), (83, .ifCond .ge 7, 3), (86, .iconst 1, 1), (87, .goto 4, 3), (90, .iconst 0, 1), (91, .ireturn, 1)]
theorem DX0_rusts_0 : dAll cX0_rusts lDX0_rusts_0 = true := by decide +kernel
theorem dX0_rusts_0 : decode cX0_rusts 0 = .ok (.lload_n 2, 1) := dAt (x := (0, .lload_n 2, 1)) DX0_rusts_0 0 rfl
theorem dX0_rusts_1 : decode cX0_rusts 1 = .ok (.lconst 0, 1) := dAt (x := (1, .lconst 0, 1)) DX0_rusts_0 1 rfl
theorem dX0_rusts_2 : decode cX0_rusts 2 = .ok (.lcmp, 1) := dAt (x := (2, .lcmp, 1)) DX0_rusts_0 2 rfl
theorem dX0_rusts_3 : decode cX0_rusts 3 = .ok (.ifCond .le 11, 3) := dAt (x := (3, .ifCond .le 11, 3)) DX0_rusts_0 3 rfl
theorem dX0_rusts_6 : decode cX0_rusts 6 = .ok (.lload_n 2, 1) := dAt (x := (6, .lload_n 2, 1)) DX0_rusts_0 4 rfl
theorem dX0_rusts_7 : decode cX0_rusts 7 = .ok (.ldc2_w 111, 3) := dAt (x := (7, .ldc2_w 111, 3)) DX0_rusts_0 5 rfl
theorem dX0_rusts_10 : decode cX0_rusts 10 = .ok (.lcmp, 1) := dAt (x := (10, .lcmp, 1)) DX0_rusts_0 6 rfl
theorem dX0_rusts_11 : decode cX0_rusts 11 = .ok (.ifCond .lt 17, 3) := dAt (x := (11, .ifCond .lt 17, 3)) DX0_rusts_0 7 rfl
theorem dX0_rusts_14 : decode cX0_rusts 14 = .ok (.lload_n 2, 1) := dAt (x := (14, .lload_n 2, 1)) DX0_rusts_0 8 rfl
theorem dX0_rusts_15 : decode cX0_rusts 15 = .ok (.ldc2_w 111, 3) := dAt (x := (15, .ldc2_w 111, 3)) DX0_rusts_0 9 rfl
theorem dX0_rusts_18 : decode cX0_rusts 18 = .ok (.lcmp, 1) := dAt (x := (18, .lcmp, 1)) DX0_rusts_0 10 rfl
theorem dX0_rusts_19 : decode cX0_rusts 19 = .ok (.ifCond .lt 7, 3) := dAt (x := (19, .ifCond .lt 7, 3)) DX0_rusts_0 11 rfl
theorem dX0_rusts_22 : decode cX0_rusts 22 = .ok (.iconst 1, 1) := dAt (x := (22, .iconst 1, 1)) DX0_rusts_0 12 rfl
theorem dX0_rusts_23 : decode cX0_rusts 23 = .ok (.goto 4, 3) := dAt (x := (23, .goto 4, 3)) DX0_rusts_0 13 rfl
theorem dX0_rusts_26 : decode cX0_rusts 26 = .ok (.iconst 0, 1) := dAt (x := (26, .iconst 0, 1)) DX0_rusts_0 14 rfl
theorem dX0_rusts_27 : decode cX0_rusts 27 = .ok (.ireturn, 1) := dAt (x := (27, .ireturn, 1)) DX0_rusts_0 15 rfl
theorem dX0_rusts_28 : decode cX0_rusts 28 = .ok (.aload_n 0, 1) := dAt (x := (28, .aload_n 0, 1)) DX0_rusts_0 16 rfl
theorem dX0_rusts_29 : decode cX0_rusts 29 = .ok (.getfield 25, 3) := dAt (x := (29, .getfield 25, 3)) DX0_rusts_0 17 rfl
theorem dX0_rusts_32 : decode cX0_rusts 32 = .ok (.ifCond .ne 17, 3) := dAt (x := (32, .ifCond .ne 17, 3)) DX0_rusts_0 18 rfl
theorem dX0_rusts_35 : decode cX0_rusts 35 = .ok (.lload_n 2, 1) := dAt (x := (35, .lload_n 2, 1)) DX0_rusts_0 19 rfl
theorem dX0_rusts_36 : decode cX0_rusts 36 = .ok (.ldc2_w 122, 3) := dAt (x := (36, .ldc2_w 122, 3)) DX0_rusts_0 20 rfl
theorem dX0_rusts_39 : decode cX0_rusts 39 = .ok (.lcmp, 1) := dAt (x := (39, .lcmp, 1)) DX0_rusts_0 21 rfl
theorem dX0_rusts_40 : decode cX0_rusts 40 = .ok (.ifCond .lt 7, 3) := dAt (x := (40, .ifCond .lt 7, 3)) DX0_rusts_0 22 rfl
theorem dX0_rusts_43 : decode cX0_rusts 43 = .ok (.iconst 1, 1) := dAt (x := (43, .iconst 1, 1)) DX0_rusts_0 23 rfl
theorem dX0_rusts_44 : decode cX0_rusts 44 = .ok (.goto 4, 3) := dAt (x := (44, .goto 4, 3)) DX0_rusts_0 24 rfl
theorem dX0_rusts_47 : decode cX0_rusts 47 = .ok (.iconst 0, 1) := dAt (x := (47, .iconst 0, 1)) DX0_rusts_0 25 rfl
theorem dX0_rusts_48 : decode cX0_rusts 48 = .ok (.ireturn, 1) := dAt (x := (48, .ireturn, 1)) DX0_rusts_0 26 rfl
theorem dX0_rusts_49 : decode cX0_rusts 49 = .ok (.aload_n 1, 1) := dAt (x := (49, .aload_n 1, 1)) DX0_rusts_0 27 rfl
theorem dX0_rusts_50 : decode cX0_rusts 50 = .ok (.aload_n 1, 1) := dAt (x := (50, .aload_n 1, 1)) DX0_rusts_0 28 rfl
theorem dX0_rusts_51 : decode cX0_rusts 51 = .ok (.getfield 124, 3) := dAt (x := (51, .getfield 124, 3)) DX0_rusts_0 29 rfl
theorem dX0_rusts_54 : decode cX0_rusts 54 = .ok (.ldc2_w 128, 3) := dAt (x := (54, .ldc2_w 128, 3)) DX0_rusts_0 30 rfl
theorem dX0_rusts_57 : decode cX0_rusts 57 = .ok (.lmul, 1) := dAt (x := (57, .lmul, 1)) DX0_rusts_0 31 rfl
theorem dX0_rusts_58 : decode cX0_rusts 58 = .ok (.ldc2_w 130, 3) := dAt (x := (58, .ldc2_w 130, 3)) DX0_rusts_0 32 rfl
theorem dX0_rusts_61 : decode cX0_rusts 61 = .ok (.ladd, 1) := dAt (x := (61, .ladd, 1)) DX0_rusts_0 33 rfl
theorem dX0_rusts_62 : decode cX0_rusts 62 = .ok (.ldc2_w 132, 3) := dAt (x := (62, .ldc2_w 132, 3)) DX0_rusts_0 34 rfl
theorem dX0_rusts_65 : decode cX0_rusts 65 = .ok (.land, 1) := dAt (x := (65, .land, 1)) DX0_rusts_0 35 rfl
theorem dX0_rusts_66 : decode cX0_rusts 66 = .ok (.putfield 124, 3) := dAt (x := (66, .putfield 124, 3)) DX0_rusts_0 36 rfl
theorem dX0_rusts_69 : decode cX0_rusts 69 = .ok (.aload_n 1, 1) := dAt (x := (69, .aload_n 1, 1)) DX0_rusts_0 37 rfl
theorem dX0_rusts_70 : decode cX0_rusts 70 = .ok (.getfield 124, 3) := dAt (x := (70, .getfield 124, 3)) DX0_rusts_0 38 rfl
theorem dX0_rusts_73 : decode cX0_rusts 73 = .ok (.ldc2_w 134, 3) := dAt (x := (73, .ldc2_w 134, 3)) DX0_rusts_0 39 rfl
theorem dX0_rusts_76 : decode cX0_rusts 76 = .ok (.ldiv, 1) := dAt (x := (76, .ldiv, 1)) DX0_rusts_0 40 rfl
theorem dX0_rusts_77 : decode cX0_rusts 77 = .ok (.ldc2_w 111, 3) := dAt (x := (77, .ldc2_w 111, 3)) DX0_rusts_0 41 rfl
theorem dX0_rusts_80 : decode cX0_rusts 80 = .ok (.lrem, 1) := dAt (x := (80, .lrem, 1)) DX0_rusts_0 42 rfl
theorem dX0_rusts_81 : decode cX0_rusts 81 = .ok (.lload_n 2, 1) := dAt (x := (81, .lload_n 2, 1)) DX0_rusts_0 43 rfl
theorem dX0_rusts_82 : decode cX0_rusts 82 = .ok (.lcmp, 1) := dAt (x := (82, .lcmp, 1)) DX0_rusts_0 44 rfl
theorem dX0_rusts_83 : decode cX0_rusts 83 = .ok (.ifCond .ge 7, 3) := dAt (x := (83, .ifCond .ge 7, 3)) DX0_rusts_0 45 rfl
theorem dX0_rusts_86 : decode cX0_rusts 86 = .ok (.iconst 1, 1) := dAt (x := (86, .iconst 1, 1)) DX0_rusts_0 46 rfl
theorem dX0_rusts_87 : decode cX0_rusts 87 = .ok (.goto 4, 3) := dAt (x := (87, .goto 4, 3)) DX0_rusts_0 47 rfl
theorem dX0_rusts_90 : decode cX0_rusts 90 = .ok (.iconst 0, 1) := dAt (x := (90, .iconst 0, 1)) DX0_rusts_0 48 rfl
theorem dX0_rusts_91 : decode cX0_rusts 91 = .ok (.ireturn, 1) := dAt (x := (91, .ireturn, 1)) DX0_rusts_0 49 rfl
def lDX0_limited_0 : List (Nat × Instr × Nat) := [(0, .lload_n 0, 1), (1, .ldc2_w 120, 3), (4, .lcmp, 1), (5, .ifCond .ne 6, 3), (8, .lload 4, 2), (10, .lreturn, 1), (11, .lconst 0, 1), (12, .lload_n 2, 1), (13, .lload_n 0, 1), (14, .invokestatic 95, 3), (17, .invokestatic 136, 3), (20, .lreturn, 1)]
theorem DX0_limited_0 : dAll cX0_limited lDX0_limited_0 = true := by decide +kernel
theorem dX0_limited_0 : decode cX0_limited 0 = .ok (.lload_n 0, 1) := dAt (x := (0, .lload_n 0, 1)) DX0_limited_0 0 rfl
theorem dX0_limited_1 : decode cX0_limited 1 = .ok (.ldc2_w 120, 3) := dAt (x := (1, .ldc2_w 120, 3)) DX0_limited_0 1 rfl
theorem dX0_limited_4 : decode cX0_limited 4 = .ok (.lcmp, 1) := dAt (x := (4, .lcmp, 1)) DX0_limited_0 2 rfl
theorem dX0_limited_5 : decode cX0_limited 5 = .ok (.ifCond .ne 6, 3) := dAt (x := (5, .ifCond .ne 6, 3)) DX0_limited_0 3 rfl
theorem dX0_limited_8 : decode cX0_limited 8 = .ok (.lload 4, 2) := dAt (x := (8, .lload 4, 2)) DX0_limited_0 4 rfl
theorem dX0_limited_10 : decode cX0_limited 10 = .ok (.lreturn, 1) := dAt (x := (10, .lreturn, 1)) DX0_limited_0 5 rfl
theorem dX0_limited_11 : decode cX0_limited 11 = .ok (.lconst 0, 1) := dAt (x := (11, .lconst 0, 1)) DX0_limited_0 6 rfl
theorem dX0_limited_12 : decode cX0_limited 12 = .ok (.lload_n 2, 1) := dAt (x := (12, .lload_n 2, 1)) DX0_limited_0 7 rfl
theorem dX0_limited_13 : decode cX0_limited 13 = .ok (.lload_n 0, 1) := dAt (x := (13, .lload_n 0, 1)) DX0_limited_0 8 rfl
theorem dX0_limited_14 : decode cX0_limited 14 = .ok (.invokestatic 95, 3) := dAt (x := (14, .invokestatic 95, 3)) DX0_limited_0 9 rfl
theorem dX0_limited_17 : decode cX0_limited 17 = .ok (.invokestatic 136, 3) := dAt (x := (17, .invokestatic 136, 3)) DX0_limited_0 10 rfl
theorem dX0_limited_20 : decode cX0_limited 20 = .ok (.lreturn, 1) := dAt (x := (20, .lreturn, 1)) DX0_limited_0 11 rfl
def lDX0_worthOf_0 : List (Nat × Instr × Nat) := [(0, .aload_n 1, 1), (1, .iload_n 3, 1), (2, .invokevirtual 139, 3), (5, .ifCond .ne 7, 3), (8, .ldc2_w 120, 3), (11, .lreturn, 1), (12, .aload_n 0, 1), (13, .getfield 12, 3), (16, .aload_n 2, 1), (17, .iload 4, 2), (19, .invokevirtual 142, 3), (22, .aload_n 1, 1), (23, .getfield 146, 3), (26, .aload_n 1, 1), (27, .getfield 150, 3), (30, .iconst 2, 1), (31, .iload_n 3, 1), (32, .imul, 1), (33, .iaload, 1), (34, .aload_n 1, 1), (35, .getfield 150, 3), (38, .iconst 2, 1), (39, .iload_n 3, 1), (40, .imul, 1), (41, .iconst 1, 1), (42, .iadd, 1), (43, .iaload, 1), (44, .aload_n 0, 1), (45, .getfield 12, 3), (48, .invokevirtual 153, 3), (51, .lreturn, 1)]
theorem DX0_worthOf_0 : dAll cX0_worthOf lDX0_worthOf_0 = true := by decide +kernel
theorem dX0_worthOf_0 : decode cX0_worthOf 0 = .ok (.aload_n 1, 1) := dAt (x := (0, .aload_n 1, 1)) DX0_worthOf_0 0 rfl
theorem dX0_worthOf_1 : decode cX0_worthOf 1 = .ok (.iload_n 3, 1) := dAt (x := (1, .iload_n 3, 1)) DX0_worthOf_0 1 rfl
theorem dX0_worthOf_2 : decode cX0_worthOf 2 = .ok (.invokevirtual 139, 3) := dAt (x := (2, .invokevirtual 139, 3)) DX0_worthOf_0 2 rfl
theorem dX0_worthOf_5 : decode cX0_worthOf 5 = .ok (.ifCond .ne 7, 3) := dAt (x := (5, .ifCond .ne 7, 3)) DX0_worthOf_0 3 rfl
theorem dX0_worthOf_8 : decode cX0_worthOf 8 = .ok (.ldc2_w 120, 3) := dAt (x := (8, .ldc2_w 120, 3)) DX0_worthOf_0 4 rfl
theorem dX0_worthOf_11 : decode cX0_worthOf 11 = .ok (.lreturn, 1) := dAt (x := (11, .lreturn, 1)) DX0_worthOf_0 5 rfl
theorem dX0_worthOf_12 : decode cX0_worthOf 12 = .ok (.aload_n 0, 1) := dAt (x := (12, .aload_n 0, 1)) DX0_worthOf_0 6 rfl
theorem dX0_worthOf_13 : decode cX0_worthOf 13 = .ok (.getfield 12, 3) := dAt (x := (13, .getfield 12, 3)) DX0_worthOf_0 7 rfl
theorem dX0_worthOf_16 : decode cX0_worthOf 16 = .ok (.aload_n 2, 1) := dAt (x := (16, .aload_n 2, 1)) DX0_worthOf_0 8 rfl
theorem dX0_worthOf_17 : decode cX0_worthOf 17 = .ok (.iload 4, 2) := dAt (x := (17, .iload 4, 2)) DX0_worthOf_0 9 rfl
theorem dX0_worthOf_19 : decode cX0_worthOf 19 = .ok (.invokevirtual 142, 3) := dAt (x := (19, .invokevirtual 142, 3)) DX0_worthOf_0 10 rfl
theorem dX0_worthOf_22 : decode cX0_worthOf 22 = .ok (.aload_n 1, 1) := dAt (x := (22, .aload_n 1, 1)) DX0_worthOf_0 11 rfl
theorem dX0_worthOf_23 : decode cX0_worthOf 23 = .ok (.getfield 146, 3) := dAt (x := (23, .getfield 146, 3)) DX0_worthOf_0 12 rfl
theorem dX0_worthOf_26 : decode cX0_worthOf 26 = .ok (.aload_n 1, 1) := dAt (x := (26, .aload_n 1, 1)) DX0_worthOf_0 13 rfl
theorem dX0_worthOf_27 : decode cX0_worthOf 27 = .ok (.getfield 150, 3) := dAt (x := (27, .getfield 150, 3)) DX0_worthOf_0 14 rfl
theorem dX0_worthOf_30 : decode cX0_worthOf 30 = .ok (.iconst 2, 1) := dAt (x := (30, .iconst 2, 1)) DX0_worthOf_0 15 rfl
theorem dX0_worthOf_31 : decode cX0_worthOf 31 = .ok (.iload_n 3, 1) := dAt (x := (31, .iload_n 3, 1)) DX0_worthOf_0 16 rfl
theorem dX0_worthOf_32 : decode cX0_worthOf 32 = .ok (.imul, 1) := dAt (x := (32, .imul, 1)) DX0_worthOf_0 17 rfl
theorem dX0_worthOf_33 : decode cX0_worthOf 33 = .ok (.iaload, 1) := dAt (x := (33, .iaload, 1)) DX0_worthOf_0 18 rfl
theorem dX0_worthOf_34 : decode cX0_worthOf 34 = .ok (.aload_n 1, 1) := dAt (x := (34, .aload_n 1, 1)) DX0_worthOf_0 19 rfl
theorem dX0_worthOf_35 : decode cX0_worthOf 35 = .ok (.getfield 150, 3) := dAt (x := (35, .getfield 150, 3)) DX0_worthOf_0 20 rfl
theorem dX0_worthOf_38 : decode cX0_worthOf 38 = .ok (.iconst 2, 1) := dAt (x := (38, .iconst 2, 1)) DX0_worthOf_0 21 rfl
theorem dX0_worthOf_39 : decode cX0_worthOf 39 = .ok (.iload_n 3, 1) := dAt (x := (39, .iload_n 3, 1)) DX0_worthOf_0 22 rfl
theorem dX0_worthOf_40 : decode cX0_worthOf 40 = .ok (.imul, 1) := dAt (x := (40, .imul, 1)) DX0_worthOf_0 23 rfl
theorem dX0_worthOf_41 : decode cX0_worthOf 41 = .ok (.iconst 1, 1) := dAt (x := (41, .iconst 1, 1)) DX0_worthOf_0 24 rfl
theorem dX0_worthOf_42 : decode cX0_worthOf 42 = .ok (.iadd, 1) := dAt (x := (42, .iadd, 1)) DX0_worthOf_0 25 rfl
theorem dX0_worthOf_43 : decode cX0_worthOf 43 = .ok (.iaload, 1) := dAt (x := (43, .iaload, 1)) DX0_worthOf_0 26 rfl
theorem dX0_worthOf_44 : decode cX0_worthOf 44 = .ok (.aload_n 0, 1) := dAt (x := (44, .aload_n 0, 1)) DX0_worthOf_0 27 rfl
theorem dX0_worthOf_45 : decode cX0_worthOf 45 = .ok (.getfield 12, 3) := dAt (x := (45, .getfield 12, 3)) DX0_worthOf_0 28 rfl
theorem dX0_worthOf_48 : decode cX0_worthOf 48 = .ok (.invokevirtual 153, 3) := dAt (x := (48, .invokevirtual 153, 3)) DX0_worthOf_0 29 rfl
theorem dX0_worthOf_51 : decode cX0_worthOf 51 = .ok (.lreturn, 1) := dAt (x := (51, .lreturn, 1)) DX0_worthOf_0 30 rfl
def lDX1_init_0 : List (Nat × Instr × Nat) := [(0, .aload_n 0, 1), (1, .invokespecial 3, 3), (4, .aload_n 0, 1), (5, .bipush 8, 2), (7, .newarray .int, 2), (9, .putfield 9, 3), (12, .aload_n 0, 1), (13, .bipush 8, 2), (15, .newarray .int, 2), (17, .putfield 15, 3), (20, .aload_n 0, 1), (21, .bipush 16, 2), (23, .newarray .int, 2), (25, .putfield 18, 3), (28, .aload_n 0, 1), (29, .bipush 8, 2), (31, .newarray .int, 2), (33, .putfield 21, 3), (36, .aload_n 0, 1), (37, .sipush 256, 3), (40, .newarray .int, 2), (42, .putfield 24, 3), (45, .aload_n 0, 1), (46, .bipush 16, 2), (48, .newarray .int, 2), (50, .putfield 27, 3), (53, .aload_n 0, 1), (54, .bipush 16, 2), (56, .newarray .int, 2), (58, .putfield 30, 3), (61, .aload_n 0, 1), (62, .iconst 4, 1), (63, .newarray .int, 2), (65, .putfield 33, 3), (68, .aload_n 0, 1), (69, .bipush 6, 2), (71, .newarray .int, 2), (73, .putfield 36, 3), (76, .aload_n 0, 1), (77, .new 39, 3), (80, .dup, 1), (81, .invokespecial 41, 3), (84, .putfield 42, 3), (87, .aload_n 0, 1), (88, .new 46, 3), (91, .dup, 1), (92, .invokespecial 48, 3), (95, .putfield 49, 3), (98, .return_, 1)]
theorem DX1_init_0 : dAll cX1_init lDX1_init_0 = true := by decide +kernel
theorem dX1_init_0 : decode cX1_init 0 = .ok (.aload_n 0, 1) := dAt (x := (0, .aload_n 0, 1)) DX1_init_0 0 rfl
theorem dX1_init_1 : decode cX1_init 1 = .ok (.invokespecial 3, 3) := dAt (x := (1, .invokespecial 3, 3)) DX1_init_0 1 rfl
theorem dX1_init_4 : decode cX1_init 4 = .ok (.aload_n 0, 1) := dAt (x := (4, .aload_n 0, 1)) DX1_init_0 2 rfl
theorem dX1_init_5 : decode cX1_init 5 = .ok (.bipush 8, 2) := dAt (x := (5, .bipush 8, 2)) DX1_init_0 3 rfl
theorem dX1_init_7 : decode cX1_init 7 = .ok (.newarray .int, 2) := dAt (x := (7, .newarray .int, 2)) DX1_init_0 4 rfl
theorem dX1_init_9 : decode cX1_init 9 = .ok (.putfield 9, 3) := dAt (x := (9, .putfield 9, 3)) DX1_init_0 5 rfl
theorem dX1_init_12 : decode cX1_init 12 = .ok (.aload_n 0, 1) := dAt (x := (12, .aload_n 0, 1)) DX1_init_0 6 rfl
theorem dX1_init_13 : decode cX1_init 13 = .ok (.bipush 8, 2) := dAt (x := (13, .bipush 8, 2)) DX1_init_0 7 rfl
theorem dX1_init_15 : decode cX1_init 15 = .ok (.newarray .int, 2) := dAt (x := (15, .newarray .int, 2)) DX1_init_0 8 rfl
theorem dX1_init_17 : decode cX1_init 17 = .ok (.putfield 15, 3) := dAt (x := (17, .putfield 15, 3)) DX1_init_0 9 rfl
theorem dX1_init_20 : decode cX1_init 20 = .ok (.aload_n 0, 1) := dAt (x := (20, .aload_n 0, 1)) DX1_init_0 10 rfl
theorem dX1_init_21 : decode cX1_init 21 = .ok (.bipush 16, 2) := dAt (x := (21, .bipush 16, 2)) DX1_init_0 11 rfl
theorem dX1_init_23 : decode cX1_init 23 = .ok (.newarray .int, 2) := dAt (x := (23, .newarray .int, 2)) DX1_init_0 12 rfl
theorem dX1_init_25 : decode cX1_init 25 = .ok (.putfield 18, 3) := dAt (x := (25, .putfield 18, 3)) DX1_init_0 13 rfl
theorem dX1_init_28 : decode cX1_init 28 = .ok (.aload_n 0, 1) := dAt (x := (28, .aload_n 0, 1)) DX1_init_0 14 rfl
theorem dX1_init_29 : decode cX1_init 29 = .ok (.bipush 8, 2) := dAt (x := (29, .bipush 8, 2)) DX1_init_0 15 rfl
theorem dX1_init_31 : decode cX1_init 31 = .ok (.newarray .int, 2) := dAt (x := (31, .newarray .int, 2)) DX1_init_0 16 rfl
theorem dX1_init_33 : decode cX1_init 33 = .ok (.putfield 21, 3) := dAt (x := (33, .putfield 21, 3)) DX1_init_0 17 rfl
theorem dX1_init_36 : decode cX1_init 36 = .ok (.aload_n 0, 1) := dAt (x := (36, .aload_n 0, 1)) DX1_init_0 18 rfl
theorem dX1_init_37 : decode cX1_init 37 = .ok (.sipush 256, 3) := dAt (x := (37, .sipush 256, 3)) DX1_init_0 19 rfl
theorem dX1_init_40 : decode cX1_init 40 = .ok (.newarray .int, 2) := dAt (x := (40, .newarray .int, 2)) DX1_init_0 20 rfl
theorem dX1_init_42 : decode cX1_init 42 = .ok (.putfield 24, 3) := dAt (x := (42, .putfield 24, 3)) DX1_init_0 21 rfl
theorem dX1_init_45 : decode cX1_init 45 = .ok (.aload_n 0, 1) := dAt (x := (45, .aload_n 0, 1)) DX1_init_0 22 rfl
theorem dX1_init_46 : decode cX1_init 46 = .ok (.bipush 16, 2) := dAt (x := (46, .bipush 16, 2)) DX1_init_0 23 rfl
theorem dX1_init_48 : decode cX1_init 48 = .ok (.newarray .int, 2) := dAt (x := (48, .newarray .int, 2)) DX1_init_0 24 rfl
theorem dX1_init_50 : decode cX1_init 50 = .ok (.putfield 27, 3) := dAt (x := (50, .putfield 27, 3)) DX1_init_0 25 rfl
theorem dX1_init_53 : decode cX1_init 53 = .ok (.aload_n 0, 1) := dAt (x := (53, .aload_n 0, 1)) DX1_init_0 26 rfl
theorem dX1_init_54 : decode cX1_init 54 = .ok (.bipush 16, 2) := dAt (x := (54, .bipush 16, 2)) DX1_init_0 27 rfl
theorem dX1_init_56 : decode cX1_init 56 = .ok (.newarray .int, 2) := dAt (x := (56, .newarray .int, 2)) DX1_init_0 28 rfl
theorem dX1_init_58 : decode cX1_init 58 = .ok (.putfield 30, 3) := dAt (x := (58, .putfield 30, 3)) DX1_init_0 29 rfl
theorem dX1_init_61 : decode cX1_init 61 = .ok (.aload_n 0, 1) := dAt (x := (61, .aload_n 0, 1)) DX1_init_0 30 rfl
theorem dX1_init_62 : decode cX1_init 62 = .ok (.iconst 4, 1) := dAt (x := (62, .iconst 4, 1)) DX1_init_0 31 rfl
theorem dX1_init_63 : decode cX1_init 63 = .ok (.newarray .int, 2) := dAt (x := (63, .newarray .int, 2)) DX1_init_0 32 rfl
theorem dX1_init_65 : decode cX1_init 65 = .ok (.putfield 33, 3) := dAt (x := (65, .putfield 33, 3)) DX1_init_0 33 rfl
theorem dX1_init_68 : decode cX1_init 68 = .ok (.aload_n 0, 1) := dAt (x := (68, .aload_n 0, 1)) DX1_init_0 34 rfl
theorem dX1_init_69 : decode cX1_init 69 = .ok (.bipush 6, 2) := dAt (x := (69, .bipush 6, 2)) DX1_init_0 35 rfl
theorem dX1_init_71 : decode cX1_init 71 = .ok (.newarray .int, 2) := dAt (x := (71, .newarray .int, 2)) DX1_init_0 36 rfl
theorem dX1_init_73 : decode cX1_init 73 = .ok (.putfield 36, 3) := dAt (x := (73, .putfield 36, 3)) DX1_init_0 37 rfl
theorem dX1_init_76 : decode cX1_init 76 = .ok (.aload_n 0, 1) := dAt (x := (76, .aload_n 0, 1)) DX1_init_0 38 rfl
theorem dX1_init_77 : decode cX1_init 77 = .ok (.new 39, 3) := dAt (x := (77, .new 39, 3)) DX1_init_0 39 rfl
theorem dX1_init_80 : decode cX1_init 80 = .ok (.dup, 1) := dAt (x := (80, .dup, 1)) DX1_init_0 40 rfl
theorem dX1_init_81 : decode cX1_init 81 = .ok (.invokespecial 41, 3) := dAt (x := (81, .invokespecial 41, 3)) DX1_init_0 41 rfl
theorem dX1_init_84 : decode cX1_init 84 = .ok (.putfield 42, 3) := dAt (x := (84, .putfield 42, 3)) DX1_init_0 42 rfl
theorem dX1_init_87 : decode cX1_init 87 = .ok (.aload_n 0, 1) := dAt (x := (87, .aload_n 0, 1)) DX1_init_0 43 rfl
theorem dX1_init_88 : decode cX1_init 88 = .ok (.new 46, 3) := dAt (x := (88, .new 46, 3)) DX1_init_0 44 rfl
theorem dX1_init_91 : decode cX1_init 91 = .ok (.dup, 1) := dAt (x := (91, .dup, 1)) DX1_init_0 45 rfl
theorem dX1_init_92 : decode cX1_init 92 = .ok (.invokespecial 48, 3) := dAt (x := (92, .invokespecial 48, 3)) DX1_init_0 46 rfl
theorem dX1_init_95 : decode cX1_init 95 = .ok (.putfield 49, 3) := dAt (x := (95, .putfield 49, 3)) DX1_init_0 47 rfl
theorem dX1_init_98 : decode cX1_init 98 = .ok (.return_, 1) := dAt (x := (98, .return_, 1)) DX1_init_0 48 rfl
def lDX1_clear_0 : List (Nat × Instr × Nat) := [(0, .aload_n 0, 1), (1, .iconst 0, 1), (2, .putfield 53, 3), (5, .aload_n 0, 1), (6, .iconst 0, 1), (7, .putfield 57, 3), (10, .aload_n 0, 1), (11, .iconst 0, 1), (12, .putfield 60, 3), (15, .aload_n 0, 1), (16, .iconst 0, 1), (17, .putfield 63, 3), (20, .aload_n 0, 1), (21, .iconst 0, 1), (22, .putfield 66, 3), (25, .aload_n 0, 1), (26, .getfield 21, 3), (29, .iconst 0, 1), (30, .invokestatic 69, 3), (33, .aload_n 0, 1), (34, .iconst 0, 1), (35, .putfield 75, 3), (38, .aload_n 0, 1), (39, .iconst 0, 1), (40, .putfield 78, 3), (43, .aload_n 0, 1), (44, .iconst 0, 1), (45, .putfield 81, 3), (48, .aload_n 0, 1), (49, .iconst 0, 1), (50, .putfield 84, 3), (53, .aload_n 0, 1), (54, .getfield 36, 3), (57, .iconst 0, 1), (58, .invokestatic 69, 3), (61, .aload_n 0, 1), (62, .getfield 42, 3), (65, .iconst 0, 1), (66, .putfield 87, 3), (69, .return_, 1)]
theorem DX1_clear_0 : dAll cX1_clear lDX1_clear_0 = true := by decide +kernel
theorem dX1_clear_0 : decode cX1_clear 0 = .ok (.aload_n 0, 1) := dAt (x := (0, .aload_n 0, 1)) DX1_clear_0 0 rfl
theorem dX1_clear_1 : decode cX1_clear 1 = .ok (.iconst 0, 1) := dAt (x := (1, .iconst 0, 1)) DX1_clear_0 1 rfl
theorem dX1_clear_2 : decode cX1_clear 2 = .ok (.putfield 53, 3) := dAt (x := (2, .putfield 53, 3)) DX1_clear_0 2 rfl
theorem dX1_clear_5 : decode cX1_clear 5 = .ok (.aload_n 0, 1) := dAt (x := (5, .aload_n 0, 1)) DX1_clear_0 3 rfl
theorem dX1_clear_6 : decode cX1_clear 6 = .ok (.iconst 0, 1) := dAt (x := (6, .iconst 0, 1)) DX1_clear_0 4 rfl
theorem dX1_clear_7 : decode cX1_clear 7 = .ok (.putfield 57, 3) := dAt (x := (7, .putfield 57, 3)) DX1_clear_0 5 rfl
theorem dX1_clear_10 : decode cX1_clear 10 = .ok (.aload_n 0, 1) := dAt (x := (10, .aload_n 0, 1)) DX1_clear_0 6 rfl
theorem dX1_clear_11 : decode cX1_clear 11 = .ok (.iconst 0, 1) := dAt (x := (11, .iconst 0, 1)) DX1_clear_0 7 rfl
theorem dX1_clear_12 : decode cX1_clear 12 = .ok (.putfield 60, 3) := dAt (x := (12, .putfield 60, 3)) DX1_clear_0 8 rfl
theorem dX1_clear_15 : decode cX1_clear 15 = .ok (.aload_n 0, 1) := dAt (x := (15, .aload_n 0, 1)) DX1_clear_0 9 rfl
theorem dX1_clear_16 : decode cX1_clear 16 = .ok (.iconst 0, 1) := dAt (x := (16, .iconst 0, 1)) DX1_clear_0 10 rfl
theorem dX1_clear_17 : decode cX1_clear 17 = .ok (.putfield 63, 3) := dAt (x := (17, .putfield 63, 3)) DX1_clear_0 11 rfl
theorem dX1_clear_20 : decode cX1_clear 20 = .ok (.aload_n 0, 1) := dAt (x := (20, .aload_n 0, 1)) DX1_clear_0 12 rfl
theorem dX1_clear_21 : decode cX1_clear 21 = .ok (.iconst 0, 1) := dAt (x := (21, .iconst 0, 1)) DX1_clear_0 13 rfl
theorem dX1_clear_22 : decode cX1_clear 22 = .ok (.putfield 66, 3) := dAt (x := (22, .putfield 66, 3)) DX1_clear_0 14 rfl
theorem dX1_clear_25 : decode cX1_clear 25 = .ok (.aload_n 0, 1) := dAt (x := (25, .aload_n 0, 1)) DX1_clear_0 15 rfl
theorem dX1_clear_26 : decode cX1_clear 26 = .ok (.getfield 21, 3) := dAt (x := (26, .getfield 21, 3)) DX1_clear_0 16 rfl
theorem dX1_clear_29 : decode cX1_clear 29 = .ok (.iconst 0, 1) := dAt (x := (29, .iconst 0, 1)) DX1_clear_0 17 rfl
theorem dX1_clear_30 : decode cX1_clear 30 = .ok (.invokestatic 69, 3) := dAt (x := (30, .invokestatic 69, 3)) DX1_clear_0 18 rfl
theorem dX1_clear_33 : decode cX1_clear 33 = .ok (.aload_n 0, 1) := dAt (x := (33, .aload_n 0, 1)) DX1_clear_0 19 rfl
theorem dX1_clear_34 : decode cX1_clear 34 = .ok (.iconst 0, 1) := dAt (x := (34, .iconst 0, 1)) DX1_clear_0 20 rfl
theorem dX1_clear_35 : decode cX1_clear 35 = .ok (.putfield 75, 3) := dAt (x := (35, .putfield 75, 3)) DX1_clear_0 21 rfl
theorem dX1_clear_38 : decode cX1_clear 38 = .ok (.aload_n 0, 1) := dAt (x := (38, .aload_n 0, 1)) DX1_clear_0 22 rfl
theorem dX1_clear_39 : decode cX1_clear 39 = .ok (.iconst 0, 1) := dAt (x := (39, .iconst 0, 1)) DX1_clear_0 23 rfl
theorem dX1_clear_40 : decode cX1_clear 40 = .ok (.putfield 78, 3) := dAt (x := (40, .putfield 78, 3)) DX1_clear_0 24 rfl
theorem dX1_clear_43 : decode cX1_clear 43 = .ok (.aload_n 0, 1) := dAt (x := (43, .aload_n 0, 1)) DX1_clear_0 25 rfl
theorem dX1_clear_44 : decode cX1_clear 44 = .ok (.iconst 0, 1) := dAt (x := (44, .iconst 0, 1)) DX1_clear_0 26 rfl
theorem dX1_clear_45 : decode cX1_clear 45 = .ok (.putfield 81, 3) := dAt (x := (45, .putfield 81, 3)) DX1_clear_0 27 rfl
theorem dX1_clear_48 : decode cX1_clear 48 = .ok (.aload_n 0, 1) := dAt (x := (48, .aload_n 0, 1)) DX1_clear_0 28 rfl
theorem dX1_clear_49 : decode cX1_clear 49 = .ok (.iconst 0, 1) := dAt (x := (49, .iconst 0, 1)) DX1_clear_0 29 rfl
theorem dX1_clear_50 : decode cX1_clear 50 = .ok (.putfield 84, 3) := dAt (x := (50, .putfield 84, 3)) DX1_clear_0 30 rfl
theorem dX1_clear_53 : decode cX1_clear 53 = .ok (.aload_n 0, 1) := dAt (x := (53, .aload_n 0, 1)) DX1_clear_0 31 rfl
theorem dX1_clear_54 : decode cX1_clear 54 = .ok (.getfield 36, 3) := dAt (x := (54, .getfield 36, 3)) DX1_clear_0 32 rfl
theorem dX1_clear_57 : decode cX1_clear 57 = .ok (.iconst 0, 1) := dAt (x := (57, .iconst 0, 1)) DX1_clear_0 33 rfl
theorem dX1_clear_58 : decode cX1_clear 58 = .ok (.invokestatic 69, 3) := dAt (x := (58, .invokestatic 69, 3)) DX1_clear_0 34 rfl
theorem dX1_clear_61 : decode cX1_clear 61 = .ok (.aload_n 0, 1) := dAt (x := (61, .aload_n 0, 1)) DX1_clear_0 35 rfl
theorem dX1_clear_62 : decode cX1_clear 62 = .ok (.getfield 42, 3) := dAt (x := (62, .getfield 42, 3)) DX1_clear_0 36 rfl
theorem dX1_clear_65 : decode cX1_clear 65 = .ok (.iconst 0, 1) := dAt (x := (65, .iconst 0, 1)) DX1_clear_0 37 rfl
theorem dX1_clear_66 : decode cX1_clear 66 = .ok (.putfield 87, 3) := dAt (x := (66, .putfield 87, 3)) DX1_clear_0 38 rfl
theorem dX1_clear_69 : decode cX1_clear 69 = .ok (.return_, 1) := dAt (x := (69, .return_, 1)) DX1_clear_0 39 rfl
def lDX1_has_0 : List (Nat × Instr × Nat) := [(0, .iload_n 1, 1), (1, .ifCond .lt 21, 3), (4, .iload_n 1, 1), (5, .aload_n 0, 1), (6, .getfield 57, 3), (9, .if_icmp .ge 13, 3), (12, .iload_n 1, 1), (13, .bipush 8, 2), (15, .if_icmp .ge 7, 3), (18, .iconst 1, 1), (19, .goto 4, 3), (22, .iconst 0, 1), (23, .ireturn, 1)]
theorem DX1_has_0 : dAll cX1_has lDX1_has_0 = true := by decide +kernel
theorem dX1_has_0 : decode cX1_has 0 = .ok (.iload_n 1, 1) := dAt (x := (0, .iload_n 1, 1)) DX1_has_0 0 rfl
theorem dX1_has_1 : decode cX1_has 1 = .ok (.ifCond .lt 21, 3) := dAt (x := (1, .ifCond .lt 21, 3)) DX1_has_0 1 rfl
theorem dX1_has_4 : decode cX1_has 4 = .ok (.iload_n 1, 1) := dAt (x := (4, .iload_n 1, 1)) DX1_has_0 2 rfl
theorem dX1_has_5 : decode cX1_has 5 = .ok (.aload_n 0, 1) := dAt (x := (5, .aload_n 0, 1)) DX1_has_0 3 rfl
theorem dX1_has_6 : decode cX1_has 6 = .ok (.getfield 57, 3) := dAt (x := (6, .getfield 57, 3)) DX1_has_0 4 rfl
theorem dX1_has_9 : decode cX1_has 9 = .ok (.if_icmp .ge 13, 3) := dAt (x := (9, .if_icmp .ge 13, 3)) DX1_has_0 5 rfl
theorem dX1_has_12 : decode cX1_has 12 = .ok (.iload_n 1, 1) := dAt (x := (12, .iload_n 1, 1)) DX1_has_0 6 rfl
theorem dX1_has_13 : decode cX1_has 13 = .ok (.bipush 8, 2) := dAt (x := (13, .bipush 8, 2)) DX1_has_0 7 rfl
theorem dX1_has_15 : decode cX1_has 15 = .ok (.if_icmp .ge 7, 3) := dAt (x := (15, .if_icmp .ge 7, 3)) DX1_has_0 8 rfl
theorem dX1_has_18 : decode cX1_has 18 = .ok (.iconst 1, 1) := dAt (x := (18, .iconst 1, 1)) DX1_has_0 9 rfl
theorem dX1_has_19 : decode cX1_has 19 = .ok (.goto 4, 3) := dAt (x := (19, .goto 4, 3)) DX1_has_0 10 rfl
theorem dX1_has_22 : decode cX1_has 22 = .ok (.iconst 0, 1) := dAt (x := (22, .iconst 0, 1)) DX1_has_0 11 rfl
theorem dX1_has_23 : decode cX1_has 23 = .ok (.ireturn, 1) := dAt (x := (23, .ireturn, 1)) DX1_has_0 12 rfl
def lDX1_hasRow_0 : List (Nat × Instr × Nat) := [(0, .iload_n 1, 1), (1, .ifCond .lt 24, 3), (4, .iload_n 1, 1), (5, .iconst 1, 1), (6, .aload_n 0, 1), (7, .getfield 57, 3), (10, .ishl, 1), (11, .if_icmp .ge 14, 3), (14, .iload_n 1, 1), (15, .sipush 256, 3), (18, .if_icmp .ge 7, 3), (21, .iconst 1, 1), (22, .goto 4, 3), (25, .iconst 0, 1), (26, .ireturn, 1)]
theorem DX1_hasRow_0 : dAll cX1_hasRow lDX1_hasRow_0 = true := by decide +kernel
theorem dX1_hasRow_0 : decode cX1_hasRow 0 = .ok (.iload_n 1, 1) := dAt (x := (0, .iload_n 1, 1)) DX1_hasRow_0 0 rfl
theorem dX1_hasRow_1 : decode cX1_hasRow 1 = .ok (.ifCond .lt 24, 3) := dAt (x := (1, .ifCond .lt 24, 3)) DX1_hasRow_0 1 rfl
theorem dX1_hasRow_4 : decode cX1_hasRow 4 = .ok (.iload_n 1, 1) := dAt (x := (4, .iload_n 1, 1)) DX1_hasRow_0 2 rfl
theorem dX1_hasRow_5 : decode cX1_hasRow 5 = .ok (.iconst 1, 1) := dAt (x := (5, .iconst 1, 1)) DX1_hasRow_0 3 rfl
theorem dX1_hasRow_6 : decode cX1_hasRow 6 = .ok (.aload_n 0, 1) := dAt (x := (6, .aload_n 0, 1)) DX1_hasRow_0 4 rfl
theorem dX1_hasRow_7 : decode cX1_hasRow 7 = .ok (.getfield 57, 3) := dAt (x := (7, .getfield 57, 3)) DX1_hasRow_0 5 rfl
theorem dX1_hasRow_10 : decode cX1_hasRow 10 = .ok (.ishl, 1) := dAt (x := (10, .ishl, 1)) DX1_hasRow_0 6 rfl
theorem dX1_hasRow_11 : decode cX1_hasRow 11 = .ok (.if_icmp .ge 14, 3) := dAt (x := (11, .if_icmp .ge 14, 3)) DX1_hasRow_0 7 rfl
theorem dX1_hasRow_14 : decode cX1_hasRow 14 = .ok (.iload_n 1, 1) := dAt (x := (14, .iload_n 1, 1)) DX1_hasRow_0 8 rfl
theorem dX1_hasRow_15 : decode cX1_hasRow 15 = .ok (.sipush 256, 3) := dAt (x := (15, .sipush 256, 3)) DX1_hasRow_0 9 rfl
theorem dX1_hasRow_18 : decode cX1_hasRow 18 = .ok (.if_icmp .ge 7, 3) := dAt (x := (18, .if_icmp .ge 7, 3)) DX1_hasRow_0 10 rfl
theorem dX1_hasRow_21 : decode cX1_hasRow 21 = .ok (.iconst 1, 1) := dAt (x := (21, .iconst 1, 1)) DX1_hasRow_0 11 rfl
theorem dX1_hasRow_22 : decode cX1_hasRow 22 = .ok (.goto 4, 3) := dAt (x := (22, .goto 4, 3)) DX1_hasRow_0 12 rfl
theorem dX1_hasRow_25 : decode cX1_hasRow 25 = .ok (.iconst 0, 1) := dAt (x := (25, .iconst 0, 1)) DX1_hasRow_0 13 rfl
theorem dX1_hasRow_26 : decode cX1_hasRow 26 = .ok (.ireturn, 1) := dAt (x := (26, .ireturn, 1)) DX1_hasRow_0 14 rfl
def lDX1_numberOf_0 : List (Nat × Instr × Nat) := [(0, .iconst 0, 1), (1, .istore_n 2, 1), (2, .iload_n 2, 1), (3, .aload_n 0, 1), (4, .getfield 57, 3), (7, .if_icmp .ge 27, 3), (10, .iload_n 2, 1), (11, .bipush 8, 2), (13, .if_icmp .ge 21, 3), (16, .aload_n 0, 1), (17, .getfield 9, 3), (20, .iload_n 2, 1), (21, .iaload, 1), (22, .iload_n 1, 1), (23, .if_icmp .ne 5, 3), (26, .iload_n 2, 1), (27, .ireturn, 1), (28, .iinc 2 1, 3), (31, .goto (-29), 3), (34, .iconst (-1), 1), (35, .ireturn, 1)]
theorem DX1_numberOf_0 : dAll cX1_numberOf lDX1_numberOf_0 = true := by decide +kernel
theorem dX1_numberOf_0 : decode cX1_numberOf 0 = .ok (.iconst 0, 1) := dAt (x := (0, .iconst 0, 1)) DX1_numberOf_0 0 rfl
theorem dX1_numberOf_1 : decode cX1_numberOf 1 = .ok (.istore_n 2, 1) := dAt (x := (1, .istore_n 2, 1)) DX1_numberOf_0 1 rfl
theorem dX1_numberOf_2 : decode cX1_numberOf 2 = .ok (.iload_n 2, 1) := dAt (x := (2, .iload_n 2, 1)) DX1_numberOf_0 2 rfl
theorem dX1_numberOf_3 : decode cX1_numberOf 3 = .ok (.aload_n 0, 1) := dAt (x := (3, .aload_n 0, 1)) DX1_numberOf_0 3 rfl
theorem dX1_numberOf_4 : decode cX1_numberOf 4 = .ok (.getfield 57, 3) := dAt (x := (4, .getfield 57, 3)) DX1_numberOf_0 4 rfl
theorem dX1_numberOf_7 : decode cX1_numberOf 7 = .ok (.if_icmp .ge 27, 3) := dAt (x := (7, .if_icmp .ge 27, 3)) DX1_numberOf_0 5 rfl
theorem dX1_numberOf_10 : decode cX1_numberOf 10 = .ok (.iload_n 2, 1) := dAt (x := (10, .iload_n 2, 1)) DX1_numberOf_0 6 rfl
theorem dX1_numberOf_11 : decode cX1_numberOf 11 = .ok (.bipush 8, 2) := dAt (x := (11, .bipush 8, 2)) DX1_numberOf_0 7 rfl
theorem dX1_numberOf_13 : decode cX1_numberOf 13 = .ok (.if_icmp .ge 21, 3) := dAt (x := (13, .if_icmp .ge 21, 3)) DX1_numberOf_0 8 rfl
theorem dX1_numberOf_16 : decode cX1_numberOf 16 = .ok (.aload_n 0, 1) := dAt (x := (16, .aload_n 0, 1)) DX1_numberOf_0 9 rfl
theorem dX1_numberOf_17 : decode cX1_numberOf 17 = .ok (.getfield 9, 3) := dAt (x := (17, .getfield 9, 3)) DX1_numberOf_0 10 rfl
theorem dX1_numberOf_20 : decode cX1_numberOf 20 = .ok (.iload_n 2, 1) := dAt (x := (20, .iload_n 2, 1)) DX1_numberOf_0 11 rfl
theorem dX1_numberOf_21 : decode cX1_numberOf 21 = .ok (.iaload, 1) := dAt (x := (21, .iaload, 1)) DX1_numberOf_0 12 rfl
theorem dX1_numberOf_22 : decode cX1_numberOf 22 = .ok (.iload_n 1, 1) := dAt (x := (22, .iload_n 1, 1)) DX1_numberOf_0 13 rfl
theorem dX1_numberOf_23 : decode cX1_numberOf 23 = .ok (.if_icmp .ne 5, 3) := dAt (x := (23, .if_icmp .ne 5, 3)) DX1_numberOf_0 14 rfl
theorem dX1_numberOf_26 : decode cX1_numberOf 26 = .ok (.iload_n 2, 1) := dAt (x := (26, .iload_n 2, 1)) DX1_numberOf_0 15 rfl
theorem dX1_numberOf_27 : decode cX1_numberOf 27 = .ok (.ireturn, 1) := dAt (x := (27, .ireturn, 1)) DX1_numberOf_0 16 rfl
theorem dX1_numberOf_28 : decode cX1_numberOf 28 = .ok (.iinc 2 1, 3) := dAt (x := (28, .iinc 2 1, 3)) DX1_numberOf_0 17 rfl
theorem dX1_numberOf_31 : decode cX1_numberOf 31 = .ok (.goto (-29), 3) := dAt (x := (31, .goto (-29), 3)) DX1_numberOf_0 18 rfl
theorem dX1_numberOf_34 : decode cX1_numberOf 34 = .ok (.iconst (-1), 1) := dAt (x := (34, .iconst (-1), 1)) DX1_numberOf_0 19 rfl
theorem dX1_numberOf_35 : decode cX1_numberOf 35 = .ok (.ireturn, 1) := dAt (x := (35, .ireturn, 1)) DX1_numberOf_0 20 rfl
def lDX1_addLatch_0 : List (Nat × Instr × Nat) := [(0, .aload_n 0, 1), (1, .getfield 57, 3), (4, .bipush 8, 2), (6, .if_icmp .ge 38, 3), (9, .aload_n 0, 1), (10, .getfield 9, 3), (13, .aload_n 0, 1), (14, .getfield 57, 3), (17, .iload_n 1, 1), (18, .iastore, 1), (19, .aload_n 0, 1), (20, .dup, 1), (21, .getfield 60, 3), (24, .iload_n 2, 1), (25, .aload_n 0, 1), (26, .getfield 57, 3), (29, .ishl, 1), (30, .ior, 1), (31, .putfield 60, 3), (34, .aload_n 0, 1), (35, .dup, 1), (36, .getfield 57, 3), (39, .iconst 1, 1), (40, .iadd, 1), (41, .putfield 57, 3), (44, .return_, 1)]
theorem DX1_addLatch_0 : dAll cX1_addLatch lDX1_addLatch_0 = true := by decide +kernel
theorem dX1_addLatch_0 : decode cX1_addLatch 0 = .ok (.aload_n 0, 1) := dAt (x := (0, .aload_n 0, 1)) DX1_addLatch_0 0 rfl
theorem dX1_addLatch_1 : decode cX1_addLatch 1 = .ok (.getfield 57, 3) := dAt (x := (1, .getfield 57, 3)) DX1_addLatch_0 1 rfl
theorem dX1_addLatch_4 : decode cX1_addLatch 4 = .ok (.bipush 8, 2) := dAt (x := (4, .bipush 8, 2)) DX1_addLatch_0 2 rfl
theorem dX1_addLatch_6 : decode cX1_addLatch 6 = .ok (.if_icmp .ge 38, 3) := dAt (x := (6, .if_icmp .ge 38, 3)) DX1_addLatch_0 3 rfl
theorem dX1_addLatch_9 : decode cX1_addLatch 9 = .ok (.aload_n 0, 1) := dAt (x := (9, .aload_n 0, 1)) DX1_addLatch_0 4 rfl
theorem dX1_addLatch_10 : decode cX1_addLatch 10 = .ok (.getfield 9, 3) := dAt (x := (10, .getfield 9, 3)) DX1_addLatch_0 5 rfl
theorem dX1_addLatch_13 : decode cX1_addLatch 13 = .ok (.aload_n 0, 1) := dAt (x := (13, .aload_n 0, 1)) DX1_addLatch_0 6 rfl
theorem dX1_addLatch_14 : decode cX1_addLatch 14 = .ok (.getfield 57, 3) := dAt (x := (14, .getfield 57, 3)) DX1_addLatch_0 7 rfl
theorem dX1_addLatch_17 : decode cX1_addLatch 17 = .ok (.iload_n 1, 1) := dAt (x := (17, .iload_n 1, 1)) DX1_addLatch_0 8 rfl
theorem dX1_addLatch_18 : decode cX1_addLatch 18 = .ok (.iastore, 1) := dAt (x := (18, .iastore, 1)) DX1_addLatch_0 9 rfl
theorem dX1_addLatch_19 : decode cX1_addLatch 19 = .ok (.aload_n 0, 1) := dAt (x := (19, .aload_n 0, 1)) DX1_addLatch_0 10 rfl
theorem dX1_addLatch_20 : decode cX1_addLatch 20 = .ok (.dup, 1) := dAt (x := (20, .dup, 1)) DX1_addLatch_0 11 rfl
theorem dX1_addLatch_21 : decode cX1_addLatch 21 = .ok (.getfield 60, 3) := dAt (x := (21, .getfield 60, 3)) DX1_addLatch_0 12 rfl
theorem dX1_addLatch_24 : decode cX1_addLatch 24 = .ok (.iload_n 2, 1) := dAt (x := (24, .iload_n 2, 1)) DX1_addLatch_0 13 rfl
theorem dX1_addLatch_25 : decode cX1_addLatch 25 = .ok (.aload_n 0, 1) := dAt (x := (25, .aload_n 0, 1)) DX1_addLatch_0 14 rfl
theorem dX1_addLatch_26 : decode cX1_addLatch 26 = .ok (.getfield 57, 3) := dAt (x := (26, .getfield 57, 3)) DX1_addLatch_0 15 rfl
theorem dX1_addLatch_29 : decode cX1_addLatch 29 = .ok (.ishl, 1) := dAt (x := (29, .ishl, 1)) DX1_addLatch_0 16 rfl
theorem dX1_addLatch_30 : decode cX1_addLatch 30 = .ok (.ior, 1) := dAt (x := (30, .ior, 1)) DX1_addLatch_0 17 rfl
theorem dX1_addLatch_31 : decode cX1_addLatch 31 = .ok (.putfield 60, 3) := dAt (x := (31, .putfield 60, 3)) DX1_addLatch_0 18 rfl
theorem dX1_addLatch_34 : decode cX1_addLatch 34 = .ok (.aload_n 0, 1) := dAt (x := (34, .aload_n 0, 1)) DX1_addLatch_0 19 rfl
theorem dX1_addLatch_35 : decode cX1_addLatch 35 = .ok (.dup, 1) := dAt (x := (35, .dup, 1)) DX1_addLatch_0 20 rfl
theorem dX1_addLatch_36 : decode cX1_addLatch 36 = .ok (.getfield 57, 3) := dAt (x := (36, .getfield 57, 3)) DX1_addLatch_0 21 rfl
theorem dX1_addLatch_39 : decode cX1_addLatch 39 = .ok (.iconst 1, 1) := dAt (x := (39, .iconst 1, 1)) DX1_addLatch_0 22 rfl
theorem dX1_addLatch_40 : decode cX1_addLatch 40 = .ok (.iadd, 1) := dAt (x := (40, .iadd, 1)) DX1_addLatch_0 23 rfl
theorem dX1_addLatch_41 : decode cX1_addLatch 41 = .ok (.putfield 57, 3) := dAt (x := (41, .putfield 57, 3)) DX1_addLatch_0 24 rfl
theorem dX1_addLatch_44 : decode cX1_addLatch 44 = .ok (.return_, 1) := dAt (x := (44, .return_, 1)) DX1_addLatch_0 25 rfl
def lDX1_doesLean_0 : List (Nat × Instr × Nat) := [(0, .iload_n 1, 1), (1, .ifCond .lt 24, 3), (4, .iload_n 1, 1), (5, .bipush 8, 2), (7, .if_icmp .ge 18, 3), (10, .aload_n 0, 1), (11, .getfield 66, 3), (14, .iload_n 1, 1), (15, .ishr, 1), (16, .iconst 1, 1), (17, .iand, 1), (18, .ifCond .eq 7, 3), (21, .iconst 1, 1), (22, .goto 4, 3), (25, .iconst 0, 1), (26, .ireturn, 1)]
theorem DX1_doesLean_0 : dAll cX1_doesLean lDX1_doesLean_0 = true := by decide +kernel
theorem dX1_doesLean_0 : decode cX1_doesLean 0 = .ok (.iload_n 1, 1) := dAt (x := (0, .iload_n 1, 1)) DX1_doesLean_0 0 rfl
theorem dX1_doesLean_1 : decode cX1_doesLean 1 = .ok (.ifCond .lt 24, 3) := dAt (x := (1, .ifCond .lt 24, 3)) DX1_doesLean_0 1 rfl
theorem dX1_doesLean_4 : decode cX1_doesLean 4 = .ok (.iload_n 1, 1) := dAt (x := (4, .iload_n 1, 1)) DX1_doesLean_0 2 rfl
theorem dX1_doesLean_5 : decode cX1_doesLean 5 = .ok (.bipush 8, 2) := dAt (x := (5, .bipush 8, 2)) DX1_doesLean_0 3 rfl
theorem dX1_doesLean_7 : decode cX1_doesLean 7 = .ok (.if_icmp .ge 18, 3) := dAt (x := (7, .if_icmp .ge 18, 3)) DX1_doesLean_0 4 rfl
theorem dX1_doesLean_10 : decode cX1_doesLean 10 = .ok (.aload_n 0, 1) := dAt (x := (10, .aload_n 0, 1)) DX1_doesLean_0 5 rfl
theorem dX1_doesLean_11 : decode cX1_doesLean 11 = .ok (.getfield 66, 3) := dAt (x := (11, .getfield 66, 3)) DX1_doesLean_0 6 rfl
theorem dX1_doesLean_14 : decode cX1_doesLean 14 = .ok (.iload_n 1, 1) := dAt (x := (14, .iload_n 1, 1)) DX1_doesLean_0 7 rfl
theorem dX1_doesLean_15 : decode cX1_doesLean 15 = .ok (.ishr, 1) := dAt (x := (15, .ishr, 1)) DX1_doesLean_0 8 rfl
theorem dX1_doesLean_16 : decode cX1_doesLean 16 = .ok (.iconst 1, 1) := dAt (x := (16, .iconst 1, 1)) DX1_doesLean_0 9 rfl
theorem dX1_doesLean_17 : decode cX1_doesLean 17 = .ok (.iand, 1) := dAt (x := (17, .iand, 1)) DX1_doesLean_0 10 rfl
theorem dX1_doesLean_18 : decode cX1_doesLean 18 = .ok (.ifCond .eq 7, 3) := dAt (x := (18, .ifCond .eq 7, 3)) DX1_doesLean_0 11 rfl
theorem dX1_doesLean_21 : decode cX1_doesLean 21 = .ok (.iconst 1, 1) := dAt (x := (21, .iconst 1, 1)) DX1_doesLean_0 12 rfl
theorem dX1_doesLean_22 : decode cX1_doesLean 22 = .ok (.goto 4, 3) := dAt (x := (22, .goto 4, 3)) DX1_doesLean_0 13 rfl
theorem dX1_doesLean_25 : decode cX1_doesLean 25 = .ok (.iconst 0, 1) := dAt (x := (25, .iconst 0, 1)) DX1_doesLean_0 14 rfl
theorem dX1_doesLean_26 : decode cX1_doesLean 26 = .ok (.ireturn, 1) := dAt (x := (26, .ireturn, 1)) DX1_doesLean_0 15 rfl
def lDX1_leantOn_0 : List (Nat × Instr × Nat) := [(0, .iload_n 1, 1), (1, .ifCond .lt 18, 3), (4, .iload_n 1, 1), (5, .bipush 8, 2), (7, .if_icmp .ge 12, 3), (10, .aload_n 0, 1), (11, .getfield 21, 3), (14, .iload_n 1, 1), (15, .iaload, 1), (16, .goto 4, 3), (19, .iconst 0, 1), (20, .ireturn, 1)]
theorem DX1_leantOn_0 : dAll cX1_leantOn lDX1_leantOn_0 = true := by decide +kernel
theorem dX1_leantOn_0 : decode cX1_leantOn 0 = .ok (.iload_n 1, 1) := dAt (x := (0, .iload_n 1, 1)) DX1_leantOn_0 0 rfl
theorem dX1_leantOn_1 : decode cX1_leantOn 1 = .ok (.ifCond .lt 18, 3) := dAt (x := (1, .ifCond .lt 18, 3)) DX1_leantOn_0 1 rfl
theorem dX1_leantOn_4 : decode cX1_leantOn 4 = .ok (.iload_n 1, 1) := dAt (x := (4, .iload_n 1, 1)) DX1_leantOn_0 2 rfl
theorem dX1_leantOn_5 : decode cX1_leantOn 5 = .ok (.bipush 8, 2) := dAt (x := (5, .bipush 8, 2)) DX1_leantOn_0 3 rfl
theorem dX1_leantOn_7 : decode cX1_leantOn 7 = .ok (.if_icmp .ge 12, 3) := dAt (x := (7, .if_icmp .ge 12, 3)) DX1_leantOn_0 4 rfl
theorem dX1_leantOn_10 : decode cX1_leantOn 10 = .ok (.aload_n 0, 1) := dAt (x := (10, .aload_n 0, 1)) DX1_leantOn_0 5 rfl
theorem dX1_leantOn_11 : decode cX1_leantOn 11 = .ok (.getfield 21, 3) := dAt (x := (11, .getfield 21, 3)) DX1_leantOn_0 6 rfl
theorem dX1_leantOn_14 : decode cX1_leantOn 14 = .ok (.iload_n 1, 1) := dAt (x := (14, .iload_n 1, 1)) DX1_leantOn_0 7 rfl
theorem dX1_leantOn_15 : decode cX1_leantOn 15 = .ok (.iaload, 1) := dAt (x := (15, .iaload, 1)) DX1_leantOn_0 8 rfl
theorem dX1_leantOn_16 : decode cX1_leantOn 16 = .ok (.goto 4, 3) := dAt (x := (16, .goto 4, 3)) DX1_leantOn_0 9 rfl
theorem dX1_leantOn_19 : decode cX1_leantOn 19 = .ok (.iconst 0, 1) := dAt (x := (19, .iconst 0, 1)) DX1_leantOn_0 10 rfl
theorem dX1_leantOn_20 : decode cX1_leantOn 20 = .ok (.ireturn, 1) := dAt (x := (20, .ireturn, 1)) DX1_leantOn_0 11 rfl
def lDX1_addLeant_0 : List (Nat × Instr × Nat) := [(0, .iload_n 1, 1), (1, .ifCond .lt 19, 3), (4, .iload_n 1, 1), (5, .bipush 8, 2), (7, .if_icmp .ge 13, 3), (10, .aload_n 0, 1), (11, .getfield 21, 3), (14, .iload_n 1, 1), (15, .dup2, 1), (16, .iaload, 1), (17, .iload_n 2, 1), (18, .ior, 1), (19, .iastore, 1), (20, .return_, 1)]
theorem DX1_addLeant_0 : dAll cX1_addLeant lDX1_addLeant_0 = true := by decide +kernel
theorem dX1_addLeant_0 : decode cX1_addLeant 0 = .ok (.iload_n 1, 1) := dAt (x := (0, .iload_n 1, 1)) DX1_addLeant_0 0 rfl
theorem dX1_addLeant_1 : decode cX1_addLeant 1 = .ok (.ifCond .lt 19, 3) := dAt (x := (1, .ifCond .lt 19, 3)) DX1_addLeant_0 1 rfl
theorem dX1_addLeant_4 : decode cX1_addLeant 4 = .ok (.iload_n 1, 1) := dAt (x := (4, .iload_n 1, 1)) DX1_addLeant_0 2 rfl
theorem dX1_addLeant_5 : decode cX1_addLeant 5 = .ok (.bipush 8, 2) := dAt (x := (5, .bipush 8, 2)) DX1_addLeant_0 3 rfl
theorem dX1_addLeant_7 : decode cX1_addLeant 7 = .ok (.if_icmp .ge 13, 3) := dAt (x := (7, .if_icmp .ge 13, 3)) DX1_addLeant_0 4 rfl
theorem dX1_addLeant_10 : decode cX1_addLeant 10 = .ok (.aload_n 0, 1) := dAt (x := (10, .aload_n 0, 1)) DX1_addLeant_0 5 rfl
theorem dX1_addLeant_11 : decode cX1_addLeant 11 = .ok (.getfield 21, 3) := dAt (x := (11, .getfield 21, 3)) DX1_addLeant_0 6 rfl
theorem dX1_addLeant_14 : decode cX1_addLeant 14 = .ok (.iload_n 1, 1) := dAt (x := (14, .iload_n 1, 1)) DX1_addLeant_0 7 rfl
theorem dX1_addLeant_15 : decode cX1_addLeant 15 = .ok (.dup2, 1) := dAt (x := (15, .dup2, 1)) DX1_addLeant_0 8 rfl
theorem dX1_addLeant_16 : decode cX1_addLeant 16 = .ok (.iaload, 1) := dAt (x := (16, .iaload, 1)) DX1_addLeant_0 9 rfl
theorem dX1_addLeant_17 : decode cX1_addLeant 17 = .ok (.iload_n 2, 1) := dAt (x := (17, .iload_n 2, 1)) DX1_addLeant_0 10 rfl
theorem dX1_addLeant_18 : decode cX1_addLeant 18 = .ok (.ior, 1) := dAt (x := (18, .ior, 1)) DX1_addLeant_0 11 rfl
theorem dX1_addLeant_19 : decode cX1_addLeant 19 = .ok (.iastore, 1) := dAt (x := (19, .iastore, 1)) DX1_addLeant_0 12 rfl
theorem dX1_addLeant_20 : decode cX1_addLeant 20 = .ok (.return_, 1) := dAt (x := (20, .return_, 1)) DX1_addLeant_0 13 rfl
def lDX1_addLean_0 : List (Nat × Instr × Nat) := [(0, .aload_n 0, 1), (1, .iload_n 1, 1), (2, .invokevirtual 90, 3), (5, .ifCond .eq 70, 3), (8, .aload_n 0, 1), (9, .getfield 63, 3), (12, .bipush 8, 2), (14, .if_icmp .ge 61, 3), (17, .aload_n 0, 1), (18, .getfield 18, 3), (21, .iconst 2, 1), (22, .iload_n 1, 1), (23, .imul, 1), (24, .iload_n 2, 1), (25, .iastore, 1), (26, .aload_n 0, 1), (27, .getfield 18, 3), (30, .iconst 2, 1), (31, .iload_n 1, 1), (32, .imul, 1), (33, .iconst 1, 1), (34, .iadd, 1), (35, .aload_n 0, 1), (36, .getfield 42, 3), (39, .getfield 87, 3), (42, .iastore, 1), (43, .aload_n 0, 1), (44, .getfield 15, 3), (47, .aload_n 0, 1), (48, .getfield 63, 3), (51, .iload_n 1, 1), (52, .iastore, 1), (53, .aload_n 0, 1), (54, .dup, 1), (55, .getfield 63, 3), (58, .iconst 1, 1), (59, .iadd, 1), (60, .putfield 63, 3), (63, .aload_n 0, 1), (64, .dup, 1), (65, .getfield 66, 3), (68, .iconst 1, 1), (69, .iload_n 1, 1), (70, .ishl, 1), (71, .ior, 1), (72, .putfield 66, 3), (75, .return_, 1)]
theorem DX1_addLean_0 : dAll cX1_addLean lDX1_addLean_0 = true := by decide +kernel
theorem dX1_addLean_0 : decode cX1_addLean 0 = .ok (.aload_n 0, 1) := dAt (x := (0, .aload_n 0, 1)) DX1_addLean_0 0 rfl
theorem dX1_addLean_1 : decode cX1_addLean 1 = .ok (.iload_n 1, 1) := dAt (x := (1, .iload_n 1, 1)) DX1_addLean_0 1 rfl
theorem dX1_addLean_2 : decode cX1_addLean 2 = .ok (.invokevirtual 90, 3) := dAt (x := (2, .invokevirtual 90, 3)) DX1_addLean_0 2 rfl
theorem dX1_addLean_5 : decode cX1_addLean 5 = .ok (.ifCond .eq 70, 3) := dAt (x := (5, .ifCond .eq 70, 3)) DX1_addLean_0 3 rfl
theorem dX1_addLean_8 : decode cX1_addLean 8 = .ok (.aload_n 0, 1) := dAt (x := (8, .aload_n 0, 1)) DX1_addLean_0 4 rfl
theorem dX1_addLean_9 : decode cX1_addLean 9 = .ok (.getfield 63, 3) := dAt (x := (9, .getfield 63, 3)) DX1_addLean_0 5 rfl
theorem dX1_addLean_12 : decode cX1_addLean 12 = .ok (.bipush 8, 2) := dAt (x := (12, .bipush 8, 2)) DX1_addLean_0 6 rfl
theorem dX1_addLean_14 : decode cX1_addLean 14 = .ok (.if_icmp .ge 61, 3) := dAt (x := (14, .if_icmp .ge 61, 3)) DX1_addLean_0 7 rfl
theorem dX1_addLean_17 : decode cX1_addLean 17 = .ok (.aload_n 0, 1) := dAt (x := (17, .aload_n 0, 1)) DX1_addLean_0 8 rfl
theorem dX1_addLean_18 : decode cX1_addLean 18 = .ok (.getfield 18, 3) := dAt (x := (18, .getfield 18, 3)) DX1_addLean_0 9 rfl
theorem dX1_addLean_21 : decode cX1_addLean 21 = .ok (.iconst 2, 1) := dAt (x := (21, .iconst 2, 1)) DX1_addLean_0 10 rfl
theorem dX1_addLean_22 : decode cX1_addLean 22 = .ok (.iload_n 1, 1) := dAt (x := (22, .iload_n 1, 1)) DX1_addLean_0 11 rfl
theorem dX1_addLean_23 : decode cX1_addLean 23 = .ok (.imul, 1) := dAt (x := (23, .imul, 1)) DX1_addLean_0 12 rfl
theorem dX1_addLean_24 : decode cX1_addLean 24 = .ok (.iload_n 2, 1) := dAt (x := (24, .iload_n 2, 1)) DX1_addLean_0 13 rfl
theorem dX1_addLean_25 : decode cX1_addLean 25 = .ok (.iastore, 1) := dAt (x := (25, .iastore, 1)) DX1_addLean_0 14 rfl
theorem dX1_addLean_26 : decode cX1_addLean 26 = .ok (.aload_n 0, 1) := dAt (x := (26, .aload_n 0, 1)) DX1_addLean_0 15 rfl
theorem dX1_addLean_27 : decode cX1_addLean 27 = .ok (.getfield 18, 3) := dAt (x := (27, .getfield 18, 3)) DX1_addLean_0 16 rfl
theorem dX1_addLean_30 : decode cX1_addLean 30 = .ok (.iconst 2, 1) := dAt (x := (30, .iconst 2, 1)) DX1_addLean_0 17 rfl
theorem dX1_addLean_31 : decode cX1_addLean 31 = .ok (.iload_n 1, 1) := dAt (x := (31, .iload_n 1, 1)) DX1_addLean_0 18 rfl
theorem dX1_addLean_32 : decode cX1_addLean 32 = .ok (.imul, 1) := dAt (x := (32, .imul, 1)) DX1_addLean_0 19 rfl
theorem dX1_addLean_33 : decode cX1_addLean 33 = .ok (.iconst 1, 1) := dAt (x := (33, .iconst 1, 1)) DX1_addLean_0 20 rfl
theorem dX1_addLean_34 : decode cX1_addLean 34 = .ok (.iadd, 1) := dAt (x := (34, .iadd, 1)) DX1_addLean_0 21 rfl
theorem dX1_addLean_35 : decode cX1_addLean 35 = .ok (.aload_n 0, 1) := dAt (x := (35, .aload_n 0, 1)) DX1_addLean_0 22 rfl
theorem dX1_addLean_36 : decode cX1_addLean 36 = .ok (.getfield 42, 3) := dAt (x := (36, .getfield 42, 3)) DX1_addLean_0 23 rfl
theorem dX1_addLean_39 : decode cX1_addLean 39 = .ok (.getfield 87, 3) := dAt (x := (39, .getfield 87, 3)) DX1_addLean_0 24 rfl
theorem dX1_addLean_42 : decode cX1_addLean 42 = .ok (.iastore, 1) := dAt (x := (42, .iastore, 1)) DX1_addLean_0 25 rfl
theorem dX1_addLean_43 : decode cX1_addLean 43 = .ok (.aload_n 0, 1) := dAt (x := (43, .aload_n 0, 1)) DX1_addLean_0 26 rfl
theorem dX1_addLean_44 : decode cX1_addLean 44 = .ok (.getfield 15, 3) := dAt (x := (44, .getfield 15, 3)) DX1_addLean_0 27 rfl
theorem dX1_addLean_47 : decode cX1_addLean 47 = .ok (.aload_n 0, 1) := dAt (x := (47, .aload_n 0, 1)) DX1_addLean_0 28 rfl
theorem dX1_addLean_48 : decode cX1_addLean 48 = .ok (.getfield 63, 3) := dAt (x := (48, .getfield 63, 3)) DX1_addLean_0 29 rfl
theorem dX1_addLean_51 : decode cX1_addLean 51 = .ok (.iload_n 1, 1) := dAt (x := (51, .iload_n 1, 1)) DX1_addLean_0 30 rfl
theorem dX1_addLean_52 : decode cX1_addLean 52 = .ok (.iastore, 1) := dAt (x := (52, .iastore, 1)) DX1_addLean_0 31 rfl
theorem dX1_addLean_53 : decode cX1_addLean 53 = .ok (.aload_n 0, 1) := dAt (x := (53, .aload_n 0, 1)) DX1_addLean_0 32 rfl
theorem dX1_addLean_54 : decode cX1_addLean 54 = .ok (.dup, 1) := dAt (x := (54, .dup, 1)) DX1_addLean_0 33 rfl
theorem dX1_addLean_55 : decode cX1_addLean 55 = .ok (.getfield 63, 3) := dAt (x := (55, .getfield 63, 3)) DX1_addLean_0 34 rfl
theorem dX1_addLean_58 : decode cX1_addLean 58 = .ok (.iconst 1, 1) := dAt (x := (58, .iconst 1, 1)) DX1_addLean_0 35 rfl
theorem dX1_addLean_59 : decode cX1_addLean 59 = .ok (.iadd, 1) := dAt (x := (59, .iadd, 1)) DX1_addLean_0 36 rfl
theorem dX1_addLean_60 : decode cX1_addLean 60 = .ok (.putfield 63, 3) := dAt (x := (60, .putfield 63, 3)) DX1_addLean_0 37 rfl
theorem dX1_addLean_63 : decode cX1_addLean 63 = .ok (.aload_n 0, 1) := dAt (x := (63, .aload_n 0, 1)) DX1_addLean_0 38 rfl
theorem dX1_addLean_64 : decode cX1_addLean 64 = .ok (.dup, 1) := dAt (x := (64, .dup, 1)) DX1_addLean_0 39 rfl
theorem dX1_addLean_65 : decode cX1_addLean 65 = .ok (.getfield 66, 3) := dAt (x := (65, .getfield 66, 3)) DX1_addLean_0 40 rfl
theorem dX1_addLean_68 : decode cX1_addLean 68 = .ok (.iconst 1, 1) := dAt (x := (68, .iconst 1, 1)) DX1_addLean_0 41 rfl
theorem dX1_addLean_69 : decode cX1_addLean 69 = .ok (.iload_n 1, 1) := dAt (x := (69, .iload_n 1, 1)) DX1_addLean_0 42 rfl
theorem dX1_addLean_70 : decode cX1_addLean 70 = .ok (.ishl, 1) := dAt (x := (70, .ishl, 1)) DX1_addLean_0 43 rfl
theorem dX1_addLean_71 : decode cX1_addLean 71 = .ok (.ior, 1) := dAt (x := (71, .ior, 1)) DX1_addLean_0 44 rfl
theorem dX1_addLean_72 : decode cX1_addLean 72 = .ok (.putfield 66, 3) := dAt (x := (72, .putfield 66, 3)) DX1_addLean_0 45 rfl
theorem dX1_addLean_75 : decode cX1_addLean 75 = .ok (.return_, 1) := dAt (x := (75, .return_, 1)) DX1_addLean_0 46 rfl
def lDX1_addPush_0 : List (Nat × Instr × Nat) := [(0, .aload_n 0, 1), (1, .getfield 75, 3), (4, .bipush 16, 2), (6, .if_icmp .ge 33, 3), (9, .aload_n 0, 1), (10, .getfield 27, 3), (13, .aload_n 0, 1), (14, .getfield 75, 3), (17, .iload_n 1, 1), (18, .iastore, 1), (19, .aload_n 0, 1), (20, .getfield 30, 3), (23, .aload_n 0, 1), (24, .getfield 75, 3), (27, .iload_n 2, 1), (28, .iastore, 1), (29, .aload_n 0, 1), (30, .dup, 1), (31, .getfield 75, 3), (34, .iconst 1, 1), (35, .iadd, 1), (36, .putfield 75, 3), (39, .return_, 1)]
theorem DX1_addPush_0 : dAll cX1_addPush lDX1_addPush_0 = true := by decide +kernel
theorem dX1_addPush_0 : decode cX1_addPush 0 = .ok (.aload_n 0, 1) := dAt (x := (0, .aload_n 0, 1)) DX1_addPush_0 0 rfl
theorem dX1_addPush_1 : decode cX1_addPush 1 = .ok (.getfield 75, 3) := dAt (x := (1, .getfield 75, 3)) DX1_addPush_0 1 rfl
theorem dX1_addPush_4 : decode cX1_addPush 4 = .ok (.bipush 16, 2) := dAt (x := (4, .bipush 16, 2)) DX1_addPush_0 2 rfl
theorem dX1_addPush_6 : decode cX1_addPush 6 = .ok (.if_icmp .ge 33, 3) := dAt (x := (6, .if_icmp .ge 33, 3)) DX1_addPush_0 3 rfl
theorem dX1_addPush_9 : decode cX1_addPush 9 = .ok (.aload_n 0, 1) := dAt (x := (9, .aload_n 0, 1)) DX1_addPush_0 4 rfl
theorem dX1_addPush_10 : decode cX1_addPush 10 = .ok (.getfield 27, 3) := dAt (x := (10, .getfield 27, 3)) DX1_addPush_0 5 rfl
theorem dX1_addPush_13 : decode cX1_addPush 13 = .ok (.aload_n 0, 1) := dAt (x := (13, .aload_n 0, 1)) DX1_addPush_0 6 rfl
theorem dX1_addPush_14 : decode cX1_addPush 14 = .ok (.getfield 75, 3) := dAt (x := (14, .getfield 75, 3)) DX1_addPush_0 7 rfl
theorem dX1_addPush_17 : decode cX1_addPush 17 = .ok (.iload_n 1, 1) := dAt (x := (17, .iload_n 1, 1)) DX1_addPush_0 8 rfl
theorem dX1_addPush_18 : decode cX1_addPush 18 = .ok (.iastore, 1) := dAt (x := (18, .iastore, 1)) DX1_addPush_0 9 rfl
theorem dX1_addPush_19 : decode cX1_addPush 19 = .ok (.aload_n 0, 1) := dAt (x := (19, .aload_n 0, 1)) DX1_addPush_0 10 rfl
theorem dX1_addPush_20 : decode cX1_addPush 20 = .ok (.getfield 30, 3) := dAt (x := (20, .getfield 30, 3)) DX1_addPush_0 11 rfl
theorem dX1_addPush_23 : decode cX1_addPush 23 = .ok (.aload_n 0, 1) := dAt (x := (23, .aload_n 0, 1)) DX1_addPush_0 12 rfl
theorem dX1_addPush_24 : decode cX1_addPush 24 = .ok (.getfield 75, 3) := dAt (x := (24, .getfield 75, 3)) DX1_addPush_0 13 rfl
theorem dX1_addPush_27 : decode cX1_addPush 27 = .ok (.iload_n 2, 1) := dAt (x := (27, .iload_n 2, 1)) DX1_addPush_0 14 rfl
theorem dX1_addPush_28 : decode cX1_addPush 28 = .ok (.iastore, 1) := dAt (x := (28, .iastore, 1)) DX1_addPush_0 15 rfl
theorem dX1_addPush_29 : decode cX1_addPush 29 = .ok (.aload_n 0, 1) := dAt (x := (29, .aload_n 0, 1)) DX1_addPush_0 16 rfl
theorem dX1_addPush_30 : decode cX1_addPush 30 = .ok (.dup, 1) := dAt (x := (30, .dup, 1)) DX1_addPush_0 17 rfl
theorem dX1_addPush_31 : decode cX1_addPush 31 = .ok (.getfield 75, 3) := dAt (x := (31, .getfield 75, 3)) DX1_addPush_0 18 rfl
theorem dX1_addPush_34 : decode cX1_addPush 34 = .ok (.iconst 1, 1) := dAt (x := (34, .iconst 1, 1)) DX1_addPush_0 19 rfl
theorem dX1_addPush_35 : decode cX1_addPush 35 = .ok (.iadd, 1) := dAt (x := (35, .iadd, 1)) DX1_addPush_0 20 rfl
theorem dX1_addPush_36 : decode cX1_addPush 36 = .ok (.putfield 75, 3) := dAt (x := (36, .putfield 75, 3)) DX1_addPush_0 21 rfl
theorem dX1_addPush_39 : decode cX1_addPush 39 = .ok (.return_, 1) := dAt (x := (39, .return_, 1)) DX1_addPush_0 22 rfl
def lDX1_addOil_0 : List (Nat × Instr × Nat) := [(0, .aload_n 0, 1), (1, .getfield 78, 3), (4, .iconst 4, 1), (5, .if_icmp .ge 23, 3), (8, .aload_n 0, 1), (9, .getfield 33, 3), (12, .aload_n 0, 1), (13, .getfield 78, 3), (16, .iload_n 1, 1), (17, .iastore, 1), (18, .aload_n 0, 1), (19, .dup, 1), (20, .getfield 78, 3), (23, .iconst 1, 1), (24, .iadd, 1), (25, .putfield 78, 3), (28, .return_, 1)]
theorem DX1_addOil_0 : dAll cX1_addOil lDX1_addOil_0 = true := by decide +kernel
theorem dX1_addOil_0 : decode cX1_addOil 0 = .ok (.aload_n 0, 1) := dAt (x := (0, .aload_n 0, 1)) DX1_addOil_0 0 rfl
theorem dX1_addOil_1 : decode cX1_addOil 1 = .ok (.getfield 78, 3) := dAt (x := (1, .getfield 78, 3)) DX1_addOil_0 1 rfl
theorem dX1_addOil_4 : decode cX1_addOil 4 = .ok (.iconst 4, 1) := dAt (x := (4, .iconst 4, 1)) DX1_addOil_0 2 rfl
theorem dX1_addOil_5 : decode cX1_addOil 5 = .ok (.if_icmp .ge 23, 3) := dAt (x := (5, .if_icmp .ge 23, 3)) DX1_addOil_0 3 rfl
theorem dX1_addOil_8 : decode cX1_addOil 8 = .ok (.aload_n 0, 1) := dAt (x := (8, .aload_n 0, 1)) DX1_addOil_0 4 rfl
theorem dX1_addOil_9 : decode cX1_addOil 9 = .ok (.getfield 33, 3) := dAt (x := (9, .getfield 33, 3)) DX1_addOil_0 5 rfl
theorem dX1_addOil_12 : decode cX1_addOil 12 = .ok (.aload_n 0, 1) := dAt (x := (12, .aload_n 0, 1)) DX1_addOil_0 6 rfl
theorem dX1_addOil_13 : decode cX1_addOil 13 = .ok (.getfield 78, 3) := dAt (x := (13, .getfield 78, 3)) DX1_addOil_0 7 rfl
theorem dX1_addOil_16 : decode cX1_addOil 16 = .ok (.iload_n 1, 1) := dAt (x := (16, .iload_n 1, 1)) DX1_addOil_0 8 rfl
theorem dX1_addOil_17 : decode cX1_addOil 17 = .ok (.iastore, 1) := dAt (x := (17, .iastore, 1)) DX1_addOil_0 9 rfl
theorem dX1_addOil_18 : decode cX1_addOil 18 = .ok (.aload_n 0, 1) := dAt (x := (18, .aload_n 0, 1)) DX1_addOil_0 10 rfl
theorem dX1_addOil_19 : decode cX1_addOil 19 = .ok (.dup, 1) := dAt (x := (19, .dup, 1)) DX1_addOil_0 11 rfl
theorem dX1_addOil_20 : decode cX1_addOil 20 = .ok (.getfield 78, 3) := dAt (x := (20, .getfield 78, 3)) DX1_addOil_0 12 rfl
theorem dX1_addOil_23 : decode cX1_addOil 23 = .ok (.iconst 1, 1) := dAt (x := (23, .iconst 1, 1)) DX1_addOil_0 13 rfl
theorem dX1_addOil_24 : decode cX1_addOil 24 = .ok (.iadd, 1) := dAt (x := (24, .iadd, 1)) DX1_addOil_0 14 rfl
theorem dX1_addOil_25 : decode cX1_addOil 25 = .ok (.putfield 78, 3) := dAt (x := (25, .putfield 78, 3)) DX1_addOil_0 15 rfl
theorem dX1_addOil_28 : decode cX1_addOil 28 = .ok (.return_, 1) := dAt (x := (28, .return_, 1)) DX1_addOil_0 16 rfl
def lDX1_oiled_0 : List (Nat × Instr × Nat) := [(0, .iconst 0, 1), (1, .istore_n 2, 1), (2, .iload_n 2, 1), (3, .aload_n 0, 1), (4, .getfield 78, 3), (7, .if_icmp .ge 26, 3), (10, .iload_n 2, 1), (11, .iconst 4, 1), (12, .if_icmp .ge 21, 3), (15, .aload_n 0, 1), (16, .getfield 33, 3), (19, .iload_n 2, 1), (20, .iaload, 1), (21, .iload_n 1, 1), (22, .if_icmp .ne 5, 3), (25, .iconst 1, 1), (26, .ireturn, 1), (27, .iinc 2 1, 3), (30, .goto (-28), 3), (33, .iconst 0, 1), (34, .ireturn, 1)]
theorem DX1_oiled_0 : dAll cX1_oiled lDX1_oiled_0 = true := by decide +kernel
theorem dX1_oiled_0 : decode cX1_oiled 0 = .ok (.iconst 0, 1) := dAt (x := (0, .iconst 0, 1)) DX1_oiled_0 0 rfl
theorem dX1_oiled_1 : decode cX1_oiled 1 = .ok (.istore_n 2, 1) := dAt (x := (1, .istore_n 2, 1)) DX1_oiled_0 1 rfl
theorem dX1_oiled_2 : decode cX1_oiled 2 = .ok (.iload_n 2, 1) := dAt (x := (2, .iload_n 2, 1)) DX1_oiled_0 2 rfl
theorem dX1_oiled_3 : decode cX1_oiled 3 = .ok (.aload_n 0, 1) := dAt (x := (3, .aload_n 0, 1)) DX1_oiled_0 3 rfl
theorem dX1_oiled_4 : decode cX1_oiled 4 = .ok (.getfield 78, 3) := dAt (x := (4, .getfield 78, 3)) DX1_oiled_0 4 rfl
theorem dX1_oiled_7 : decode cX1_oiled 7 = .ok (.if_icmp .ge 26, 3) := dAt (x := (7, .if_icmp .ge 26, 3)) DX1_oiled_0 5 rfl
theorem dX1_oiled_10 : decode cX1_oiled 10 = .ok (.iload_n 2, 1) := dAt (x := (10, .iload_n 2, 1)) DX1_oiled_0 6 rfl
theorem dX1_oiled_11 : decode cX1_oiled 11 = .ok (.iconst 4, 1) := dAt (x := (11, .iconst 4, 1)) DX1_oiled_0 7 rfl
theorem dX1_oiled_12 : decode cX1_oiled 12 = .ok (.if_icmp .ge 21, 3) := dAt (x := (12, .if_icmp .ge 21, 3)) DX1_oiled_0 8 rfl
theorem dX1_oiled_15 : decode cX1_oiled 15 = .ok (.aload_n 0, 1) := dAt (x := (15, .aload_n 0, 1)) DX1_oiled_0 9 rfl
theorem dX1_oiled_16 : decode cX1_oiled 16 = .ok (.getfield 33, 3) := dAt (x := (16, .getfield 33, 3)) DX1_oiled_0 10 rfl
theorem dX1_oiled_19 : decode cX1_oiled 19 = .ok (.iload_n 2, 1) := dAt (x := (19, .iload_n 2, 1)) DX1_oiled_0 11 rfl
theorem dX1_oiled_20 : decode cX1_oiled 20 = .ok (.iaload, 1) := dAt (x := (20, .iaload, 1)) DX1_oiled_0 12 rfl
theorem dX1_oiled_21 : decode cX1_oiled 21 = .ok (.iload_n 1, 1) := dAt (x := (21, .iload_n 1, 1)) DX1_oiled_0 13 rfl
theorem dX1_oiled_22 : decode cX1_oiled 22 = .ok (.if_icmp .ne 5, 3) := dAt (x := (22, .if_icmp .ne 5, 3)) DX1_oiled_0 14 rfl
theorem dX1_oiled_25 : decode cX1_oiled 25 = .ok (.iconst 1, 1) := dAt (x := (25, .iconst 1, 1)) DX1_oiled_0 15 rfl
theorem dX1_oiled_26 : decode cX1_oiled 26 = .ok (.ireturn, 1) := dAt (x := (26, .ireturn, 1)) DX1_oiled_0 16 rfl
theorem dX1_oiled_27 : decode cX1_oiled 27 = .ok (.iinc 2 1, 3) := dAt (x := (27, .iinc 2 1, 3)) DX1_oiled_0 17 rfl
theorem dX1_oiled_30 : decode cX1_oiled 30 = .ok (.goto (-28), 3) := dAt (x := (30, .goto (-28), 3)) DX1_oiled_0 18 rfl
theorem dX1_oiled_33 : decode cX1_oiled 33 = .ok (.iconst 0, 1) := dAt (x := (33, .iconst 0, 1)) DX1_oiled_0 19 rfl
theorem dX1_oiled_34 : decode cX1_oiled 34 = .ok (.ireturn, 1) := dAt (x := (34, .ireturn, 1)) DX1_oiled_0 20 rfl
def lDX1_hasLaw_0 : List (Nat × Instr × Nat) := [(0, .iload_n 1, 1), (1, .ifCond .lt 33, 3), (4, .iload_n 1, 1), (5, .iconst 3, 1), (6, .if_icmp .ge 28, 3), (9, .aload_n 0, 1), (10, .getfield 36, 3), (13, .iconst 2, 1), (14, .iload_n 1, 1), (15, .imul, 1), (16, .iconst 1, 1), (17, .iadd, 1), (18, .iaload, 1), (19, .aload_n 0, 1), (20, .getfield 36, 3), (23, .iconst 2, 1), (24, .iload_n 1, 1), (25, .imul, 1), (26, .iaload, 1), (27, .if_icmp .le 7, 3), (30, .iconst 1, 1), (31, .goto 4, 3), (34, .iconst 0, 1), (35, .ireturn, 1)]
theorem DX1_hasLaw_0 : dAll cX1_hasLaw lDX1_hasLaw_0 = true := by decide +kernel
theorem dX1_hasLaw_0 : decode cX1_hasLaw 0 = .ok (.iload_n 1, 1) := dAt (x := (0, .iload_n 1, 1)) DX1_hasLaw_0 0 rfl
theorem dX1_hasLaw_1 : decode cX1_hasLaw 1 = .ok (.ifCond .lt 33, 3) := dAt (x := (1, .ifCond .lt 33, 3)) DX1_hasLaw_0 1 rfl
theorem dX1_hasLaw_4 : decode cX1_hasLaw 4 = .ok (.iload_n 1, 1) := dAt (x := (4, .iload_n 1, 1)) DX1_hasLaw_0 2 rfl
theorem dX1_hasLaw_5 : decode cX1_hasLaw 5 = .ok (.iconst 3, 1) := dAt (x := (5, .iconst 3, 1)) DX1_hasLaw_0 3 rfl
theorem dX1_hasLaw_6 : decode cX1_hasLaw 6 = .ok (.if_icmp .ge 28, 3) := dAt (x := (6, .if_icmp .ge 28, 3)) DX1_hasLaw_0 4 rfl
theorem dX1_hasLaw_9 : decode cX1_hasLaw 9 = .ok (.aload_n 0, 1) := dAt (x := (9, .aload_n 0, 1)) DX1_hasLaw_0 5 rfl
theorem dX1_hasLaw_10 : decode cX1_hasLaw 10 = .ok (.getfield 36, 3) := dAt (x := (10, .getfield 36, 3)) DX1_hasLaw_0 6 rfl
theorem dX1_hasLaw_13 : decode cX1_hasLaw 13 = .ok (.iconst 2, 1) := dAt (x := (13, .iconst 2, 1)) DX1_hasLaw_0 7 rfl
theorem dX1_hasLaw_14 : decode cX1_hasLaw 14 = .ok (.iload_n 1, 1) := dAt (x := (14, .iload_n 1, 1)) DX1_hasLaw_0 8 rfl
theorem dX1_hasLaw_15 : decode cX1_hasLaw 15 = .ok (.imul, 1) := dAt (x := (15, .imul, 1)) DX1_hasLaw_0 9 rfl
theorem dX1_hasLaw_16 : decode cX1_hasLaw 16 = .ok (.iconst 1, 1) := dAt (x := (16, .iconst 1, 1)) DX1_hasLaw_0 10 rfl
theorem dX1_hasLaw_17 : decode cX1_hasLaw 17 = .ok (.iadd, 1) := dAt (x := (17, .iadd, 1)) DX1_hasLaw_0 11 rfl
theorem dX1_hasLaw_18 : decode cX1_hasLaw 18 = .ok (.iaload, 1) := dAt (x := (18, .iaload, 1)) DX1_hasLaw_0 12 rfl
theorem dX1_hasLaw_19 : decode cX1_hasLaw 19 = .ok (.aload_n 0, 1) := dAt (x := (19, .aload_n 0, 1)) DX1_hasLaw_0 13 rfl
theorem dX1_hasLaw_20 : decode cX1_hasLaw 20 = .ok (.getfield 36, 3) := dAt (x := (20, .getfield 36, 3)) DX1_hasLaw_0 14 rfl
theorem dX1_hasLaw_23 : decode cX1_hasLaw 23 = .ok (.iconst 2, 1) := dAt (x := (23, .iconst 2, 1)) DX1_hasLaw_0 15 rfl
theorem dX1_hasLaw_24 : decode cX1_hasLaw 24 = .ok (.iload_n 1, 1) := dAt (x := (24, .iload_n 1, 1)) DX1_hasLaw_0 16 rfl
theorem dX1_hasLaw_25 : decode cX1_hasLaw 25 = .ok (.imul, 1) := dAt (x := (25, .imul, 1)) DX1_hasLaw_0 17 rfl
theorem dX1_hasLaw_26 : decode cX1_hasLaw 26 = .ok (.iaload, 1) := dAt (x := (26, .iaload, 1)) DX1_hasLaw_0 18 rfl
theorem dX1_hasLaw_27 : decode cX1_hasLaw 27 = .ok (.if_icmp .le 7, 3) := dAt (x := (27, .if_icmp .le 7, 3)) DX1_hasLaw_0 19 rfl
theorem dX1_hasLaw_30 : decode cX1_hasLaw 30 = .ok (.iconst 1, 1) := dAt (x := (30, .iconst 1, 1)) DX1_hasLaw_0 20 rfl
theorem dX1_hasLaw_31 : decode cX1_hasLaw 31 = .ok (.goto 4, 3) := dAt (x := (31, .goto 4, 3)) DX1_hasLaw_0 21 rfl
theorem dX1_hasLaw_34 : decode cX1_hasLaw 34 = .ok (.iconst 0, 1) := dAt (x := (34, .iconst 0, 1)) DX1_hasLaw_0 22 rfl
theorem dX1_hasLaw_35 : decode cX1_hasLaw 35 = .ok (.ireturn, 1) := dAt (x := (35, .ireturn, 1)) DX1_hasLaw_0 23 rfl
def lDX1_addLaw_0 : List (Nat × Instr × Nat) := [(0, .iload_n 1, 1), (1, .ifCond .lt 34, 3), (4, .iload_n 1, 1), (5, .iconst 3, 1), (6, .if_icmp .ge 29, 3), (9, .aload_n 0, 1), (10, .getfield 36, 3), (13, .iconst 2, 1), (14, .iload_n 1, 1), (15, .imul, 1), (16, .iload_n 2, 1), (17, .iastore, 1), (18, .aload_n 0, 1), (19, .getfield 36, 3), (22, .iconst 2, 1), (23, .iload_n 1, 1), (24, .imul, 1), (25, .iconst 1, 1), (26, .iadd, 1), (27, .aload_n 0, 1), (28, .getfield 42, 3), (31, .getfield 87, 3), (34, .iastore, 1), (35, .return_, 1)]
theorem DX1_addLaw_0 : dAll cX1_addLaw lDX1_addLaw_0 = true := by decide +kernel
theorem dX1_addLaw_0 : decode cX1_addLaw 0 = .ok (.iload_n 1, 1) := dAt (x := (0, .iload_n 1, 1)) DX1_addLaw_0 0 rfl
theorem dX1_addLaw_1 : decode cX1_addLaw 1 = .ok (.ifCond .lt 34, 3) := dAt (x := (1, .ifCond .lt 34, 3)) DX1_addLaw_0 1 rfl
theorem dX1_addLaw_4 : decode cX1_addLaw 4 = .ok (.iload_n 1, 1) := dAt (x := (4, .iload_n 1, 1)) DX1_addLaw_0 2 rfl
theorem dX1_addLaw_5 : decode cX1_addLaw 5 = .ok (.iconst 3, 1) := dAt (x := (5, .iconst 3, 1)) DX1_addLaw_0 3 rfl
theorem dX1_addLaw_6 : decode cX1_addLaw 6 = .ok (.if_icmp .ge 29, 3) := dAt (x := (6, .if_icmp .ge 29, 3)) DX1_addLaw_0 4 rfl
theorem dX1_addLaw_9 : decode cX1_addLaw 9 = .ok (.aload_n 0, 1) := dAt (x := (9, .aload_n 0, 1)) DX1_addLaw_0 5 rfl
theorem dX1_addLaw_10 : decode cX1_addLaw 10 = .ok (.getfield 36, 3) := dAt (x := (10, .getfield 36, 3)) DX1_addLaw_0 6 rfl
theorem dX1_addLaw_13 : decode cX1_addLaw 13 = .ok (.iconst 2, 1) := dAt (x := (13, .iconst 2, 1)) DX1_addLaw_0 7 rfl
theorem dX1_addLaw_14 : decode cX1_addLaw 14 = .ok (.iload_n 1, 1) := dAt (x := (14, .iload_n 1, 1)) DX1_addLaw_0 8 rfl
theorem dX1_addLaw_15 : decode cX1_addLaw 15 = .ok (.imul, 1) := dAt (x := (15, .imul, 1)) DX1_addLaw_0 9 rfl
theorem dX1_addLaw_16 : decode cX1_addLaw 16 = .ok (.iload_n 2, 1) := dAt (x := (16, .iload_n 2, 1)) DX1_addLaw_0 10 rfl
theorem dX1_addLaw_17 : decode cX1_addLaw 17 = .ok (.iastore, 1) := dAt (x := (17, .iastore, 1)) DX1_addLaw_0 11 rfl
theorem dX1_addLaw_18 : decode cX1_addLaw 18 = .ok (.aload_n 0, 1) := dAt (x := (18, .aload_n 0, 1)) DX1_addLaw_0 12 rfl
theorem dX1_addLaw_19 : decode cX1_addLaw 19 = .ok (.getfield 36, 3) := dAt (x := (19, .getfield 36, 3)) DX1_addLaw_0 13 rfl
theorem dX1_addLaw_22 : decode cX1_addLaw 22 = .ok (.iconst 2, 1) := dAt (x := (22, .iconst 2, 1)) DX1_addLaw_0 14 rfl
theorem dX1_addLaw_23 : decode cX1_addLaw 23 = .ok (.iload_n 1, 1) := dAt (x := (23, .iload_n 1, 1)) DX1_addLaw_0 15 rfl
theorem dX1_addLaw_24 : decode cX1_addLaw 24 = .ok (.imul, 1) := dAt (x := (24, .imul, 1)) DX1_addLaw_0 16 rfl
theorem dX1_addLaw_25 : decode cX1_addLaw 25 = .ok (.iconst 1, 1) := dAt (x := (25, .iconst 1, 1)) DX1_addLaw_0 17 rfl
theorem dX1_addLaw_26 : decode cX1_addLaw 26 = .ok (.iadd, 1) := dAt (x := (26, .iadd, 1)) DX1_addLaw_0 18 rfl
theorem dX1_addLaw_27 : decode cX1_addLaw 27 = .ok (.aload_n 0, 1) := dAt (x := (27, .aload_n 0, 1)) DX1_addLaw_0 19 rfl
theorem dX1_addLaw_28 : decode cX1_addLaw 28 = .ok (.getfield 42, 3) := dAt (x := (28, .getfield 42, 3)) DX1_addLaw_0 20 rfl
theorem dX1_addLaw_31 : decode cX1_addLaw 31 = .ok (.getfield 87, 3) := dAt (x := (31, .getfield 87, 3)) DX1_addLaw_0 21 rfl
theorem dX1_addLaw_34 : decode cX1_addLaw 34 = .ok (.iastore, 1) := dAt (x := (34, .iastore, 1)) DX1_addLaw_0 22 rfl
theorem dX1_addLaw_35 : decode cX1_addLaw 35 = .ok (.return_, 1) := dAt (x := (35, .return_, 1)) DX1_addLaw_0 23 rfl
def lDX1_all_0 : List (Nat × Instr × Nat) := [(0, .iconst 1, 1), (1, .aload_n 0, 1), (2, .getfield 57, 3), (5, .ishl, 1), (6, .iconst 1, 1), (7, .isub, 1), (8, .ireturn, 1)]
theorem DX1_all_0 : dAll cX1_all lDX1_all_0 = true := by decide +kernel
theorem dX1_all_0 : decode cX1_all 0 = .ok (.iconst 1, 1) := dAt (x := (0, .iconst 1, 1)) DX1_all_0 0 rfl
theorem dX1_all_1 : decode cX1_all 1 = .ok (.aload_n 0, 1) := dAt (x := (1, .aload_n 0, 1)) DX1_all_0 1 rfl
theorem dX1_all_2 : decode cX1_all 2 = .ok (.getfield 57, 3) := dAt (x := (2, .getfield 57, 3)) DX1_all_0 2 rfl
theorem dX1_all_5 : decode cX1_all 5 = .ok (.ishl, 1) := dAt (x := (5, .ishl, 1)) DX1_all_0 3 rfl
theorem dX1_all_6 : decode cX1_all 6 = .ok (.iconst 1, 1) := dAt (x := (6, .iconst 1, 1)) DX1_all_0 4 rfl
theorem dX1_all_7 : decode cX1_all 7 = .ok (.isub, 1) := dAt (x := (7, .isub, 1)) DX1_all_0 5 rfl
theorem dX1_all_8 : decode cX1_all 8 = .ok (.ireturn, 1) := dAt (x := (8, .ireturn, 1)) DX1_all_0 6 rfl
def lDX1_settle_0 : List (Nat × Instr × Nat) := [(0, .iconst 0, 1), (1, .istore_n 1, 1), (2, .iload_n 1, 1), (3, .iconst 1, 1), (4, .aload_n 0, 1), (5, .getfield 57, 3), (8, .ishl, 1), (9, .if_icmp .ge 48, 3), (12, .iload_n 1, 1), (13, .sipush 256, 3), (16, .if_icmp .ge 41, 3), (19, .iload_n 1, 1), (20, .invokestatic 94, 3), (23, .istore_n 2, 1), (24, .aload_n 0, 1), (25, .getfield 24, 3), (28, .iload_n 1, 1), (29, .aload_n 0, 1), (30, .iload_n 1, 1), (31, .iload_n 2, 1), (32, .invokevirtual 100, 3), (35, .iload_n 1, 1), (36, .iconst (-1), 1), (37, .ixor, 1), (38, .iand, 1), (39, .aload_n 0, 1), (40, .iload_n 1, 1), (41, .iload_n 2, 1), (42, .iconst 1, 1), (43, .isub, 1), (44, .invokevirtual 100, 3), (47, .iload_n 1, 1), (48, .iand, 1), (49, .ior, 1), (50, .iastore, 1), (51, .iinc 1 1, 3), (54, .goto (-52), 3), (57, .return_, 1)]
theorem DX1_settle_0 : dAll cX1_settle lDX1_settle_0 = true := by decide +kernel
theorem dX1_settle_0 : decode cX1_settle 0 = .ok (.iconst 0, 1) := dAt (x := (0, .iconst 0, 1)) DX1_settle_0 0 rfl
theorem dX1_settle_1 : decode cX1_settle 1 = .ok (.istore_n 1, 1) := dAt (x := (1, .istore_n 1, 1)) DX1_settle_0 1 rfl
theorem dX1_settle_2 : decode cX1_settle 2 = .ok (.iload_n 1, 1) := dAt (x := (2, .iload_n 1, 1)) DX1_settle_0 2 rfl
theorem dX1_settle_3 : decode cX1_settle 3 = .ok (.iconst 1, 1) := dAt (x := (3, .iconst 1, 1)) DX1_settle_0 3 rfl
theorem dX1_settle_4 : decode cX1_settle 4 = .ok (.aload_n 0, 1) := dAt (x := (4, .aload_n 0, 1)) DX1_settle_0 4 rfl
theorem dX1_settle_5 : decode cX1_settle 5 = .ok (.getfield 57, 3) := dAt (x := (5, .getfield 57, 3)) DX1_settle_0 5 rfl
theorem dX1_settle_8 : decode cX1_settle 8 = .ok (.ishl, 1) := dAt (x := (8, .ishl, 1)) DX1_settle_0 6 rfl
theorem dX1_settle_9 : decode cX1_settle 9 = .ok (.if_icmp .ge 48, 3) := dAt (x := (9, .if_icmp .ge 48, 3)) DX1_settle_0 7 rfl
theorem dX1_settle_12 : decode cX1_settle 12 = .ok (.iload_n 1, 1) := dAt (x := (12, .iload_n 1, 1)) DX1_settle_0 8 rfl
theorem dX1_settle_13 : decode cX1_settle 13 = .ok (.sipush 256, 3) := dAt (x := (13, .sipush 256, 3)) DX1_settle_0 9 rfl
theorem dX1_settle_16 : decode cX1_settle 16 = .ok (.if_icmp .ge 41, 3) := dAt (x := (16, .if_icmp .ge 41, 3)) DX1_settle_0 10 rfl
theorem dX1_settle_19 : decode cX1_settle 19 = .ok (.iload_n 1, 1) := dAt (x := (19, .iload_n 1, 1)) DX1_settle_0 11 rfl
theorem dX1_settle_20 : decode cX1_settle 20 = .ok (.invokestatic 94, 3) := dAt (x := (20, .invokestatic 94, 3)) DX1_settle_0 12 rfl
theorem dX1_settle_23 : decode cX1_settle 23 = .ok (.istore_n 2, 1) := dAt (x := (23, .istore_n 2, 1)) DX1_settle_0 13 rfl
theorem dX1_settle_24 : decode cX1_settle 24 = .ok (.aload_n 0, 1) := dAt (x := (24, .aload_n 0, 1)) DX1_settle_0 14 rfl
theorem dX1_settle_25 : decode cX1_settle 25 = .ok (.getfield 24, 3) := dAt (x := (25, .getfield 24, 3)) DX1_settle_0 15 rfl
theorem dX1_settle_28 : decode cX1_settle 28 = .ok (.iload_n 1, 1) := dAt (x := (28, .iload_n 1, 1)) DX1_settle_0 16 rfl
theorem dX1_settle_29 : decode cX1_settle 29 = .ok (.aload_n 0, 1) := dAt (x := (29, .aload_n 0, 1)) DX1_settle_0 17 rfl
theorem dX1_settle_30 : decode cX1_settle 30 = .ok (.iload_n 1, 1) := dAt (x := (30, .iload_n 1, 1)) DX1_settle_0 18 rfl
theorem dX1_settle_31 : decode cX1_settle 31 = .ok (.iload_n 2, 1) := dAt (x := (31, .iload_n 2, 1)) DX1_settle_0 19 rfl
theorem dX1_settle_32 : decode cX1_settle 32 = .ok (.invokevirtual 100, 3) := dAt (x := (32, .invokevirtual 100, 3)) DX1_settle_0 20 rfl
theorem dX1_settle_35 : decode cX1_settle 35 = .ok (.iload_n 1, 1) := dAt (x := (35, .iload_n 1, 1)) DX1_settle_0 21 rfl
theorem dX1_settle_36 : decode cX1_settle 36 = .ok (.iconst (-1), 1) := dAt (x := (36, .iconst (-1), 1)) DX1_settle_0 22 rfl
theorem dX1_settle_37 : decode cX1_settle 37 = .ok (.ixor, 1) := dAt (x := (37, .ixor, 1)) DX1_settle_0 23 rfl
theorem dX1_settle_38 : decode cX1_settle 38 = .ok (.iand, 1) := dAt (x := (38, .iand, 1)) DX1_settle_0 24 rfl
theorem dX1_settle_39 : decode cX1_settle 39 = .ok (.aload_n 0, 1) := dAt (x := (39, .aload_n 0, 1)) DX1_settle_0 25 rfl
theorem dX1_settle_40 : decode cX1_settle 40 = .ok (.iload_n 1, 1) := dAt (x := (40, .iload_n 1, 1)) DX1_settle_0 26 rfl
theorem dX1_settle_41 : decode cX1_settle 41 = .ok (.iload_n 2, 1) := dAt (x := (41, .iload_n 2, 1)) DX1_settle_0 27 rfl
theorem dX1_settle_42 : decode cX1_settle 42 = .ok (.iconst 1, 1) := dAt (x := (42, .iconst 1, 1)) DX1_settle_0 28 rfl
theorem dX1_settle_43 : decode cX1_settle 43 = .ok (.isub, 1) := dAt (x := (43, .isub, 1)) DX1_settle_0 29 rfl
theorem dX1_settle_44 : decode cX1_settle 44 = .ok (.invokevirtual 100, 3) := dAt (x := (44, .invokevirtual 100, 3)) DX1_settle_0 30 rfl
theorem dX1_settle_47 : decode cX1_settle 47 = .ok (.iload_n 1, 1) := dAt (x := (47, .iload_n 1, 1)) DX1_settle_0 31 rfl
theorem dX1_settle_48 : decode cX1_settle 48 = .ok (.iand, 1) := dAt (x := (48, .iand, 1)) DX1_settle_0 32 rfl
theorem dX1_settle_49 : decode cX1_settle 49 = .ok (.ior, 1) := dAt (x := (49, .ior, 1)) DX1_settle_0 33 rfl
theorem dX1_settle_50 : decode cX1_settle 50 = .ok (.iastore, 1) := dAt (x := (50, .iastore, 1)) DX1_settle_0 34 rfl
theorem dX1_settle_51 : decode cX1_settle 51 = .ok (.iinc 1 1, 3) := dAt (x := (51, .iinc 1 1, 3)) DX1_settle_0 35 rfl
theorem dX1_settle_54 : decode cX1_settle 54 = .ok (.goto (-52), 3) := dAt (x := (54, .goto (-52), 3)) DX1_settle_0 36 rfl
theorem dX1_settle_57 : decode cX1_settle 57 = .ok (.return_, 1) := dAt (x := (57, .return_, 1)) DX1_settle_0 37 rfl
def lDX1_openBy_0 : List (Nat × Instr × Nat) := [(0, .aload_n 0, 1), (1, .getfield 49, 3), (4, .iload_n 1, 1), (5, .putfield 104, 3), (8, .aload_n 0, 1), (9, .getfield 49, 3), (12, .iload_n 2, 1), (13, .putfield 107, 3), (16, .aload_n 0, 1), (17, .getfield 49, 3), (20, .aload_n 0, 1), (21, .invokevirtual 110, 3), (24, .aload_n 0, 1), (25, .getfield 66, 3), (28, .iconst (-1), 1), (29, .ixor, 1), (30, .iand, 1), (31, .putfield 114, 3), (34, .iconst 0, 1), (35, .istore_n 3, 1), (36, .iload_n 3, 1), (37, .aload_n 0, 1), (38, .getfield 63, 3), (41, .if_icmp .ge 84, 3), (44, .iload_n 3, 1), (45, .bipush 8, 2), (47, .if_icmp .ge 78, 3), (50, .aload_n 0, 1), (51, .getfield 15, 3), (54, .iload_n 3, 1), (55, .iaload, 1), (56, .istore 4, 2), (58, .aload_n 0, 1), (59, .iload 4, 2), (61, .invokevirtual 90, 3), (64, .ifCond .eq 55, 3), (67, .aload_n 0, 1), (68, .getfield 42, 3), (71, .aload_n 0, 1), (72, .getfield 18, 3), (75, .iconst 2, 1), (76, .iload 4, 2), (78, .imul, 1), (79, .iaload, 1), (80, .aload_n 0, 1), (81, .getfield 18, 3), (84, .iconst 2, 1), (85, .iload 4, 2), (87, .imul, 1), (88, .iconst 1, 1), (89, .iadd, 1), (90, .iaload, 1), (91, .aload_n 0, 1), (92, .getfield 49, 3), (95, .invokevirtual 116, 3), (98, .lconst 0, 1), (99, .lcmp, 1), (100, .ifCond .eq 19, 3), (103, .aload_n 0, 1), (104, .getfield 49, 3)]
theorem DX1_openBy_0 : dAll cX1_openBy lDX1_openBy_0 = true := by decide +kernel
theorem dX1_openBy_0 : decode cX1_openBy 0 = .ok (.aload_n 0, 1) := dAt (x := (0, .aload_n 0, 1)) DX1_openBy_0 0 rfl
theorem dX1_openBy_1 : decode cX1_openBy 1 = .ok (.getfield 49, 3) := dAt (x := (1, .getfield 49, 3)) DX1_openBy_0 1 rfl
theorem dX1_openBy_4 : decode cX1_openBy 4 = .ok (.iload_n 1, 1) := dAt (x := (4, .iload_n 1, 1)) DX1_openBy_0 2 rfl
theorem dX1_openBy_5 : decode cX1_openBy 5 = .ok (.putfield 104, 3) := dAt (x := (5, .putfield 104, 3)) DX1_openBy_0 3 rfl
theorem dX1_openBy_8 : decode cX1_openBy 8 = .ok (.aload_n 0, 1) := dAt (x := (8, .aload_n 0, 1)) DX1_openBy_0 4 rfl
theorem dX1_openBy_9 : decode cX1_openBy 9 = .ok (.getfield 49, 3) := dAt (x := (9, .getfield 49, 3)) DX1_openBy_0 5 rfl
theorem dX1_openBy_12 : decode cX1_openBy 12 = .ok (.iload_n 2, 1) := dAt (x := (12, .iload_n 2, 1)) DX1_openBy_0 6 rfl
theorem dX1_openBy_13 : decode cX1_openBy 13 = .ok (.putfield 107, 3) := dAt (x := (13, .putfield 107, 3)) DX1_openBy_0 7 rfl
theorem dX1_openBy_16 : decode cX1_openBy 16 = .ok (.aload_n 0, 1) := dAt (x := (16, .aload_n 0, 1)) DX1_openBy_0 8 rfl
theorem dX1_openBy_17 : decode cX1_openBy 17 = .ok (.getfield 49, 3) := dAt (x := (17, .getfield 49, 3)) DX1_openBy_0 9 rfl
theorem dX1_openBy_20 : decode cX1_openBy 20 = .ok (.aload_n 0, 1) := dAt (x := (20, .aload_n 0, 1)) DX1_openBy_0 10 rfl
theorem dX1_openBy_21 : decode cX1_openBy 21 = .ok (.invokevirtual 110, 3) := dAt (x := (21, .invokevirtual 110, 3)) DX1_openBy_0 11 rfl
theorem dX1_openBy_24 : decode cX1_openBy 24 = .ok (.aload_n 0, 1) := dAt (x := (24, .aload_n 0, 1)) DX1_openBy_0 12 rfl
theorem dX1_openBy_25 : decode cX1_openBy 25 = .ok (.getfield 66, 3) := dAt (x := (25, .getfield 66, 3)) DX1_openBy_0 13 rfl
theorem dX1_openBy_28 : decode cX1_openBy 28 = .ok (.iconst (-1), 1) := dAt (x := (28, .iconst (-1), 1)) DX1_openBy_0 14 rfl
theorem dX1_openBy_29 : decode cX1_openBy 29 = .ok (.ixor, 1) := dAt (x := (29, .ixor, 1)) DX1_openBy_0 15 rfl
theorem dX1_openBy_30 : decode cX1_openBy 30 = .ok (.iand, 1) := dAt (x := (30, .iand, 1)) DX1_openBy_0 16 rfl
theorem dX1_openBy_31 : decode cX1_openBy 31 = .ok (.putfield 114, 3) := dAt (x := (31, .putfield 114, 3)) DX1_openBy_0 17 rfl
theorem dX1_openBy_34 : decode cX1_openBy 34 = .ok (.iconst 0, 1) := dAt (x := (34, .iconst 0, 1)) DX1_openBy_0 18 rfl
theorem dX1_openBy_35 : decode cX1_openBy 35 = .ok (.istore_n 3, 1) := dAt (x := (35, .istore_n 3, 1)) DX1_openBy_0 19 rfl
theorem dX1_openBy_36 : decode cX1_openBy 36 = .ok (.iload_n 3, 1) := dAt (x := (36, .iload_n 3, 1)) DX1_openBy_0 20 rfl
theorem dX1_openBy_37 : decode cX1_openBy 37 = .ok (.aload_n 0, 1) := dAt (x := (37, .aload_n 0, 1)) DX1_openBy_0 21 rfl
theorem dX1_openBy_38 : decode cX1_openBy 38 = .ok (.getfield 63, 3) := dAt (x := (38, .getfield 63, 3)) DX1_openBy_0 22 rfl
theorem dX1_openBy_41 : decode cX1_openBy 41 = .ok (.if_icmp .ge 84, 3) := dAt (x := (41, .if_icmp .ge 84, 3)) DX1_openBy_0 23 rfl
theorem dX1_openBy_44 : decode cX1_openBy 44 = .ok (.iload_n 3, 1) := dAt (x := (44, .iload_n 3, 1)) DX1_openBy_0 24 rfl
theorem dX1_openBy_45 : decode cX1_openBy 45 = .ok (.bipush 8, 2) := dAt (x := (45, .bipush 8, 2)) DX1_openBy_0 25 rfl
theorem dX1_openBy_47 : decode cX1_openBy 47 = .ok (.if_icmp .ge 78, 3) := dAt (x := (47, .if_icmp .ge 78, 3)) DX1_openBy_0 26 rfl
theorem dX1_openBy_50 : decode cX1_openBy 50 = .ok (.aload_n 0, 1) := dAt (x := (50, .aload_n 0, 1)) DX1_openBy_0 27 rfl
theorem dX1_openBy_51 : decode cX1_openBy 51 = .ok (.getfield 15, 3) := dAt (x := (51, .getfield 15, 3)) DX1_openBy_0 28 rfl
theorem dX1_openBy_54 : decode cX1_openBy 54 = .ok (.iload_n 3, 1) := dAt (x := (54, .iload_n 3, 1)) DX1_openBy_0 29 rfl
theorem dX1_openBy_55 : decode cX1_openBy 55 = .ok (.iaload, 1) := dAt (x := (55, .iaload, 1)) DX1_openBy_0 30 rfl
theorem dX1_openBy_56 : decode cX1_openBy 56 = .ok (.istore 4, 2) := dAt (x := (56, .istore 4, 2)) DX1_openBy_0 31 rfl
theorem dX1_openBy_58 : decode cX1_openBy 58 = .ok (.aload_n 0, 1) := dAt (x := (58, .aload_n 0, 1)) DX1_openBy_0 32 rfl
theorem dX1_openBy_59 : decode cX1_openBy 59 = .ok (.iload 4, 2) := dAt (x := (59, .iload 4, 2)) DX1_openBy_0 33 rfl
theorem dX1_openBy_61 : decode cX1_openBy 61 = .ok (.invokevirtual 90, 3) := dAt (x := (61, .invokevirtual 90, 3)) DX1_openBy_0 34 rfl
theorem dX1_openBy_64 : decode cX1_openBy 64 = .ok (.ifCond .eq 55, 3) := dAt (x := (64, .ifCond .eq 55, 3)) DX1_openBy_0 35 rfl
theorem dX1_openBy_67 : decode cX1_openBy 67 = .ok (.aload_n 0, 1) := dAt (x := (67, .aload_n 0, 1)) DX1_openBy_0 36 rfl
theorem dX1_openBy_68 : decode cX1_openBy 68 = .ok (.getfield 42, 3) := dAt (x := (68, .getfield 42, 3)) DX1_openBy_0 37 rfl
theorem dX1_openBy_71 : decode cX1_openBy 71 = .ok (.aload_n 0, 1) := dAt (x := (71, .aload_n 0, 1)) DX1_openBy_0 38 rfl
theorem dX1_openBy_72 : decode cX1_openBy 72 = .ok (.getfield 18, 3) := dAt (x := (72, .getfield 18, 3)) DX1_openBy_0 39 rfl
theorem dX1_openBy_75 : decode cX1_openBy 75 = .ok (.iconst 2, 1) := dAt (x := (75, .iconst 2, 1)) DX1_openBy_0 40 rfl
theorem dX1_openBy_76 : decode cX1_openBy 76 = .ok (.iload 4, 2) := dAt (x := (76, .iload 4, 2)) DX1_openBy_0 41 rfl
theorem dX1_openBy_78 : decode cX1_openBy 78 = .ok (.imul, 1) := dAt (x := (78, .imul, 1)) DX1_openBy_0 42 rfl
theorem dX1_openBy_79 : decode cX1_openBy 79 = .ok (.iaload, 1) := dAt (x := (79, .iaload, 1)) DX1_openBy_0 43 rfl
theorem dX1_openBy_80 : decode cX1_openBy 80 = .ok (.aload_n 0, 1) := dAt (x := (80, .aload_n 0, 1)) DX1_openBy_0 44 rfl
theorem dX1_openBy_81 : decode cX1_openBy 81 = .ok (.getfield 18, 3) := dAt (x := (81, .getfield 18, 3)) DX1_openBy_0 45 rfl
theorem dX1_openBy_84 : decode cX1_openBy 84 = .ok (.iconst 2, 1) := dAt (x := (84, .iconst 2, 1)) DX1_openBy_0 46 rfl
theorem dX1_openBy_85 : decode cX1_openBy 85 = .ok (.iload 4, 2) := dAt (x := (85, .iload 4, 2)) DX1_openBy_0 47 rfl
theorem dX1_openBy_87 : decode cX1_openBy 87 = .ok (.imul, 1) := dAt (x := (87, .imul, 1)) DX1_openBy_0 48 rfl
theorem dX1_openBy_88 : decode cX1_openBy 88 = .ok (.iconst 1, 1) := dAt (x := (88, .iconst 1, 1)) DX1_openBy_0 49 rfl
theorem dX1_openBy_89 : decode cX1_openBy 89 = .ok (.iadd, 1) := dAt (x := (89, .iadd, 1)) DX1_openBy_0 50 rfl
theorem dX1_openBy_90 : decode cX1_openBy 90 = .ok (.iaload, 1) := dAt (x := (90, .iaload, 1)) DX1_openBy_0 51 rfl
theorem dX1_openBy_91 : decode cX1_openBy 91 = .ok (.aload_n 0, 1) := dAt (x := (91, .aload_n 0, 1)) DX1_openBy_0 52 rfl
theorem dX1_openBy_92 : decode cX1_openBy 92 = .ok (.getfield 49, 3) := dAt (x := (92, .getfield 49, 3)) DX1_openBy_0 53 rfl
theorem dX1_openBy_95 : decode cX1_openBy 95 = .ok (.invokevirtual 116, 3) := dAt (x := (95, .invokevirtual 116, 3)) DX1_openBy_0 54 rfl
theorem dX1_openBy_98 : decode cX1_openBy 98 = .ok (.lconst 0, 1) := dAt (x := (98, .lconst 0, 1)) DX1_openBy_0 55 rfl
theorem dX1_openBy_99 : decode cX1_openBy 99 = .ok (.lcmp, 1) := dAt (x := (99, .lcmp, 1)) DX1_openBy_0 56 rfl
theorem dX1_openBy_100 : decode cX1_openBy 100 = .ok (.ifCond .eq 19, 3) := dAt (x := (100, .ifCond .eq 19, 3)) DX1_openBy_0 57 rfl
theorem dX1_openBy_103 : decode cX1_openBy 103 = .ok (.aload_n 0, 1) := dAt (x := (103, .aload_n 0, 1)) DX1_openBy_0 58 rfl
theorem dX1_openBy_104 : decode cX1_openBy 104 = .ok (.getfield 49, 3) := dAt (x := (104, .getfield 49, 3)) DX1_openBy_0 59 rfl
def lDX1_openBy_1 : List (Nat × Instr × Nat) := [(107, .dup, 1), (108, .getfield 114, 3), (111, .iconst 1, 1), (112, .iload 4, 2), (114, .ishl, 1), (115, .ior, 1), (116, .putfield 114, 3), (119, .iinc 3 1, 3), (122, .goto (-86), 3), (125, .aload_n 0, 1), (126, .getfield 49, 3), (129, .getfield 114, 3), (132, .ireturn, 1)]
theorem DX1_openBy_1 : dAll cX1_openBy lDX1_openBy_1 = true := by decide +kernel
theorem dX1_openBy_107 : decode cX1_openBy 107 = .ok (.dup, 1) := dAt (x := (107, .dup, 1)) DX1_openBy_1 0 rfl
theorem dX1_openBy_108 : decode cX1_openBy 108 = .ok (.getfield 114, 3) := dAt (x := (108, .getfield 114, 3)) DX1_openBy_1 1 rfl
theorem dX1_openBy_111 : decode cX1_openBy 111 = .ok (.iconst 1, 1) := dAt (x := (111, .iconst 1, 1)) DX1_openBy_1 2 rfl
theorem dX1_openBy_112 : decode cX1_openBy 112 = .ok (.iload 4, 2) := dAt (x := (112, .iload 4, 2)) DX1_openBy_1 3 rfl
theorem dX1_openBy_114 : decode cX1_openBy 114 = .ok (.ishl, 1) := dAt (x := (114, .ishl, 1)) DX1_openBy_1 4 rfl
theorem dX1_openBy_115 : decode cX1_openBy 115 = .ok (.ior, 1) := dAt (x := (115, .ior, 1)) DX1_openBy_1 5 rfl
theorem dX1_openBy_116 : decode cX1_openBy 116 = .ok (.putfield 114, 3) := dAt (x := (116, .putfield 114, 3)) DX1_openBy_1 6 rfl
theorem dX1_openBy_119 : decode cX1_openBy 119 = .ok (.iinc 3 1, 3) := dAt (x := (119, .iinc 3 1, 3)) DX1_openBy_1 7 rfl
theorem dX1_openBy_122 : decode cX1_openBy 122 = .ok (.goto (-86), 3) := dAt (x := (122, .goto (-86), 3)) DX1_openBy_1 8 rfl
theorem dX1_openBy_125 : decode cX1_openBy 125 = .ok (.aload_n 0, 1) := dAt (x := (125, .aload_n 0, 1)) DX1_openBy_1 9 rfl
theorem dX1_openBy_126 : decode cX1_openBy 126 = .ok (.getfield 49, 3) := dAt (x := (126, .getfield 49, 3)) DX1_openBy_1 10 rfl
theorem dX1_openBy_129 : decode cX1_openBy 129 = .ok (.getfield 114, 3) := dAt (x := (129, .getfield 114, 3)) DX1_openBy_1 11 rfl
theorem dX1_openBy_132 : decode cX1_openBy 132 = .ok (.ireturn, 1) := dAt (x := (132, .ireturn, 1)) DX1_openBy_1 12 rfl
def lDX1_movable_0 : List (Nat × Instr × Nat) := [(0, .aload_n 0, 1), (1, .iload_n 1, 1), (2, .invokevirtual 120, 3), (5, .ifCond .eq 16, 3), (8, .aload_n 0, 1), (9, .getfield 24, 3), (12, .iload_n 1, 1), (13, .iaload, 1), (14, .iload_n 2, 1), (15, .iconst (-1), 1), (16, .ixor, 1), (17, .iand, 1), (18, .goto 4, 3), (21, .iconst 0, 1), (22, .ireturn, 1)]
theorem DX1_movable_0 : dAll cX1_movable lDX1_movable_0 = true := by decide +kernel
theorem dX1_movable_0 : decode cX1_movable 0 = .ok (.aload_n 0, 1) := dAt (x := (0, .aload_n 0, 1)) DX1_movable_0 0 rfl
theorem dX1_movable_1 : decode cX1_movable 1 = .ok (.iload_n 1, 1) := dAt (x := (1, .iload_n 1, 1)) DX1_movable_0 1 rfl
theorem dX1_movable_2 : decode cX1_movable 2 = .ok (.invokevirtual 120, 3) := dAt (x := (2, .invokevirtual 120, 3)) DX1_movable_0 2 rfl
theorem dX1_movable_5 : decode cX1_movable 5 = .ok (.ifCond .eq 16, 3) := dAt (x := (5, .ifCond .eq 16, 3)) DX1_movable_0 3 rfl
theorem dX1_movable_8 : decode cX1_movable 8 = .ok (.aload_n 0, 1) := dAt (x := (8, .aload_n 0, 1)) DX1_movable_0 4 rfl
theorem dX1_movable_9 : decode cX1_movable 9 = .ok (.getfield 24, 3) := dAt (x := (9, .getfield 24, 3)) DX1_movable_0 5 rfl
theorem dX1_movable_12 : decode cX1_movable 12 = .ok (.iload_n 1, 1) := dAt (x := (12, .iload_n 1, 1)) DX1_movable_0 6 rfl
theorem dX1_movable_13 : decode cX1_movable 13 = .ok (.iaload, 1) := dAt (x := (13, .iaload, 1)) DX1_movable_0 7 rfl
theorem dX1_movable_14 : decode cX1_movable 14 = .ok (.iload_n 2, 1) := dAt (x := (14, .iload_n 2, 1)) DX1_movable_0 8 rfl
theorem dX1_movable_15 : decode cX1_movable 15 = .ok (.iconst (-1), 1) := dAt (x := (15, .iconst (-1), 1)) DX1_movable_0 9 rfl
theorem dX1_movable_16 : decode cX1_movable 16 = .ok (.ixor, 1) := dAt (x := (16, .ixor, 1)) DX1_movable_0 10 rfl
theorem dX1_movable_17 : decode cX1_movable 17 = .ok (.iand, 1) := dAt (x := (17, .iand, 1)) DX1_movable_0 11 rfl
theorem dX1_movable_18 : decode cX1_movable 18 = .ok (.goto 4, 3) := dAt (x := (18, .goto 4, 3)) DX1_movable_0 12 rfl
theorem dX1_movable_21 : decode cX1_movable 21 = .ok (.iconst 0, 1) := dAt (x := (21, .iconst 0, 1)) DX1_movable_0 13 rfl
theorem dX1_movable_22 : decode cX1_movable 22 = .ok (.ireturn, 1) := dAt (x := (22, .ireturn, 1)) DX1_movable_0 14 rfl
def lDX2_init_0 : List (Nat × Instr × Nat) := [(0, .aload_n 0, 1), (1, .invokespecial 3, 3), (4, .aload_n 0, 1), (5, .bipush 64, 2), (7, .newarray .int, 2), (9, .putfield 9, 3), (12, .aload_n 0, 1), (13, .bipush 64, 2), (15, .newarray .int, 2), (17, .putfield 15, 3), (20, .aload_n 0, 1), (21, .bipush 64, 2), (23, .newarray .long, 2), (25, .putfield 18, 3), (28, .return_, 1)]
theorem DX2_init_0 : dAll cX2_init lDX2_init_0 = true := by decide +kernel
theorem dX2_init_0 : decode cX2_init 0 = .ok (.aload_n 0, 1) := dAt (x := (0, .aload_n 0, 1)) DX2_init_0 0 rfl
theorem dX2_init_1 : decode cX2_init 1 = .ok (.invokespecial 3, 3) := dAt (x := (1, .invokespecial 3, 3)) DX2_init_0 1 rfl
theorem dX2_init_4 : decode cX2_init 4 = .ok (.aload_n 0, 1) := dAt (x := (4, .aload_n 0, 1)) DX2_init_0 2 rfl
theorem dX2_init_5 : decode cX2_init 5 = .ok (.bipush 64, 2) := dAt (x := (5, .bipush 64, 2)) DX2_init_0 3 rfl
theorem dX2_init_7 : decode cX2_init 7 = .ok (.newarray .int, 2) := dAt (x := (7, .newarray .int, 2)) DX2_init_0 4 rfl
theorem dX2_init_9 : decode cX2_init 9 = .ok (.putfield 9, 3) := dAt (x := (9, .putfield 9, 3)) DX2_init_0 5 rfl
theorem dX2_init_12 : decode cX2_init 12 = .ok (.aload_n 0, 1) := dAt (x := (12, .aload_n 0, 1)) DX2_init_0 6 rfl
theorem dX2_init_13 : decode cX2_init 13 = .ok (.bipush 64, 2) := dAt (x := (13, .bipush 64, 2)) DX2_init_0 7 rfl
theorem dX2_init_15 : decode cX2_init 15 = .ok (.newarray .int, 2) := dAt (x := (15, .newarray .int, 2)) DX2_init_0 8 rfl
theorem dX2_init_17 : decode cX2_init 17 = .ok (.putfield 15, 3) := dAt (x := (17, .putfield 15, 3)) DX2_init_0 9 rfl
theorem dX2_init_20 : decode cX2_init 20 = .ok (.aload_n 0, 1) := dAt (x := (20, .aload_n 0, 1)) DX2_init_0 10 rfl
theorem dX2_init_21 : decode cX2_init 21 = .ok (.bipush 64, 2) := dAt (x := (21, .bipush 64, 2)) DX2_init_0 11 rfl
theorem dX2_init_23 : decode cX2_init 23 = .ok (.newarray .long, 2) := dAt (x := (23, .newarray .long, 2)) DX2_init_0 12 rfl
theorem dX2_init_25 : decode cX2_init 25 = .ok (.putfield 18, 3) := dAt (x := (25, .putfield 18, 3)) DX2_init_0 13 rfl
theorem dX2_init_28 : decode cX2_init 28 = .ok (.return_, 1) := dAt (x := (28, .return_, 1)) DX2_init_0 14 rfl
def lDX2_add_0 : List (Nat × Instr × Nat) := [(0, .aload_n 0, 1), (1, .getfield 22, 3), (4, .bipush 64, 2), (6, .if_icmp .ge 33, 3), (9, .aload_n 0, 1), (10, .getfield 9, 3), (13, .aload_n 0, 1), (14, .getfield 22, 3), (17, .iload_n 1, 1), (18, .iastore, 1), (19, .aload_n 0, 1), (20, .getfield 15, 3), (23, .aload_n 0, 1), (24, .getfield 22, 3), (27, .iload_n 2, 1), (28, .iastore, 1), (29, .aload_n 0, 1), (30, .dup, 1), (31, .getfield 22, 3), (34, .iconst 1, 1), (35, .iadd, 1), (36, .putfield 22, 3), (39, .return_, 1)]
theorem DX2_add_0 : dAll cX2_add lDX2_add_0 = true := by decide +kernel
theorem dX2_add_0 : decode cX2_add 0 = .ok (.aload_n 0, 1) := dAt (x := (0, .aload_n 0, 1)) DX2_add_0 0 rfl
theorem dX2_add_1 : decode cX2_add 1 = .ok (.getfield 22, 3) := dAt (x := (1, .getfield 22, 3)) DX2_add_0 1 rfl
theorem dX2_add_4 : decode cX2_add 4 = .ok (.bipush 64, 2) := dAt (x := (4, .bipush 64, 2)) DX2_add_0 2 rfl
theorem dX2_add_6 : decode cX2_add 6 = .ok (.if_icmp .ge 33, 3) := dAt (x := (6, .if_icmp .ge 33, 3)) DX2_add_0 3 rfl
theorem dX2_add_9 : decode cX2_add 9 = .ok (.aload_n 0, 1) := dAt (x := (9, .aload_n 0, 1)) DX2_add_0 4 rfl
theorem dX2_add_10 : decode cX2_add 10 = .ok (.getfield 9, 3) := dAt (x := (10, .getfield 9, 3)) DX2_add_0 5 rfl
theorem dX2_add_13 : decode cX2_add 13 = .ok (.aload_n 0, 1) := dAt (x := (13, .aload_n 0, 1)) DX2_add_0 6 rfl
theorem dX2_add_14 : decode cX2_add 14 = .ok (.getfield 22, 3) := dAt (x := (14, .getfield 22, 3)) DX2_add_0 7 rfl
theorem dX2_add_17 : decode cX2_add 17 = .ok (.iload_n 1, 1) := dAt (x := (17, .iload_n 1, 1)) DX2_add_0 8 rfl
theorem dX2_add_18 : decode cX2_add 18 = .ok (.iastore, 1) := dAt (x := (18, .iastore, 1)) DX2_add_0 9 rfl
theorem dX2_add_19 : decode cX2_add 19 = .ok (.aload_n 0, 1) := dAt (x := (19, .aload_n 0, 1)) DX2_add_0 10 rfl
theorem dX2_add_20 : decode cX2_add 20 = .ok (.getfield 15, 3) := dAt (x := (20, .getfield 15, 3)) DX2_add_0 11 rfl
theorem dX2_add_23 : decode cX2_add 23 = .ok (.aload_n 0, 1) := dAt (x := (23, .aload_n 0, 1)) DX2_add_0 12 rfl
theorem dX2_add_24 : decode cX2_add 24 = .ok (.getfield 22, 3) := dAt (x := (24, .getfield 22, 3)) DX2_add_0 13 rfl
theorem dX2_add_27 : decode cX2_add 27 = .ok (.iload_n 2, 1) := dAt (x := (27, .iload_n 2, 1)) DX2_add_0 14 rfl
theorem dX2_add_28 : decode cX2_add 28 = .ok (.iastore, 1) := dAt (x := (28, .iastore, 1)) DX2_add_0 15 rfl
theorem dX2_add_29 : decode cX2_add 29 = .ok (.aload_n 0, 1) := dAt (x := (29, .aload_n 0, 1)) DX2_add_0 16 rfl
theorem dX2_add_30 : decode cX2_add 30 = .ok (.dup, 1) := dAt (x := (30, .dup, 1)) DX2_add_0 17 rfl
theorem dX2_add_31 : decode cX2_add 31 = .ok (.getfield 22, 3) := dAt (x := (31, .getfield 22, 3)) DX2_add_0 18 rfl
theorem dX2_add_34 : decode cX2_add 34 = .ok (.iconst 1, 1) := dAt (x := (34, .iconst 1, 1)) DX2_add_0 19 rfl
theorem dX2_add_35 : decode cX2_add 35 = .ok (.iadd, 1) := dAt (x := (35, .iadd, 1)) DX2_add_0 20 rfl
theorem dX2_add_36 : decode cX2_add 36 = .ok (.putfield 22, 3) := dAt (x := (36, .putfield 22, 3)) DX2_add_0 21 rfl
theorem dX2_add_39 : decode cX2_add 39 = .ok (.return_, 1) := dAt (x := (39, .return_, 1)) DX2_add_0 22 rfl
def lDX2_worth_0 : List (Nat × Instr × Nat) := [(0, .iload_n 1, 1), (1, .ifCond .ge 7, 3), (4, .ldc2_w 26, 3), (7, .lreturn, 1), (8, .iconst 0, 1), (9, .istore 4, 2), (11, .iload_n 1, 1), (12, .istore 5, 2), (14, .iload 5, 2), (16, .iload_n 2, 1), (17, .if_icmp .ge 183, 3), (20, .iload 5, 2), (22, .bipush 64, 2), (24, .if_icmp .ge 176, 3), (27, .aload_n 0, 1), (28, .getfield 9, 3), (31, .iload 5, 2), (33, .iaload, 1), (34, .invokestatic 28, 3), (37, .istore 6, 2), (39, .iload 4, 2), (41, .iload 6, 2), (43, .if_icmp .lt 10, 3), (46, .iload 4, 2), (48, .bipush 64, 2), (50, .if_icmp .lt 7, 3), (53, .ldc2_w 26, 3), (56, .lreturn, 1), (57, .iload 4, 2), (59, .iload 6, 2), (61, .isub, 1), (62, .istore 4, 2), (64, .iload 6, 2), (66, .ifCond .ne 32, 3), (69, .aload_n 0, 1), (70, .getfield 18, 3), (73, .iload 4, 2), (75, .aload_n 3, 1), (76, .aload_n 0, 1), (77, .getfield 9, 3), (80, .iload 5, 2), (82, .iaload, 1), (83, .aload_n 0, 1), (84, .getfield 15, 3), (87, .iload 5, 2), (89, .iaload, 1), (90, .invokevirtual 32, 3), (93, .i2l, 1), (94, .lastore, 1), (95, .goto 78, 3), (98, .iload 6, 2), (100, .iconst 1, 1), (101, .if_icmp .ne 30, 3), (104, .aload_n 0, 1), (105, .getfield 18, 3), (108, .iload 4, 2), (110, .aload_n 0, 1), (111, .getfield 18, 3), (114, .iload 4, 2), (116, .laload, 1)]
theorem DX2_worth_0 : dAll cX2_worth lDX2_worth_0 = true := by decide +kernel
theorem dX2_worth_0 : decode cX2_worth 0 = .ok (.iload_n 1, 1) := dAt (x := (0, .iload_n 1, 1)) DX2_worth_0 0 rfl
theorem dX2_worth_1 : decode cX2_worth 1 = .ok (.ifCond .ge 7, 3) := dAt (x := (1, .ifCond .ge 7, 3)) DX2_worth_0 1 rfl
theorem dX2_worth_4 : decode cX2_worth 4 = .ok (.ldc2_w 26, 3) := dAt (x := (4, .ldc2_w 26, 3)) DX2_worth_0 2 rfl
theorem dX2_worth_7 : decode cX2_worth 7 = .ok (.lreturn, 1) := dAt (x := (7, .lreturn, 1)) DX2_worth_0 3 rfl
theorem dX2_worth_8 : decode cX2_worth 8 = .ok (.iconst 0, 1) := dAt (x := (8, .iconst 0, 1)) DX2_worth_0 4 rfl
theorem dX2_worth_9 : decode cX2_worth 9 = .ok (.istore 4, 2) := dAt (x := (9, .istore 4, 2)) DX2_worth_0 5 rfl
theorem dX2_worth_11 : decode cX2_worth 11 = .ok (.iload_n 1, 1) := dAt (x := (11, .iload_n 1, 1)) DX2_worth_0 6 rfl
theorem dX2_worth_12 : decode cX2_worth 12 = .ok (.istore 5, 2) := dAt (x := (12, .istore 5, 2)) DX2_worth_0 7 rfl
theorem dX2_worth_14 : decode cX2_worth 14 = .ok (.iload 5, 2) := dAt (x := (14, .iload 5, 2)) DX2_worth_0 8 rfl
theorem dX2_worth_16 : decode cX2_worth 16 = .ok (.iload_n 2, 1) := dAt (x := (16, .iload_n 2, 1)) DX2_worth_0 9 rfl
theorem dX2_worth_17 : decode cX2_worth 17 = .ok (.if_icmp .ge 183, 3) := dAt (x := (17, .if_icmp .ge 183, 3)) DX2_worth_0 10 rfl
theorem dX2_worth_20 : decode cX2_worth 20 = .ok (.iload 5, 2) := dAt (x := (20, .iload 5, 2)) DX2_worth_0 11 rfl
theorem dX2_worth_22 : decode cX2_worth 22 = .ok (.bipush 64, 2) := dAt (x := (22, .bipush 64, 2)) DX2_worth_0 12 rfl
theorem dX2_worth_24 : decode cX2_worth 24 = .ok (.if_icmp .ge 176, 3) := dAt (x := (24, .if_icmp .ge 176, 3)) DX2_worth_0 13 rfl
theorem dX2_worth_27 : decode cX2_worth 27 = .ok (.aload_n 0, 1) := dAt (x := (27, .aload_n 0, 1)) DX2_worth_0 14 rfl
theorem dX2_worth_28 : decode cX2_worth 28 = .ok (.getfield 9, 3) := dAt (x := (28, .getfield 9, 3)) DX2_worth_0 15 rfl
theorem dX2_worth_31 : decode cX2_worth 31 = .ok (.iload 5, 2) := dAt (x := (31, .iload 5, 2)) DX2_worth_0 16 rfl
theorem dX2_worth_33 : decode cX2_worth 33 = .ok (.iaload, 1) := dAt (x := (33, .iaload, 1)) DX2_worth_0 17 rfl
theorem dX2_worth_34 : decode cX2_worth 34 = .ok (.invokestatic 28, 3) := dAt (x := (34, .invokestatic 28, 3)) DX2_worth_0 18 rfl
theorem dX2_worth_37 : decode cX2_worth 37 = .ok (.istore 6, 2) := dAt (x := (37, .istore 6, 2)) DX2_worth_0 19 rfl
theorem dX2_worth_39 : decode cX2_worth 39 = .ok (.iload 4, 2) := dAt (x := (39, .iload 4, 2)) DX2_worth_0 20 rfl
theorem dX2_worth_41 : decode cX2_worth 41 = .ok (.iload 6, 2) := dAt (x := (41, .iload 6, 2)) DX2_worth_0 21 rfl
theorem dX2_worth_43 : decode cX2_worth 43 = .ok (.if_icmp .lt 10, 3) := dAt (x := (43, .if_icmp .lt 10, 3)) DX2_worth_0 22 rfl
theorem dX2_worth_46 : decode cX2_worth 46 = .ok (.iload 4, 2) := dAt (x := (46, .iload 4, 2)) DX2_worth_0 23 rfl
theorem dX2_worth_48 : decode cX2_worth 48 = .ok (.bipush 64, 2) := dAt (x := (48, .bipush 64, 2)) DX2_worth_0 24 rfl
theorem dX2_worth_50 : decode cX2_worth 50 = .ok (.if_icmp .lt 7, 3) := dAt (x := (50, .if_icmp .lt 7, 3)) DX2_worth_0 25 rfl
theorem dX2_worth_53 : decode cX2_worth 53 = .ok (.ldc2_w 26, 3) := dAt (x := (53, .ldc2_w 26, 3)) DX2_worth_0 26 rfl
theorem dX2_worth_56 : decode cX2_worth 56 = .ok (.lreturn, 1) := dAt (x := (56, .lreturn, 1)) DX2_worth_0 27 rfl
theorem dX2_worth_57 : decode cX2_worth 57 = .ok (.iload 4, 2) := dAt (x := (57, .iload 4, 2)) DX2_worth_0 28 rfl
theorem dX2_worth_59 : decode cX2_worth 59 = .ok (.iload 6, 2) := dAt (x := (59, .iload 6, 2)) DX2_worth_0 29 rfl
theorem dX2_worth_61 : decode cX2_worth 61 = .ok (.isub, 1) := dAt (x := (61, .isub, 1)) DX2_worth_0 30 rfl
theorem dX2_worth_62 : decode cX2_worth 62 = .ok (.istore 4, 2) := dAt (x := (62, .istore 4, 2)) DX2_worth_0 31 rfl
theorem dX2_worth_64 : decode cX2_worth 64 = .ok (.iload 6, 2) := dAt (x := (64, .iload 6, 2)) DX2_worth_0 32 rfl
theorem dX2_worth_66 : decode cX2_worth 66 = .ok (.ifCond .ne 32, 3) := dAt (x := (66, .ifCond .ne 32, 3)) DX2_worth_0 33 rfl
theorem dX2_worth_69 : decode cX2_worth 69 = .ok (.aload_n 0, 1) := dAt (x := (69, .aload_n 0, 1)) DX2_worth_0 34 rfl
theorem dX2_worth_70 : decode cX2_worth 70 = .ok (.getfield 18, 3) := dAt (x := (70, .getfield 18, 3)) DX2_worth_0 35 rfl
theorem dX2_worth_73 : decode cX2_worth 73 = .ok (.iload 4, 2) := dAt (x := (73, .iload 4, 2)) DX2_worth_0 36 rfl
theorem dX2_worth_75 : decode cX2_worth 75 = .ok (.aload_n 3, 1) := dAt (x := (75, .aload_n 3, 1)) DX2_worth_0 37 rfl
theorem dX2_worth_76 : decode cX2_worth 76 = .ok (.aload_n 0, 1) := dAt (x := (76, .aload_n 0, 1)) DX2_worth_0 38 rfl
theorem dX2_worth_77 : decode cX2_worth 77 = .ok (.getfield 9, 3) := dAt (x := (77, .getfield 9, 3)) DX2_worth_0 39 rfl
theorem dX2_worth_80 : decode cX2_worth 80 = .ok (.iload 5, 2) := dAt (x := (80, .iload 5, 2)) DX2_worth_0 40 rfl
theorem dX2_worth_82 : decode cX2_worth 82 = .ok (.iaload, 1) := dAt (x := (82, .iaload, 1)) DX2_worth_0 41 rfl
theorem dX2_worth_83 : decode cX2_worth 83 = .ok (.aload_n 0, 1) := dAt (x := (83, .aload_n 0, 1)) DX2_worth_0 42 rfl
theorem dX2_worth_84 : decode cX2_worth 84 = .ok (.getfield 15, 3) := dAt (x := (84, .getfield 15, 3)) DX2_worth_0 43 rfl
theorem dX2_worth_87 : decode cX2_worth 87 = .ok (.iload 5, 2) := dAt (x := (87, .iload 5, 2)) DX2_worth_0 44 rfl
theorem dX2_worth_89 : decode cX2_worth 89 = .ok (.iaload, 1) := dAt (x := (89, .iaload, 1)) DX2_worth_0 45 rfl
theorem dX2_worth_90 : decode cX2_worth 90 = .ok (.invokevirtual 32, 3) := dAt (x := (90, .invokevirtual 32, 3)) DX2_worth_0 46 rfl
theorem dX2_worth_93 : decode cX2_worth 93 = .ok (.i2l, 1) := dAt (x := (93, .i2l, 1)) DX2_worth_0 47 rfl
theorem dX2_worth_94 : decode cX2_worth 94 = .ok (.lastore, 1) := dAt (x := (94, .lastore, 1)) DX2_worth_0 48 rfl
theorem dX2_worth_95 : decode cX2_worth 95 = .ok (.goto 78, 3) := dAt (x := (95, .goto 78, 3)) DX2_worth_0 49 rfl
theorem dX2_worth_98 : decode cX2_worth 98 = .ok (.iload 6, 2) := dAt (x := (98, .iload 6, 2)) DX2_worth_0 50 rfl
theorem dX2_worth_100 : decode cX2_worth 100 = .ok (.iconst 1, 1) := dAt (x := (100, .iconst 1, 1)) DX2_worth_0 51 rfl
theorem dX2_worth_101 : decode cX2_worth 101 = .ok (.if_icmp .ne 30, 3) := dAt (x := (101, .if_icmp .ne 30, 3)) DX2_worth_0 52 rfl
theorem dX2_worth_104 : decode cX2_worth 104 = .ok (.aload_n 0, 1) := dAt (x := (104, .aload_n 0, 1)) DX2_worth_0 53 rfl
theorem dX2_worth_105 : decode cX2_worth 105 = .ok (.getfield 18, 3) := dAt (x := (105, .getfield 18, 3)) DX2_worth_0 54 rfl
theorem dX2_worth_108 : decode cX2_worth 108 = .ok (.iload 4, 2) := dAt (x := (108, .iload 4, 2)) DX2_worth_0 55 rfl
theorem dX2_worth_110 : decode cX2_worth 110 = .ok (.aload_n 0, 1) := dAt (x := (110, .aload_n 0, 1)) DX2_worth_0 56 rfl
theorem dX2_worth_111 : decode cX2_worth 111 = .ok (.getfield 18, 3) := dAt (x := (111, .getfield 18, 3)) DX2_worth_0 57 rfl
theorem dX2_worth_114 : decode cX2_worth 114 = .ok (.iload 4, 2) := dAt (x := (114, .iload 4, 2)) DX2_worth_0 58 rfl
theorem dX2_worth_116 : decode cX2_worth 116 = .ok (.laload, 1) := dAt (x := (116, .laload, 1)) DX2_worth_0 59 rfl
def lDX2_worth_1 : List (Nat × Instr × Nat) := [(117, .lconst 0, 1), (118, .lcmp, 1), (119, .ifCond .ne 7, 3), (122, .lconst 1, 1), (123, .goto 4, 3), (126, .lconst 0, 1), (127, .lastore, 1), (128, .goto 45, 3), (131, .iload 4, 2), (133, .iconst 1, 1), (134, .iadd, 1), (135, .bipush 64, 2), (137, .if_icmp .ge 36, 3), (140, .aload_n 0, 1), (141, .getfield 18, 3), (144, .iload 4, 2), (146, .aload_n 0, 1), (147, .getfield 9, 3), (150, .iload 5, 2), (152, .iaload, 1), (153, .aload_n 0, 1), (154, .getfield 18, 3), (157, .iload 4, 2), (159, .laload, 1), (160, .aload_n 0, 1), (161, .getfield 18, 3), (164, .iload 4, 2), (166, .iconst 1, 1), (167, .iadd, 1), (168, .laload, 1), (169, .invokestatic 38, 3), (172, .lastore, 1), (173, .aload_n 0, 1), (174, .getfield 18, 3), (177, .iload 4, 2), (179, .laload, 1), (180, .ldc2_w 26, 3), (183, .lcmp, 1), (184, .ifCond .ne 7, 3), (187, .ldc2_w 26, 3), (190, .lreturn, 1), (191, .iinc 4 1, 3), (194, .iinc 5 1, 3), (197, .goto (-183), 3), (200, .iload 4, 2), (202, .iconst 1, 1), (203, .if_icmp .ne 12, 3), (206, .aload_n 0, 1), (207, .getfield 18, 3), (210, .iconst 0, 1), (211, .laload, 1), (212, .goto 6, 3), (215, .ldc2_w 26, 3), (218, .lreturn, 1)]
theorem DX2_worth_1 : dAll cX2_worth lDX2_worth_1 = true := by decide +kernel
theorem dX2_worth_117 : decode cX2_worth 117 = .ok (.lconst 0, 1) := dAt (x := (117, .lconst 0, 1)) DX2_worth_1 0 rfl
theorem dX2_worth_118 : decode cX2_worth 118 = .ok (.lcmp, 1) := dAt (x := (118, .lcmp, 1)) DX2_worth_1 1 rfl
theorem dX2_worth_119 : decode cX2_worth 119 = .ok (.ifCond .ne 7, 3) := dAt (x := (119, .ifCond .ne 7, 3)) DX2_worth_1 2 rfl
theorem dX2_worth_122 : decode cX2_worth 122 = .ok (.lconst 1, 1) := dAt (x := (122, .lconst 1, 1)) DX2_worth_1 3 rfl
theorem dX2_worth_123 : decode cX2_worth 123 = .ok (.goto 4, 3) := dAt (x := (123, .goto 4, 3)) DX2_worth_1 4 rfl
theorem dX2_worth_126 : decode cX2_worth 126 = .ok (.lconst 0, 1) := dAt (x := (126, .lconst 0, 1)) DX2_worth_1 5 rfl
theorem dX2_worth_127 : decode cX2_worth 127 = .ok (.lastore, 1) := dAt (x := (127, .lastore, 1)) DX2_worth_1 6 rfl
theorem dX2_worth_128 : decode cX2_worth 128 = .ok (.goto 45, 3) := dAt (x := (128, .goto 45, 3)) DX2_worth_1 7 rfl
theorem dX2_worth_131 : decode cX2_worth 131 = .ok (.iload 4, 2) := dAt (x := (131, .iload 4, 2)) DX2_worth_1 8 rfl
theorem dX2_worth_133 : decode cX2_worth 133 = .ok (.iconst 1, 1) := dAt (x := (133, .iconst 1, 1)) DX2_worth_1 9 rfl
theorem dX2_worth_134 : decode cX2_worth 134 = .ok (.iadd, 1) := dAt (x := (134, .iadd, 1)) DX2_worth_1 10 rfl
theorem dX2_worth_135 : decode cX2_worth 135 = .ok (.bipush 64, 2) := dAt (x := (135, .bipush 64, 2)) DX2_worth_1 11 rfl
theorem dX2_worth_137 : decode cX2_worth 137 = .ok (.if_icmp .ge 36, 3) := dAt (x := (137, .if_icmp .ge 36, 3)) DX2_worth_1 12 rfl
theorem dX2_worth_140 : decode cX2_worth 140 = .ok (.aload_n 0, 1) := dAt (x := (140, .aload_n 0, 1)) DX2_worth_1 13 rfl
theorem dX2_worth_141 : decode cX2_worth 141 = .ok (.getfield 18, 3) := dAt (x := (141, .getfield 18, 3)) DX2_worth_1 14 rfl
theorem dX2_worth_144 : decode cX2_worth 144 = .ok (.iload 4, 2) := dAt (x := (144, .iload 4, 2)) DX2_worth_1 15 rfl
theorem dX2_worth_146 : decode cX2_worth 146 = .ok (.aload_n 0, 1) := dAt (x := (146, .aload_n 0, 1)) DX2_worth_1 16 rfl
theorem dX2_worth_147 : decode cX2_worth 147 = .ok (.getfield 9, 3) := dAt (x := (147, .getfield 9, 3)) DX2_worth_1 17 rfl
theorem dX2_worth_150 : decode cX2_worth 150 = .ok (.iload 5, 2) := dAt (x := (150, .iload 5, 2)) DX2_worth_1 18 rfl
theorem dX2_worth_152 : decode cX2_worth 152 = .ok (.iaload, 1) := dAt (x := (152, .iaload, 1)) DX2_worth_1 19 rfl
theorem dX2_worth_153 : decode cX2_worth 153 = .ok (.aload_n 0, 1) := dAt (x := (153, .aload_n 0, 1)) DX2_worth_1 20 rfl
theorem dX2_worth_154 : decode cX2_worth 154 = .ok (.getfield 18, 3) := dAt (x := (154, .getfield 18, 3)) DX2_worth_1 21 rfl
theorem dX2_worth_157 : decode cX2_worth 157 = .ok (.iload 4, 2) := dAt (x := (157, .iload 4, 2)) DX2_worth_1 22 rfl
theorem dX2_worth_159 : decode cX2_worth 159 = .ok (.laload, 1) := dAt (x := (159, .laload, 1)) DX2_worth_1 23 rfl
theorem dX2_worth_160 : decode cX2_worth 160 = .ok (.aload_n 0, 1) := dAt (x := (160, .aload_n 0, 1)) DX2_worth_1 24 rfl
theorem dX2_worth_161 : decode cX2_worth 161 = .ok (.getfield 18, 3) := dAt (x := (161, .getfield 18, 3)) DX2_worth_1 25 rfl
theorem dX2_worth_164 : decode cX2_worth 164 = .ok (.iload 4, 2) := dAt (x := (164, .iload 4, 2)) DX2_worth_1 26 rfl
theorem dX2_worth_166 : decode cX2_worth 166 = .ok (.iconst 1, 1) := dAt (x := (166, .iconst 1, 1)) DX2_worth_1 27 rfl
theorem dX2_worth_167 : decode cX2_worth 167 = .ok (.iadd, 1) := dAt (x := (167, .iadd, 1)) DX2_worth_1 28 rfl
theorem dX2_worth_168 : decode cX2_worth 168 = .ok (.laload, 1) := dAt (x := (168, .laload, 1)) DX2_worth_1 29 rfl
theorem dX2_worth_169 : decode cX2_worth 169 = .ok (.invokestatic 38, 3) := dAt (x := (169, .invokestatic 38, 3)) DX2_worth_1 30 rfl
theorem dX2_worth_172 : decode cX2_worth 172 = .ok (.lastore, 1) := dAt (x := (172, .lastore, 1)) DX2_worth_1 31 rfl
theorem dX2_worth_173 : decode cX2_worth 173 = .ok (.aload_n 0, 1) := dAt (x := (173, .aload_n 0, 1)) DX2_worth_1 32 rfl
theorem dX2_worth_174 : decode cX2_worth 174 = .ok (.getfield 18, 3) := dAt (x := (174, .getfield 18, 3)) DX2_worth_1 33 rfl
theorem dX2_worth_177 : decode cX2_worth 177 = .ok (.iload 4, 2) := dAt (x := (177, .iload 4, 2)) DX2_worth_1 34 rfl
theorem dX2_worth_179 : decode cX2_worth 179 = .ok (.laload, 1) := dAt (x := (179, .laload, 1)) DX2_worth_1 35 rfl
theorem dX2_worth_180 : decode cX2_worth 180 = .ok (.ldc2_w 26, 3) := dAt (x := (180, .ldc2_w 26, 3)) DX2_worth_1 36 rfl
theorem dX2_worth_183 : decode cX2_worth 183 = .ok (.lcmp, 1) := dAt (x := (183, .lcmp, 1)) DX2_worth_1 37 rfl
theorem dX2_worth_184 : decode cX2_worth 184 = .ok (.ifCond .ne 7, 3) := dAt (x := (184, .ifCond .ne 7, 3)) DX2_worth_1 38 rfl
theorem dX2_worth_187 : decode cX2_worth 187 = .ok (.ldc2_w 26, 3) := dAt (x := (187, .ldc2_w 26, 3)) DX2_worth_1 39 rfl
theorem dX2_worth_190 : decode cX2_worth 190 = .ok (.lreturn, 1) := dAt (x := (190, .lreturn, 1)) DX2_worth_1 40 rfl
theorem dX2_worth_191 : decode cX2_worth 191 = .ok (.iinc 4 1, 3) := dAt (x := (191, .iinc 4 1, 3)) DX2_worth_1 41 rfl
theorem dX2_worth_194 : decode cX2_worth 194 = .ok (.iinc 5 1, 3) := dAt (x := (194, .iinc 5 1, 3)) DX2_worth_1 42 rfl
theorem dX2_worth_197 : decode cX2_worth 197 = .ok (.goto (-183), 3) := dAt (x := (197, .goto (-183), 3)) DX2_worth_1 43 rfl
theorem dX2_worth_200 : decode cX2_worth 200 = .ok (.iload 4, 2) := dAt (x := (200, .iload 4, 2)) DX2_worth_1 44 rfl
theorem dX2_worth_202 : decode cX2_worth 202 = .ok (.iconst 1, 1) := dAt (x := (202, .iconst 1, 1)) DX2_worth_1 45 rfl
theorem dX2_worth_203 : decode cX2_worth 203 = .ok (.if_icmp .ne 12, 3) := dAt (x := (203, .if_icmp .ne 12, 3)) DX2_worth_1 46 rfl
theorem dX2_worth_206 : decode cX2_worth 206 = .ok (.aload_n 0, 1) := dAt (x := (206, .aload_n 0, 1)) DX2_worth_1 47 rfl
theorem dX2_worth_207 : decode cX2_worth 207 = .ok (.getfield 18, 3) := dAt (x := (207, .getfield 18, 3)) DX2_worth_1 48 rfl
theorem dX2_worth_210 : decode cX2_worth 210 = .ok (.iconst 0, 1) := dAt (x := (210, .iconst 0, 1)) DX2_worth_1 49 rfl
theorem dX2_worth_211 : decode cX2_worth 211 = .ok (.laload, 1) := dAt (x := (211, .laload, 1)) DX2_worth_1 50 rfl
theorem dX2_worth_212 : decode cX2_worth 212 = .ok (.goto 6, 3) := dAt (x := (212, .goto 6, 3)) DX2_worth_1 51 rfl
theorem dX2_worth_215 : decode cX2_worth 215 = .ok (.ldc2_w 26, 3) := dAt (x := (215, .ldc2_w 26, 3)) DX2_worth_1 52 rfl
theorem dX2_worth_218 : decode cX2_worth 218 = .ok (.lreturn, 1) := dAt (x := (218, .lreturn, 1)) DX2_worth_1 53 rfl
def lDX2_sidesOf_0 : List (Nat × Instr × Nat) := [(0, .iload_n 0, 1), (1, .bipush 12, 2), (3, .if_icmp .ne 5, 3), (6, .iconst 1, 1), (7, .ireturn, 1), (8, .iload_n 0, 1), (9, .invokestatic 42, 3), (12, .ifCond .ne 7, 3), (15, .iconst 0, 1), (16, .goto 4, 3), (19, .iconst 2, 1), (20, .ireturn, 1)]
theorem DX2_sidesOf_0 : dAll cX2_sidesOf lDX2_sidesOf_0 = true := by decide +kernel
theorem dX2_sidesOf_0 : decode cX2_sidesOf 0 = .ok (.iload_n 0, 1) := dAt (x := (0, .iload_n 0, 1)) DX2_sidesOf_0 0 rfl
theorem dX2_sidesOf_1 : decode cX2_sidesOf 1 = .ok (.bipush 12, 2) := dAt (x := (1, .bipush 12, 2)) DX2_sidesOf_0 1 rfl
theorem dX2_sidesOf_3 : decode cX2_sidesOf 3 = .ok (.if_icmp .ne 5, 3) := dAt (x := (3, .if_icmp .ne 5, 3)) DX2_sidesOf_0 2 rfl
theorem dX2_sidesOf_6 : decode cX2_sidesOf 6 = .ok (.iconst 1, 1) := dAt (x := (6, .iconst 1, 1)) DX2_sidesOf_0 3 rfl
theorem dX2_sidesOf_7 : decode cX2_sidesOf 7 = .ok (.ireturn, 1) := dAt (x := (7, .ireturn, 1)) DX2_sidesOf_0 4 rfl
theorem dX2_sidesOf_8 : decode cX2_sidesOf 8 = .ok (.iload_n 0, 1) := dAt (x := (8, .iload_n 0, 1)) DX2_sidesOf_0 5 rfl
theorem dX2_sidesOf_9 : decode cX2_sidesOf 9 = .ok (.invokestatic 42, 3) := dAt (x := (9, .invokestatic 42, 3)) DX2_sidesOf_0 6 rfl
theorem dX2_sidesOf_12 : decode cX2_sidesOf 12 = .ok (.ifCond .ne 7, 3) := dAt (x := (12, .ifCond .ne 7, 3)) DX2_sidesOf_0 7 rfl
theorem dX2_sidesOf_15 : decode cX2_sidesOf 15 = .ok (.iconst 0, 1) := dAt (x := (15, .iconst 0, 1)) DX2_sidesOf_0 8 rfl
theorem dX2_sidesOf_16 : decode cX2_sidesOf 16 = .ok (.goto 4, 3) := dAt (x := (16, .goto 4, 3)) DX2_sidesOf_0 9 rfl
theorem dX2_sidesOf_19 : decode cX2_sidesOf 19 = .ok (.iconst 2, 1) := dAt (x := (19, .iconst 2, 1)) DX2_sidesOf_0 10 rfl
theorem dX2_sidesOf_20 : decode cX2_sidesOf 20 = .ok (.ireturn, 1) := dAt (x := (20, .ireturn, 1)) DX2_sidesOf_0 11 rfl
def lDX2_joined_0 : List (Nat × Instr × Nat) := [(0, .iload_n 0, 1), (1, .tableswitch 267 10 36 #[123, 141, 267, 267, 267, 267, 267, 267, 267, 267, 267, 267, 267, 267, 267, 267, 267, 159, 183, 219, 231, 238, 245, 251, 171, 195, 207], 123), (124, .lload_n 1, 1), (125, .lconst 0, 1), (126, .lcmp, 1), (127, .ifCond .ne 9, 3), (130, .lload_n 3, 1), (131, .lconst 0, 1), (132, .lcmp, 1), (133, .ifCond .eq 7, 3), (136, .lconst 1, 1), (137, .goto 4, 3), (140, .lconst 0, 1), (141, .lreturn, 1), (142, .lload_n 1, 1), (143, .lconst 0, 1), (144, .lcmp, 1), (145, .ifCond .eq 13, 3), (148, .lload_n 3, 1), (149, .lconst 0, 1), (150, .lcmp, 1), (151, .ifCond .eq 7, 3), (154, .lconst 1, 1), (155, .goto 4, 3), (158, .lconst 0, 1), (159, .lreturn, 1), (160, .lload_n 1, 1), (161, .lload_n 3, 1), (162, .lcmp, 1), (163, .ifCond .ge 7, 3), (166, .lconst 1, 1), (167, .goto 4, 3), (170, .lconst 0, 1), (171, .lreturn, 1), (172, .lload_n 1, 1), (173, .lload_n 3, 1), (174, .lcmp, 1), (175, .ifCond .gt 7, 3), (178, .lconst 1, 1), (179, .goto 4, 3), (182, .lconst 0, 1), (183, .lreturn, 1), (184, .lload_n 1, 1), (185, .lload_n 3, 1), (186, .lcmp, 1), (187, .ifCond .ne 7, 3), (190, .lconst 1, 1), (191, .goto 4, 3), (194, .lconst 0, 1), (195, .lreturn, 1), (196, .lload_n 1, 1), (197, .lload_n 3, 1), (198, .lcmp, 1), (199, .ifCond .eq 7, 3), (202, .lconst 1, 1), (203, .goto 4, 3), (206, .lconst 0, 1), (207, .lreturn, 1), (208, .lload_n 1, 1), (209, .lload_n 3, 1)]
theorem DX2_joined_0 : dAll cX2_joined lDX2_joined_0 = true := by decide +kernel
theorem dX2_joined_0 : decode cX2_joined 0 = .ok (.iload_n 0, 1) := dAt (x := (0, .iload_n 0, 1)) DX2_joined_0 0 rfl
theorem dX2_joined_1 : decode cX2_joined 1 = .ok (.tableswitch 267 10 36 #[123, 141, 267, 267, 267, 267, 267, 267, 267, 267, 267, 267, 267, 267, 267, 267, 267, 159, 183, 219, 231, 238, 245, 251, 171, 195, 207], 123) := dAt (x := (1, .tableswitch 267 10 36 #[123, 141, 267, 267, 267, 267, 267, 267, 267, 267, 267, 267, 267, 267, 267, 267, 267, 159, 183, 219, 231, 238, 245, 251, 171, 195, 207], 123)) DX2_joined_0 1 rfl
theorem dX2_joined_124 : decode cX2_joined 124 = .ok (.lload_n 1, 1) := dAt (x := (124, .lload_n 1, 1)) DX2_joined_0 2 rfl
theorem dX2_joined_125 : decode cX2_joined 125 = .ok (.lconst 0, 1) := dAt (x := (125, .lconst 0, 1)) DX2_joined_0 3 rfl
theorem dX2_joined_126 : decode cX2_joined 126 = .ok (.lcmp, 1) := dAt (x := (126, .lcmp, 1)) DX2_joined_0 4 rfl
theorem dX2_joined_127 : decode cX2_joined 127 = .ok (.ifCond .ne 9, 3) := dAt (x := (127, .ifCond .ne 9, 3)) DX2_joined_0 5 rfl
theorem dX2_joined_130 : decode cX2_joined 130 = .ok (.lload_n 3, 1) := dAt (x := (130, .lload_n 3, 1)) DX2_joined_0 6 rfl
theorem dX2_joined_131 : decode cX2_joined 131 = .ok (.lconst 0, 1) := dAt (x := (131, .lconst 0, 1)) DX2_joined_0 7 rfl
theorem dX2_joined_132 : decode cX2_joined 132 = .ok (.lcmp, 1) := dAt (x := (132, .lcmp, 1)) DX2_joined_0 8 rfl
theorem dX2_joined_133 : decode cX2_joined 133 = .ok (.ifCond .eq 7, 3) := dAt (x := (133, .ifCond .eq 7, 3)) DX2_joined_0 9 rfl
theorem dX2_joined_136 : decode cX2_joined 136 = .ok (.lconst 1, 1) := dAt (x := (136, .lconst 1, 1)) DX2_joined_0 10 rfl
theorem dX2_joined_137 : decode cX2_joined 137 = .ok (.goto 4, 3) := dAt (x := (137, .goto 4, 3)) DX2_joined_0 11 rfl
theorem dX2_joined_140 : decode cX2_joined 140 = .ok (.lconst 0, 1) := dAt (x := (140, .lconst 0, 1)) DX2_joined_0 12 rfl
theorem dX2_joined_141 : decode cX2_joined 141 = .ok (.lreturn, 1) := dAt (x := (141, .lreturn, 1)) DX2_joined_0 13 rfl
theorem dX2_joined_142 : decode cX2_joined 142 = .ok (.lload_n 1, 1) := dAt (x := (142, .lload_n 1, 1)) DX2_joined_0 14 rfl
theorem dX2_joined_143 : decode cX2_joined 143 = .ok (.lconst 0, 1) := dAt (x := (143, .lconst 0, 1)) DX2_joined_0 15 rfl
theorem dX2_joined_144 : decode cX2_joined 144 = .ok (.lcmp, 1) := dAt (x := (144, .lcmp, 1)) DX2_joined_0 16 rfl
theorem dX2_joined_145 : decode cX2_joined 145 = .ok (.ifCond .eq 13, 3) := dAt (x := (145, .ifCond .eq 13, 3)) DX2_joined_0 17 rfl
theorem dX2_joined_148 : decode cX2_joined 148 = .ok (.lload_n 3, 1) := dAt (x := (148, .lload_n 3, 1)) DX2_joined_0 18 rfl
theorem dX2_joined_149 : decode cX2_joined 149 = .ok (.lconst 0, 1) := dAt (x := (149, .lconst 0, 1)) DX2_joined_0 19 rfl
theorem dX2_joined_150 : decode cX2_joined 150 = .ok (.lcmp, 1) := dAt (x := (150, .lcmp, 1)) DX2_joined_0 20 rfl
theorem dX2_joined_151 : decode cX2_joined 151 = .ok (.ifCond .eq 7, 3) := dAt (x := (151, .ifCond .eq 7, 3)) DX2_joined_0 21 rfl
theorem dX2_joined_154 : decode cX2_joined 154 = .ok (.lconst 1, 1) := dAt (x := (154, .lconst 1, 1)) DX2_joined_0 22 rfl
theorem dX2_joined_155 : decode cX2_joined 155 = .ok (.goto 4, 3) := dAt (x := (155, .goto 4, 3)) DX2_joined_0 23 rfl
theorem dX2_joined_158 : decode cX2_joined 158 = .ok (.lconst 0, 1) := dAt (x := (158, .lconst 0, 1)) DX2_joined_0 24 rfl
theorem dX2_joined_159 : decode cX2_joined 159 = .ok (.lreturn, 1) := dAt (x := (159, .lreturn, 1)) DX2_joined_0 25 rfl
theorem dX2_joined_160 : decode cX2_joined 160 = .ok (.lload_n 1, 1) := dAt (x := (160, .lload_n 1, 1)) DX2_joined_0 26 rfl
theorem dX2_joined_161 : decode cX2_joined 161 = .ok (.lload_n 3, 1) := dAt (x := (161, .lload_n 3, 1)) DX2_joined_0 27 rfl
theorem dX2_joined_162 : decode cX2_joined 162 = .ok (.lcmp, 1) := dAt (x := (162, .lcmp, 1)) DX2_joined_0 28 rfl
theorem dX2_joined_163 : decode cX2_joined 163 = .ok (.ifCond .ge 7, 3) := dAt (x := (163, .ifCond .ge 7, 3)) DX2_joined_0 29 rfl
theorem dX2_joined_166 : decode cX2_joined 166 = .ok (.lconst 1, 1) := dAt (x := (166, .lconst 1, 1)) DX2_joined_0 30 rfl
theorem dX2_joined_167 : decode cX2_joined 167 = .ok (.goto 4, 3) := dAt (x := (167, .goto 4, 3)) DX2_joined_0 31 rfl
theorem dX2_joined_170 : decode cX2_joined 170 = .ok (.lconst 0, 1) := dAt (x := (170, .lconst 0, 1)) DX2_joined_0 32 rfl
theorem dX2_joined_171 : decode cX2_joined 171 = .ok (.lreturn, 1) := dAt (x := (171, .lreturn, 1)) DX2_joined_0 33 rfl
theorem dX2_joined_172 : decode cX2_joined 172 = .ok (.lload_n 1, 1) := dAt (x := (172, .lload_n 1, 1)) DX2_joined_0 34 rfl
theorem dX2_joined_173 : decode cX2_joined 173 = .ok (.lload_n 3, 1) := dAt (x := (173, .lload_n 3, 1)) DX2_joined_0 35 rfl
theorem dX2_joined_174 : decode cX2_joined 174 = .ok (.lcmp, 1) := dAt (x := (174, .lcmp, 1)) DX2_joined_0 36 rfl
theorem dX2_joined_175 : decode cX2_joined 175 = .ok (.ifCond .gt 7, 3) := dAt (x := (175, .ifCond .gt 7, 3)) DX2_joined_0 37 rfl
theorem dX2_joined_178 : decode cX2_joined 178 = .ok (.lconst 1, 1) := dAt (x := (178, .lconst 1, 1)) DX2_joined_0 38 rfl
theorem dX2_joined_179 : decode cX2_joined 179 = .ok (.goto 4, 3) := dAt (x := (179, .goto 4, 3)) DX2_joined_0 39 rfl
theorem dX2_joined_182 : decode cX2_joined 182 = .ok (.lconst 0, 1) := dAt (x := (182, .lconst 0, 1)) DX2_joined_0 40 rfl
theorem dX2_joined_183 : decode cX2_joined 183 = .ok (.lreturn, 1) := dAt (x := (183, .lreturn, 1)) DX2_joined_0 41 rfl
theorem dX2_joined_184 : decode cX2_joined 184 = .ok (.lload_n 1, 1) := dAt (x := (184, .lload_n 1, 1)) DX2_joined_0 42 rfl
theorem dX2_joined_185 : decode cX2_joined 185 = .ok (.lload_n 3, 1) := dAt (x := (185, .lload_n 3, 1)) DX2_joined_0 43 rfl
theorem dX2_joined_186 : decode cX2_joined 186 = .ok (.lcmp, 1) := dAt (x := (186, .lcmp, 1)) DX2_joined_0 44 rfl
theorem dX2_joined_187 : decode cX2_joined 187 = .ok (.ifCond .ne 7, 3) := dAt (x := (187, .ifCond .ne 7, 3)) DX2_joined_0 45 rfl
theorem dX2_joined_190 : decode cX2_joined 190 = .ok (.lconst 1, 1) := dAt (x := (190, .lconst 1, 1)) DX2_joined_0 46 rfl
theorem dX2_joined_191 : decode cX2_joined 191 = .ok (.goto 4, 3) := dAt (x := (191, .goto 4, 3)) DX2_joined_0 47 rfl
theorem dX2_joined_194 : decode cX2_joined 194 = .ok (.lconst 0, 1) := dAt (x := (194, .lconst 0, 1)) DX2_joined_0 48 rfl
theorem dX2_joined_195 : decode cX2_joined 195 = .ok (.lreturn, 1) := dAt (x := (195, .lreturn, 1)) DX2_joined_0 49 rfl
theorem dX2_joined_196 : decode cX2_joined 196 = .ok (.lload_n 1, 1) := dAt (x := (196, .lload_n 1, 1)) DX2_joined_0 50 rfl
theorem dX2_joined_197 : decode cX2_joined 197 = .ok (.lload_n 3, 1) := dAt (x := (197, .lload_n 3, 1)) DX2_joined_0 51 rfl
theorem dX2_joined_198 : decode cX2_joined 198 = .ok (.lcmp, 1) := dAt (x := (198, .lcmp, 1)) DX2_joined_0 52 rfl
theorem dX2_joined_199 : decode cX2_joined 199 = .ok (.ifCond .eq 7, 3) := dAt (x := (199, .ifCond .eq 7, 3)) DX2_joined_0 53 rfl
theorem dX2_joined_202 : decode cX2_joined 202 = .ok (.lconst 1, 1) := dAt (x := (202, .lconst 1, 1)) DX2_joined_0 54 rfl
theorem dX2_joined_203 : decode cX2_joined 203 = .ok (.goto 4, 3) := dAt (x := (203, .goto 4, 3)) DX2_joined_0 55 rfl
theorem dX2_joined_206 : decode cX2_joined 206 = .ok (.lconst 0, 1) := dAt (x := (206, .lconst 0, 1)) DX2_joined_0 56 rfl
theorem dX2_joined_207 : decode cX2_joined 207 = .ok (.lreturn, 1) := dAt (x := (207, .lreturn, 1)) DX2_joined_0 57 rfl
theorem dX2_joined_208 : decode cX2_joined 208 = .ok (.lload_n 1, 1) := dAt (x := (208, .lload_n 1, 1)) DX2_joined_0 58 rfl
theorem dX2_joined_209 : decode cX2_joined 209 = .ok (.lload_n 3, 1) := dAt (x := (209, .lload_n 3, 1)) DX2_joined_0 59 rfl
def lDX2_joined_1 : List (Nat × Instr × Nat) := [(210, .lcmp, 1), (211, .ifCond .lt 7, 3), (214, .lconst 1, 1), (215, .goto 4, 3), (218, .lconst 0, 1), (219, .lreturn, 1), (220, .lload_n 1, 1), (221, .lload_n 3, 1), (222, .lcmp, 1), (223, .ifCond .le 7, 3), (226, .lconst 1, 1), (227, .goto 4, 3), (230, .lconst 0, 1), (231, .lreturn, 1), (232, .lload_n 1, 1), (233, .lload_n 3, 1), (234, .ladd, 1), (235, .invokestatic 45, 3), (238, .lreturn, 1), (239, .lload_n 1, 1), (240, .lload_n 3, 1), (241, .lsub, 1), (242, .invokestatic 45, 3), (245, .lreturn, 1), (246, .lload_n 1, 1), (247, .lload_n 3, 1), (248, .invokestatic 49, 3), (251, .lreturn, 1), (252, .lload_n 3, 1), (253, .lconst 0, 1), (254, .lcmp, 1), (255, .ifCond .ne 9, 3), (258, .ldc2_w 26, 3), (261, .goto 6, 3), (264, .lload_n 1, 1), (265, .lload_n 3, 1), (266, .ldiv, 1), (267, .lreturn, 1), (268, .ldc2_w 26, 3), (271, .lreturn, 1)]
theorem DX2_joined_1 : dAll cX2_joined lDX2_joined_1 = true := by decide +kernel
theorem dX2_joined_210 : decode cX2_joined 210 = .ok (.lcmp, 1) := dAt (x := (210, .lcmp, 1)) DX2_joined_1 0 rfl
theorem dX2_joined_211 : decode cX2_joined 211 = .ok (.ifCond .lt 7, 3) := dAt (x := (211, .ifCond .lt 7, 3)) DX2_joined_1 1 rfl
theorem dX2_joined_214 : decode cX2_joined 214 = .ok (.lconst 1, 1) := dAt (x := (214, .lconst 1, 1)) DX2_joined_1 2 rfl
theorem dX2_joined_215 : decode cX2_joined 215 = .ok (.goto 4, 3) := dAt (x := (215, .goto 4, 3)) DX2_joined_1 3 rfl
theorem dX2_joined_218 : decode cX2_joined 218 = .ok (.lconst 0, 1) := dAt (x := (218, .lconst 0, 1)) DX2_joined_1 4 rfl
theorem dX2_joined_219 : decode cX2_joined 219 = .ok (.lreturn, 1) := dAt (x := (219, .lreturn, 1)) DX2_joined_1 5 rfl
theorem dX2_joined_220 : decode cX2_joined 220 = .ok (.lload_n 1, 1) := dAt (x := (220, .lload_n 1, 1)) DX2_joined_1 6 rfl
theorem dX2_joined_221 : decode cX2_joined 221 = .ok (.lload_n 3, 1) := dAt (x := (221, .lload_n 3, 1)) DX2_joined_1 7 rfl
theorem dX2_joined_222 : decode cX2_joined 222 = .ok (.lcmp, 1) := dAt (x := (222, .lcmp, 1)) DX2_joined_1 8 rfl
theorem dX2_joined_223 : decode cX2_joined 223 = .ok (.ifCond .le 7, 3) := dAt (x := (223, .ifCond .le 7, 3)) DX2_joined_1 9 rfl
theorem dX2_joined_226 : decode cX2_joined 226 = .ok (.lconst 1, 1) := dAt (x := (226, .lconst 1, 1)) DX2_joined_1 10 rfl
theorem dX2_joined_227 : decode cX2_joined 227 = .ok (.goto 4, 3) := dAt (x := (227, .goto 4, 3)) DX2_joined_1 11 rfl
theorem dX2_joined_230 : decode cX2_joined 230 = .ok (.lconst 0, 1) := dAt (x := (230, .lconst 0, 1)) DX2_joined_1 12 rfl
theorem dX2_joined_231 : decode cX2_joined 231 = .ok (.lreturn, 1) := dAt (x := (231, .lreturn, 1)) DX2_joined_1 13 rfl
theorem dX2_joined_232 : decode cX2_joined 232 = .ok (.lload_n 1, 1) := dAt (x := (232, .lload_n 1, 1)) DX2_joined_1 14 rfl
theorem dX2_joined_233 : decode cX2_joined 233 = .ok (.lload_n 3, 1) := dAt (x := (233, .lload_n 3, 1)) DX2_joined_1 15 rfl
theorem dX2_joined_234 : decode cX2_joined 234 = .ok (.ladd, 1) := dAt (x := (234, .ladd, 1)) DX2_joined_1 16 rfl
theorem dX2_joined_235 : decode cX2_joined 235 = .ok (.invokestatic 45, 3) := dAt (x := (235, .invokestatic 45, 3)) DX2_joined_1 17 rfl
theorem dX2_joined_238 : decode cX2_joined 238 = .ok (.lreturn, 1) := dAt (x := (238, .lreturn, 1)) DX2_joined_1 18 rfl
theorem dX2_joined_239 : decode cX2_joined 239 = .ok (.lload_n 1, 1) := dAt (x := (239, .lload_n 1, 1)) DX2_joined_1 19 rfl
theorem dX2_joined_240 : decode cX2_joined 240 = .ok (.lload_n 3, 1) := dAt (x := (240, .lload_n 3, 1)) DX2_joined_1 20 rfl
theorem dX2_joined_241 : decode cX2_joined 241 = .ok (.lsub, 1) := dAt (x := (241, .lsub, 1)) DX2_joined_1 21 rfl
theorem dX2_joined_242 : decode cX2_joined 242 = .ok (.invokestatic 45, 3) := dAt (x := (242, .invokestatic 45, 3)) DX2_joined_1 22 rfl
theorem dX2_joined_245 : decode cX2_joined 245 = .ok (.lreturn, 1) := dAt (x := (245, .lreturn, 1)) DX2_joined_1 23 rfl
theorem dX2_joined_246 : decode cX2_joined 246 = .ok (.lload_n 1, 1) := dAt (x := (246, .lload_n 1, 1)) DX2_joined_1 24 rfl
theorem dX2_joined_247 : decode cX2_joined 247 = .ok (.lload_n 3, 1) := dAt (x := (247, .lload_n 3, 1)) DX2_joined_1 25 rfl
theorem dX2_joined_248 : decode cX2_joined 248 = .ok (.invokestatic 49, 3) := dAt (x := (248, .invokestatic 49, 3)) DX2_joined_1 26 rfl
theorem dX2_joined_251 : decode cX2_joined 251 = .ok (.lreturn, 1) := dAt (x := (251, .lreturn, 1)) DX2_joined_1 27 rfl
theorem dX2_joined_252 : decode cX2_joined 252 = .ok (.lload_n 3, 1) := dAt (x := (252, .lload_n 3, 1)) DX2_joined_1 28 rfl
theorem dX2_joined_253 : decode cX2_joined 253 = .ok (.lconst 0, 1) := dAt (x := (253, .lconst 0, 1)) DX2_joined_1 29 rfl
theorem dX2_joined_254 : decode cX2_joined 254 = .ok (.lcmp, 1) := dAt (x := (254, .lcmp, 1)) DX2_joined_1 30 rfl
theorem dX2_joined_255 : decode cX2_joined 255 = .ok (.ifCond .ne 9, 3) := dAt (x := (255, .ifCond .ne 9, 3)) DX2_joined_1 31 rfl
theorem dX2_joined_258 : decode cX2_joined 258 = .ok (.ldc2_w 26, 3) := dAt (x := (258, .ldc2_w 26, 3)) DX2_joined_1 32 rfl
theorem dX2_joined_261 : decode cX2_joined 261 = .ok (.goto 6, 3) := dAt (x := (261, .goto 6, 3)) DX2_joined_1 33 rfl
theorem dX2_joined_264 : decode cX2_joined 264 = .ok (.lload_n 1, 1) := dAt (x := (264, .lload_n 1, 1)) DX2_joined_1 34 rfl
theorem dX2_joined_265 : decode cX2_joined 265 = .ok (.lload_n 3, 1) := dAt (x := (265, .lload_n 3, 1)) DX2_joined_1 35 rfl
theorem dX2_joined_266 : decode cX2_joined 266 = .ok (.ldiv, 1) := dAt (x := (266, .ldiv, 1)) DX2_joined_1 36 rfl
theorem dX2_joined_267 : decode cX2_joined 267 = .ok (.lreturn, 1) := dAt (x := (267, .lreturn, 1)) DX2_joined_1 37 rfl
theorem dX2_joined_268 : decode cX2_joined 268 = .ok (.ldc2_w 26, 3) := dAt (x := (268, .ldc2_w 26, 3)) DX2_joined_1 38 rfl
theorem dX2_joined_271 : decode cX2_joined 271 = .ok (.lreturn, 1) := dAt (x := (271, .lreturn, 1)) DX2_joined_1 39 rfl
def lDX2_within_0 : List (Nat × Instr × Nat) := [(0, .lload_n 0, 1), (1, .ldc2_w 53, 3), (4, .lcmp, 1), (5, .ifCond .gt 11, 3), (8, .lload_n 0, 1), (9, .ldc2_w 55, 3), (12, .lcmp, 1), (13, .ifCond .ge 9, 3), (16, .ldc2_w 26, 3), (19, .goto 4, 3), (22, .lload_n 0, 1), (23, .lreturn, 1)]
theorem DX2_within_0 : dAll cX2_within lDX2_within_0 = true := by decide +kernel
theorem dX2_within_0 : decode cX2_within 0 = .ok (.lload_n 0, 1) := dAt (x := (0, .lload_n 0, 1)) DX2_within_0 0 rfl
theorem dX2_within_1 : decode cX2_within 1 = .ok (.ldc2_w 53, 3) := dAt (x := (1, .ldc2_w 53, 3)) DX2_within_0 1 rfl
theorem dX2_within_4 : decode cX2_within 4 = .ok (.lcmp, 1) := dAt (x := (4, .lcmp, 1)) DX2_within_0 2 rfl
theorem dX2_within_5 : decode cX2_within 5 = .ok (.ifCond .gt 11, 3) := dAt (x := (5, .ifCond .gt 11, 3)) DX2_within_0 3 rfl
theorem dX2_within_8 : decode cX2_within 8 = .ok (.lload_n 0, 1) := dAt (x := (8, .lload_n 0, 1)) DX2_within_0 4 rfl
theorem dX2_within_9 : decode cX2_within 9 = .ok (.ldc2_w 55, 3) := dAt (x := (9, .ldc2_w 55, 3)) DX2_within_0 5 rfl
theorem dX2_within_12 : decode cX2_within 12 = .ok (.lcmp, 1) := dAt (x := (12, .lcmp, 1)) DX2_within_0 6 rfl
theorem dX2_within_13 : decode cX2_within 13 = .ok (.ifCond .ge 9, 3) := dAt (x := (13, .ifCond .ge 9, 3)) DX2_within_0 7 rfl
theorem dX2_within_16 : decode cX2_within 16 = .ok (.ldc2_w 26, 3) := dAt (x := (16, .ldc2_w 26, 3)) DX2_within_0 8 rfl
theorem dX2_within_19 : decode cX2_within 19 = .ok (.goto 4, 3) := dAt (x := (19, .goto 4, 3)) DX2_within_0 9 rfl
theorem dX2_within_22 : decode cX2_within 22 = .ok (.lload_n 0, 1) := dAt (x := (22, .lload_n 0, 1)) DX2_within_0 10 rfl
theorem dX2_within_23 : decode cX2_within 23 = .ok (.lreturn, 1) := dAt (x := (23, .lreturn, 1)) DX2_within_0 11 rfl
def lDX2_product_0 : List (Nat × Instr × Nat) := [(0, .lload_n 0, 1), (1, .lconst 0, 1), (2, .lcmp, 1), (3, .ifCond .ge 8, 3), (6, .lload_n 0, 1), (7, .lneg, 1), (8, .goto 4, 3), (11, .lload_n 0, 1), (12, .lstore 4, 2), (14, .lload_n 2, 1), (15, .lconst 0, 1), (16, .lcmp, 1), (17, .ifCond .ge 8, 3), (20, .lload_n 2, 1), (21, .lneg, 1), (22, .goto 4, 3), (25, .lload_n 2, 1), (26, .lstore 6, 2), (28, .lload 4, 2), (30, .lconst 0, 1), (31, .lcmp, 1), (32, .ifCond .eq 21, 3), (35, .lload 6, 2), (37, .ldc2_w 53, 3), (40, .lload 4, 2), (42, .ldiv, 1), (43, .lcmp, 1), (44, .ifCond .le 9, 3), (47, .ldc2_w 26, 3), (50, .goto 6, 3), (53, .lload_n 0, 1), (54, .lload_n 2, 1), (55, .lmul, 1), (56, .lreturn, 1)]
theorem DX2_product_0 : dAll cX2_product lDX2_product_0 = true := by decide +kernel
theorem dX2_product_0 : decode cX2_product 0 = .ok (.lload_n 0, 1) := dAt (x := (0, .lload_n 0, 1)) DX2_product_0 0 rfl
theorem dX2_product_1 : decode cX2_product 1 = .ok (.lconst 0, 1) := dAt (x := (1, .lconst 0, 1)) DX2_product_0 1 rfl
theorem dX2_product_2 : decode cX2_product 2 = .ok (.lcmp, 1) := dAt (x := (2, .lcmp, 1)) DX2_product_0 2 rfl
theorem dX2_product_3 : decode cX2_product 3 = .ok (.ifCond .ge 8, 3) := dAt (x := (3, .ifCond .ge 8, 3)) DX2_product_0 3 rfl
theorem dX2_product_6 : decode cX2_product 6 = .ok (.lload_n 0, 1) := dAt (x := (6, .lload_n 0, 1)) DX2_product_0 4 rfl
theorem dX2_product_7 : decode cX2_product 7 = .ok (.lneg, 1) := dAt (x := (7, .lneg, 1)) DX2_product_0 5 rfl
theorem dX2_product_8 : decode cX2_product 8 = .ok (.goto 4, 3) := dAt (x := (8, .goto 4, 3)) DX2_product_0 6 rfl
theorem dX2_product_11 : decode cX2_product 11 = .ok (.lload_n 0, 1) := dAt (x := (11, .lload_n 0, 1)) DX2_product_0 7 rfl
theorem dX2_product_12 : decode cX2_product 12 = .ok (.lstore 4, 2) := dAt (x := (12, .lstore 4, 2)) DX2_product_0 8 rfl
theorem dX2_product_14 : decode cX2_product 14 = .ok (.lload_n 2, 1) := dAt (x := (14, .lload_n 2, 1)) DX2_product_0 9 rfl
theorem dX2_product_15 : decode cX2_product 15 = .ok (.lconst 0, 1) := dAt (x := (15, .lconst 0, 1)) DX2_product_0 10 rfl
theorem dX2_product_16 : decode cX2_product 16 = .ok (.lcmp, 1) := dAt (x := (16, .lcmp, 1)) DX2_product_0 11 rfl
theorem dX2_product_17 : decode cX2_product 17 = .ok (.ifCond .ge 8, 3) := dAt (x := (17, .ifCond .ge 8, 3)) DX2_product_0 12 rfl
theorem dX2_product_20 : decode cX2_product 20 = .ok (.lload_n 2, 1) := dAt (x := (20, .lload_n 2, 1)) DX2_product_0 13 rfl
theorem dX2_product_21 : decode cX2_product 21 = .ok (.lneg, 1) := dAt (x := (21, .lneg, 1)) DX2_product_0 14 rfl
theorem dX2_product_22 : decode cX2_product 22 = .ok (.goto 4, 3) := dAt (x := (22, .goto 4, 3)) DX2_product_0 15 rfl
theorem dX2_product_25 : decode cX2_product 25 = .ok (.lload_n 2, 1) := dAt (x := (25, .lload_n 2, 1)) DX2_product_0 16 rfl
theorem dX2_product_26 : decode cX2_product 26 = .ok (.lstore 6, 2) := dAt (x := (26, .lstore 6, 2)) DX2_product_0 17 rfl
theorem dX2_product_28 : decode cX2_product 28 = .ok (.lload 4, 2) := dAt (x := (28, .lload 4, 2)) DX2_product_0 18 rfl
theorem dX2_product_30 : decode cX2_product 30 = .ok (.lconst 0, 1) := dAt (x := (30, .lconst 0, 1)) DX2_product_0 19 rfl
theorem dX2_product_31 : decode cX2_product 31 = .ok (.lcmp, 1) := dAt (x := (31, .lcmp, 1)) DX2_product_0 20 rfl
theorem dX2_product_32 : decode cX2_product 32 = .ok (.ifCond .eq 21, 3) := dAt (x := (32, .ifCond .eq 21, 3)) DX2_product_0 21 rfl
theorem dX2_product_35 : decode cX2_product 35 = .ok (.lload 6, 2) := dAt (x := (35, .lload 6, 2)) DX2_product_0 22 rfl
theorem dX2_product_37 : decode cX2_product 37 = .ok (.ldc2_w 53, 3) := dAt (x := (37, .ldc2_w 53, 3)) DX2_product_0 23 rfl
theorem dX2_product_40 : decode cX2_product 40 = .ok (.lload 4, 2) := dAt (x := (40, .lload 4, 2)) DX2_product_0 24 rfl
theorem dX2_product_42 : decode cX2_product 42 = .ok (.ldiv, 1) := dAt (x := (42, .ldiv, 1)) DX2_product_0 25 rfl
theorem dX2_product_43 : decode cX2_product 43 = .ok (.lcmp, 1) := dAt (x := (43, .lcmp, 1)) DX2_product_0 26 rfl
theorem dX2_product_44 : decode cX2_product 44 = .ok (.ifCond .le 9, 3) := dAt (x := (44, .ifCond .le 9, 3)) DX2_product_0 27 rfl
theorem dX2_product_47 : decode cX2_product 47 = .ok (.ldc2_w 26, 3) := dAt (x := (47, .ldc2_w 26, 3)) DX2_product_0 28 rfl
theorem dX2_product_50 : decode cX2_product 50 = .ok (.goto 6, 3) := dAt (x := (50, .goto 6, 3)) DX2_product_0 29 rfl
theorem dX2_product_53 : decode cX2_product 53 = .ok (.lload_n 0, 1) := dAt (x := (53, .lload_n 0, 1)) DX2_product_0 30 rfl
theorem dX2_product_54 : decode cX2_product 54 = .ok (.lload_n 2, 1) := dAt (x := (54, .lload_n 2, 1)) DX2_product_0 31 rfl
theorem dX2_product_55 : decode cX2_product 55 = .ok (.lmul, 1) := dAt (x := (55, .lmul, 1)) DX2_product_0 32 rfl
theorem dX2_product_56 : decode cX2_product 56 = .ok (.lreturn, 1) := dAt (x := (56, .lreturn, 1)) DX2_product_0 33 rfl
def lDX3_init_0 : List (Nat × Instr × Nat) := [(0, .aload_n 0, 1), (1, .invokespecial 3, 3), (4, .aload_n 0, 1), (5, .bipush 24, 2), (7, .newarray .int, 2), (9, .putfield 9, 3), (12, .aload_n 0, 1), (13, .bipush 24, 2), (15, .newarray .int, 2), (17, .putfield 15, 3), (20, .aload_n 0, 1), (21, .bipush 24, 2), (23, .newarray .boolean, 2), (25, .putfield 18, 3), (28, .aload_n 0, 1), (29, .bipush 24, 2), (31, .newarray .boolean, 2), (33, .putfield 22, 3), (36, .aload_n 0, 1), (37, .iconst (-1), 1), (38, .putfield 25, 3), (41, .return_, 1)]
theorem DX3_init_0 : dAll cX3_init lDX3_init_0 = true := by decide +kernel
theorem dX3_init_0 : decode cX3_init 0 = .ok (.aload_n 0, 1) := dAt (x := (0, .aload_n 0, 1)) DX3_init_0 0 rfl
theorem dX3_init_1 : decode cX3_init 1 = .ok (.invokespecial 3, 3) := dAt (x := (1, .invokespecial 3, 3)) DX3_init_0 1 rfl
theorem dX3_init_4 : decode cX3_init 4 = .ok (.aload_n 0, 1) := dAt (x := (4, .aload_n 0, 1)) DX3_init_0 2 rfl
theorem dX3_init_5 : decode cX3_init 5 = .ok (.bipush 24, 2) := dAt (x := (5, .bipush 24, 2)) DX3_init_0 3 rfl
theorem dX3_init_7 : decode cX3_init 7 = .ok (.newarray .int, 2) := dAt (x := (7, .newarray .int, 2)) DX3_init_0 4 rfl
theorem dX3_init_9 : decode cX3_init 9 = .ok (.putfield 9, 3) := dAt (x := (9, .putfield 9, 3)) DX3_init_0 5 rfl
theorem dX3_init_12 : decode cX3_init 12 = .ok (.aload_n 0, 1) := dAt (x := (12, .aload_n 0, 1)) DX3_init_0 6 rfl
theorem dX3_init_13 : decode cX3_init 13 = .ok (.bipush 24, 2) := dAt (x := (13, .bipush 24, 2)) DX3_init_0 7 rfl
theorem dX3_init_15 : decode cX3_init 15 = .ok (.newarray .int, 2) := dAt (x := (15, .newarray .int, 2)) DX3_init_0 8 rfl
theorem dX3_init_17 : decode cX3_init 17 = .ok (.putfield 15, 3) := dAt (x := (17, .putfield 15, 3)) DX3_init_0 9 rfl
theorem dX3_init_20 : decode cX3_init 20 = .ok (.aload_n 0, 1) := dAt (x := (20, .aload_n 0, 1)) DX3_init_0 10 rfl
theorem dX3_init_21 : decode cX3_init 21 = .ok (.bipush 24, 2) := dAt (x := (21, .bipush 24, 2)) DX3_init_0 11 rfl
theorem dX3_init_23 : decode cX3_init 23 = .ok (.newarray .boolean, 2) := dAt (x := (23, .newarray .boolean, 2)) DX3_init_0 12 rfl
theorem dX3_init_25 : decode cX3_init 25 = .ok (.putfield 18, 3) := dAt (x := (25, .putfield 18, 3)) DX3_init_0 13 rfl
theorem dX3_init_28 : decode cX3_init 28 = .ok (.aload_n 0, 1) := dAt (x := (28, .aload_n 0, 1)) DX3_init_0 14 rfl
theorem dX3_init_29 : decode cX3_init 29 = .ok (.bipush 24, 2) := dAt (x := (29, .bipush 24, 2)) DX3_init_0 15 rfl
theorem dX3_init_31 : decode cX3_init 31 = .ok (.newarray .boolean, 2) := dAt (x := (31, .newarray .boolean, 2)) DX3_init_0 16 rfl
theorem dX3_init_33 : decode cX3_init 33 = .ok (.putfield 22, 3) := dAt (x := (33, .putfield 22, 3)) DX3_init_0 17 rfl
theorem dX3_init_36 : decode cX3_init 36 = .ok (.aload_n 0, 1) := dAt (x := (36, .aload_n 0, 1)) DX3_init_0 18 rfl
theorem dX3_init_37 : decode cX3_init 37 = .ok (.iconst (-1), 1) := dAt (x := (37, .iconst (-1), 1)) DX3_init_0 19 rfl
theorem dX3_init_38 : decode cX3_init 38 = .ok (.putfield 25, 3) := dAt (x := (38, .putfield 25, 3)) DX3_init_0 20 rfl
theorem dX3_init_41 : decode cX3_init 41 = .ok (.return_, 1) := dAt (x := (41, .return_, 1)) DX3_init_0 21 rfl
def lDX3_clear_0 : List (Nat × Instr × Nat) := [(0, .aload_n 0, 1), (1, .iconst 0, 1), (2, .putfield 29, 3), (5, .aload_n 0, 1), (6, .iconst (-1), 1), (7, .putfield 25, 3), (10, .return_, 1)]
theorem DX3_clear_0 : dAll cX3_clear lDX3_clear_0 = true := by decide +kernel
theorem dX3_clear_0 : decode cX3_clear 0 = .ok (.aload_n 0, 1) := dAt (x := (0, .aload_n 0, 1)) DX3_clear_0 0 rfl
theorem dX3_clear_1 : decode cX3_clear 1 = .ok (.iconst 0, 1) := dAt (x := (1, .iconst 0, 1)) DX3_clear_0 1 rfl
theorem dX3_clear_2 : decode cX3_clear 2 = .ok (.putfield 29, 3) := dAt (x := (2, .putfield 29, 3)) DX3_clear_0 2 rfl
theorem dX3_clear_5 : decode cX3_clear 5 = .ok (.aload_n 0, 1) := dAt (x := (5, .aload_n 0, 1)) DX3_clear_0 3 rfl
theorem dX3_clear_6 : decode cX3_clear 6 = .ok (.iconst (-1), 1) := dAt (x := (6, .iconst (-1), 1)) DX3_clear_0 4 rfl
theorem dX3_clear_7 : decode cX3_clear 7 = .ok (.putfield 25, 3) := dAt (x := (7, .putfield 25, 3)) DX3_clear_0 5 rfl
theorem dX3_clear_10 : decode cX3_clear 10 = .ok (.return_, 1) := dAt (x := (10, .return_, 1)) DX3_clear_0 6 rfl
def lDX3_add_0 : List (Nat × Instr × Nat) := [(0, .aload_n 0, 1), (1, .getfield 29, 3), (4, .bipush 24, 2), (6, .if_icmp .lt 5, 3), (9, .iconst (-1), 1), (10, .ireturn, 1), (11, .aload_n 0, 1), (12, .getfield 9, 3), (15, .aload_n 0, 1), (16, .getfield 29, 3), (19, .iload_n 1, 1), (20, .iastore, 1), (21, .aload_n 0, 1), (22, .getfield 15, 3), (25, .aload_n 0, 1), (26, .getfield 29, 3), (29, .iload_n 2, 1), (30, .iastore, 1), (31, .aload_n 0, 1), (32, .getfield 18, 3), (35, .aload_n 0, 1), (36, .getfield 29, 3), (39, .iload_n 3, 1), (40, .bastore, 1), (41, .aload_n 0, 1), (42, .dup, 1), (43, .getfield 29, 3), (46, .iconst 1, 1), (47, .iadd, 1), (48, .putfield 29, 3), (51, .aload_n 0, 1), (52, .getfield 29, 3), (55, .iconst 1, 1), (56, .isub, 1), (57, .ireturn, 1)]
theorem DX3_add_0 : dAll cX3_add lDX3_add_0 = true := by decide +kernel
theorem dX3_add_0 : decode cX3_add 0 = .ok (.aload_n 0, 1) := dAt (x := (0, .aload_n 0, 1)) DX3_add_0 0 rfl
theorem dX3_add_1 : decode cX3_add 1 = .ok (.getfield 29, 3) := dAt (x := (1, .getfield 29, 3)) DX3_add_0 1 rfl
theorem dX3_add_4 : decode cX3_add 4 = .ok (.bipush 24, 2) := dAt (x := (4, .bipush 24, 2)) DX3_add_0 2 rfl
theorem dX3_add_6 : decode cX3_add 6 = .ok (.if_icmp .lt 5, 3) := dAt (x := (6, .if_icmp .lt 5, 3)) DX3_add_0 3 rfl
theorem dX3_add_9 : decode cX3_add 9 = .ok (.iconst (-1), 1) := dAt (x := (9, .iconst (-1), 1)) DX3_add_0 4 rfl
theorem dX3_add_10 : decode cX3_add 10 = .ok (.ireturn, 1) := dAt (x := (10, .ireturn, 1)) DX3_add_0 5 rfl
theorem dX3_add_11 : decode cX3_add 11 = .ok (.aload_n 0, 1) := dAt (x := (11, .aload_n 0, 1)) DX3_add_0 6 rfl
theorem dX3_add_12 : decode cX3_add 12 = .ok (.getfield 9, 3) := dAt (x := (12, .getfield 9, 3)) DX3_add_0 7 rfl
theorem dX3_add_15 : decode cX3_add 15 = .ok (.aload_n 0, 1) := dAt (x := (15, .aload_n 0, 1)) DX3_add_0 8 rfl
theorem dX3_add_16 : decode cX3_add 16 = .ok (.getfield 29, 3) := dAt (x := (16, .getfield 29, 3)) DX3_add_0 9 rfl
theorem dX3_add_19 : decode cX3_add 19 = .ok (.iload_n 1, 1) := dAt (x := (19, .iload_n 1, 1)) DX3_add_0 10 rfl
theorem dX3_add_20 : decode cX3_add 20 = .ok (.iastore, 1) := dAt (x := (20, .iastore, 1)) DX3_add_0 11 rfl
theorem dX3_add_21 : decode cX3_add 21 = .ok (.aload_n 0, 1) := dAt (x := (21, .aload_n 0, 1)) DX3_add_0 12 rfl
theorem dX3_add_22 : decode cX3_add 22 = .ok (.getfield 15, 3) := dAt (x := (22, .getfield 15, 3)) DX3_add_0 13 rfl
theorem dX3_add_25 : decode cX3_add 25 = .ok (.aload_n 0, 1) := dAt (x := (25, .aload_n 0, 1)) DX3_add_0 14 rfl
theorem dX3_add_26 : decode cX3_add 26 = .ok (.getfield 29, 3) := dAt (x := (26, .getfield 29, 3)) DX3_add_0 15 rfl
theorem dX3_add_29 : decode cX3_add 29 = .ok (.iload_n 2, 1) := dAt (x := (29, .iload_n 2, 1)) DX3_add_0 16 rfl
theorem dX3_add_30 : decode cX3_add 30 = .ok (.iastore, 1) := dAt (x := (30, .iastore, 1)) DX3_add_0 17 rfl
theorem dX3_add_31 : decode cX3_add 31 = .ok (.aload_n 0, 1) := dAt (x := (31, .aload_n 0, 1)) DX3_add_0 18 rfl
theorem dX3_add_32 : decode cX3_add 32 = .ok (.getfield 18, 3) := dAt (x := (32, .getfield 18, 3)) DX3_add_0 19 rfl
theorem dX3_add_35 : decode cX3_add 35 = .ok (.aload_n 0, 1) := dAt (x := (35, .aload_n 0, 1)) DX3_add_0 20 rfl
theorem dX3_add_36 : decode cX3_add 36 = .ok (.getfield 29, 3) := dAt (x := (36, .getfield 29, 3)) DX3_add_0 21 rfl
theorem dX3_add_39 : decode cX3_add 39 = .ok (.iload_n 3, 1) := dAt (x := (39, .iload_n 3, 1)) DX3_add_0 22 rfl
theorem dX3_add_40 : decode cX3_add 40 = .ok (.bastore, 1) := dAt (x := (40, .bastore, 1)) DX3_add_0 23 rfl
theorem dX3_add_41 : decode cX3_add 41 = .ok (.aload_n 0, 1) := dAt (x := (41, .aload_n 0, 1)) DX3_add_0 24 rfl
theorem dX3_add_42 : decode cX3_add 42 = .ok (.dup, 1) := dAt (x := (42, .dup, 1)) DX3_add_0 25 rfl
theorem dX3_add_43 : decode cX3_add 43 = .ok (.getfield 29, 3) := dAt (x := (43, .getfield 29, 3)) DX3_add_0 26 rfl
theorem dX3_add_46 : decode cX3_add 46 = .ok (.iconst 1, 1) := dAt (x := (46, .iconst 1, 1)) DX3_add_0 27 rfl
theorem dX3_add_47 : decode cX3_add 47 = .ok (.iadd, 1) := dAt (x := (47, .iadd, 1)) DX3_add_0 28 rfl
theorem dX3_add_48 : decode cX3_add 48 = .ok (.putfield 29, 3) := dAt (x := (48, .putfield 29, 3)) DX3_add_0 29 rfl
theorem dX3_add_51 : decode cX3_add 51 = .ok (.aload_n 0, 1) := dAt (x := (51, .aload_n 0, 1)) DX3_add_0 30 rfl
theorem dX3_add_52 : decode cX3_add 52 = .ok (.getfield 29, 3) := dAt (x := (52, .getfield 29, 3)) DX3_add_0 31 rfl
theorem dX3_add_55 : decode cX3_add 55 = .ok (.iconst 1, 1) := dAt (x := (55, .iconst 1, 1)) DX3_add_0 32 rfl
theorem dX3_add_56 : decode cX3_add 56 = .ok (.isub, 1) := dAt (x := (56, .isub, 1)) DX3_add_0 33 rfl
theorem dX3_add_57 : decode cX3_add 57 = .ok (.ireturn, 1) := dAt (x := (57, .ireturn, 1)) DX3_add_0 34 rfl
def lDX3_counted_0 : List (Nat × Instr × Nat) := [(0, .aload_n 0, 1), (1, .getfield 25, 3), (4, .iconst (-1), 1), (5, .if_icmp .ne 10, 3), (8, .aload_n 0, 1), (9, .getfield 29, 3), (12, .goto 14, 3), (15, .aload_n 0, 1), (16, .getfield 25, 3), (19, .aload_n 0, 1), (20, .getfield 29, 3), (23, .invokestatic 32, 3), (26, .ireturn, 1)]
theorem DX3_counted_0 : dAll cX3_counted lDX3_counted_0 = true := by decide +kernel
theorem dX3_counted_0 : decode cX3_counted 0 = .ok (.aload_n 0, 1) := dAt (x := (0, .aload_n 0, 1)) DX3_counted_0 0 rfl
theorem dX3_counted_1 : decode cX3_counted 1 = .ok (.getfield 25, 3) := dAt (x := (1, .getfield 25, 3)) DX3_counted_0 1 rfl
theorem dX3_counted_4 : decode cX3_counted 4 = .ok (.iconst (-1), 1) := dAt (x := (4, .iconst (-1), 1)) DX3_counted_0 2 rfl
theorem dX3_counted_5 : decode cX3_counted 5 = .ok (.if_icmp .ne 10, 3) := dAt (x := (5, .if_icmp .ne 10, 3)) DX3_counted_0 3 rfl
theorem dX3_counted_8 : decode cX3_counted 8 = .ok (.aload_n 0, 1) := dAt (x := (8, .aload_n 0, 1)) DX3_counted_0 4 rfl
theorem dX3_counted_9 : decode cX3_counted 9 = .ok (.getfield 29, 3) := dAt (x := (9, .getfield 29, 3)) DX3_counted_0 5 rfl
theorem dX3_counted_12 : decode cX3_counted 12 = .ok (.goto 14, 3) := dAt (x := (12, .goto 14, 3)) DX3_counted_0 6 rfl
theorem dX3_counted_15 : decode cX3_counted 15 = .ok (.aload_n 0, 1) := dAt (x := (15, .aload_n 0, 1)) DX3_counted_0 7 rfl
theorem dX3_counted_16 : decode cX3_counted 16 = .ok (.getfield 25, 3) := dAt (x := (16, .getfield 25, 3)) DX3_counted_0 8 rfl
theorem dX3_counted_19 : decode cX3_counted 19 = .ok (.aload_n 0, 1) := dAt (x := (19, .aload_n 0, 1)) DX3_counted_0 9 rfl
theorem dX3_counted_20 : decode cX3_counted 20 = .ok (.getfield 29, 3) := dAt (x := (20, .getfield 29, 3)) DX3_counted_0 10 rfl
theorem dX3_counted_23 : decode cX3_counted 23 = .ok (.invokestatic 32, 3) := dAt (x := (23, .invokestatic 32, 3)) DX3_counted_0 11 rfl
theorem dX3_counted_26 : decode cX3_counted 26 = .ok (.ireturn, 1) := dAt (x := (26, .ireturn, 1)) DX3_counted_0 12 rfl
def lDX3_settleStrikes_0 : List (Nat × Instr × Nat) := [(0, .iconst 0, 1), (1, .istore_n 2, 1), (2, .iload_n 2, 1), (3, .bipush 24, 2), (5, .if_icmp .ge 16, 3), (8, .aload_n 0, 1), (9, .getfield 22, 3), (12, .iload_n 2, 1), (13, .iconst 0, 1), (14, .bastore, 1), (15, .iinc 2 1, 3), (18, .goto (-16), 3), (21, .iload_n 1, 1), (22, .iconst 1, 1), (23, .isub, 1), (24, .istore_n 2, 1), (25, .iload_n 2, 1), (26, .ifCond .lt 52, 3), (29, .aload_n 0, 1), (30, .getfield 15, 3), (33, .iload_n 2, 1), (34, .iaload, 1), (35, .istore_n 3, 1), (36, .aload_n 0, 1), (37, .getfield 9, 3), (40, .iload_n 2, 1), (41, .iaload, 1), (42, .iconst (-1), 1), (43, .if_icmp .ne 29, 3), (46, .aload_n 0, 1), (47, .getfield 22, 3), (50, .iload_n 2, 1), (51, .baload, 1), (52, .ifCond .ne 20, 3), (55, .iload_n 3, 1), (56, .ifCond .lt 16, 3), (59, .iload_n 3, 1), (60, .bipush 24, 2), (62, .if_icmp .ge 10, 3), (65, .aload_n 0, 1), (66, .getfield 22, 3), (69, .iload_n 3, 1), (70, .iconst 1, 1), (71, .bastore, 1), (72, .iinc 2 (-1), 3), (75, .goto (-50), 3), (78, .return_, 1)]
theorem DX3_settleStrikes_0 : dAll cX3_settleStrikes lDX3_settleStrikes_0 = true := by decide +kernel
theorem dX3_settleStrikes_0 : decode cX3_settleStrikes 0 = .ok (.iconst 0, 1) := dAt (x := (0, .iconst 0, 1)) DX3_settleStrikes_0 0 rfl
theorem dX3_settleStrikes_1 : decode cX3_settleStrikes 1 = .ok (.istore_n 2, 1) := dAt (x := (1, .istore_n 2, 1)) DX3_settleStrikes_0 1 rfl
theorem dX3_settleStrikes_2 : decode cX3_settleStrikes 2 = .ok (.iload_n 2, 1) := dAt (x := (2, .iload_n 2, 1)) DX3_settleStrikes_0 2 rfl
theorem dX3_settleStrikes_3 : decode cX3_settleStrikes 3 = .ok (.bipush 24, 2) := dAt (x := (3, .bipush 24, 2)) DX3_settleStrikes_0 3 rfl
theorem dX3_settleStrikes_5 : decode cX3_settleStrikes 5 = .ok (.if_icmp .ge 16, 3) := dAt (x := (5, .if_icmp .ge 16, 3)) DX3_settleStrikes_0 4 rfl
theorem dX3_settleStrikes_8 : decode cX3_settleStrikes 8 = .ok (.aload_n 0, 1) := dAt (x := (8, .aload_n 0, 1)) DX3_settleStrikes_0 5 rfl
theorem dX3_settleStrikes_9 : decode cX3_settleStrikes 9 = .ok (.getfield 22, 3) := dAt (x := (9, .getfield 22, 3)) DX3_settleStrikes_0 6 rfl
theorem dX3_settleStrikes_12 : decode cX3_settleStrikes 12 = .ok (.iload_n 2, 1) := dAt (x := (12, .iload_n 2, 1)) DX3_settleStrikes_0 7 rfl
theorem dX3_settleStrikes_13 : decode cX3_settleStrikes 13 = .ok (.iconst 0, 1) := dAt (x := (13, .iconst 0, 1)) DX3_settleStrikes_0 8 rfl
theorem dX3_settleStrikes_14 : decode cX3_settleStrikes 14 = .ok (.bastore, 1) := dAt (x := (14, .bastore, 1)) DX3_settleStrikes_0 9 rfl
theorem dX3_settleStrikes_15 : decode cX3_settleStrikes 15 = .ok (.iinc 2 1, 3) := dAt (x := (15, .iinc 2 1, 3)) DX3_settleStrikes_0 10 rfl
theorem dX3_settleStrikes_18 : decode cX3_settleStrikes 18 = .ok (.goto (-16), 3) := dAt (x := (18, .goto (-16), 3)) DX3_settleStrikes_0 11 rfl
theorem dX3_settleStrikes_21 : decode cX3_settleStrikes 21 = .ok (.iload_n 1, 1) := dAt (x := (21, .iload_n 1, 1)) DX3_settleStrikes_0 12 rfl
theorem dX3_settleStrikes_22 : decode cX3_settleStrikes 22 = .ok (.iconst 1, 1) := dAt (x := (22, .iconst 1, 1)) DX3_settleStrikes_0 13 rfl
theorem dX3_settleStrikes_23 : decode cX3_settleStrikes 23 = .ok (.isub, 1) := dAt (x := (23, .isub, 1)) DX3_settleStrikes_0 14 rfl
theorem dX3_settleStrikes_24 : decode cX3_settleStrikes 24 = .ok (.istore_n 2, 1) := dAt (x := (24, .istore_n 2, 1)) DX3_settleStrikes_0 15 rfl
theorem dX3_settleStrikes_25 : decode cX3_settleStrikes 25 = .ok (.iload_n 2, 1) := dAt (x := (25, .iload_n 2, 1)) DX3_settleStrikes_0 16 rfl
theorem dX3_settleStrikes_26 : decode cX3_settleStrikes 26 = .ok (.ifCond .lt 52, 3) := dAt (x := (26, .ifCond .lt 52, 3)) DX3_settleStrikes_0 17 rfl
theorem dX3_settleStrikes_29 : decode cX3_settleStrikes 29 = .ok (.aload_n 0, 1) := dAt (x := (29, .aload_n 0, 1)) DX3_settleStrikes_0 18 rfl
theorem dX3_settleStrikes_30 : decode cX3_settleStrikes 30 = .ok (.getfield 15, 3) := dAt (x := (30, .getfield 15, 3)) DX3_settleStrikes_0 19 rfl
theorem dX3_settleStrikes_33 : decode cX3_settleStrikes 33 = .ok (.iload_n 2, 1) := dAt (x := (33, .iload_n 2, 1)) DX3_settleStrikes_0 20 rfl
theorem dX3_settleStrikes_34 : decode cX3_settleStrikes 34 = .ok (.iaload, 1) := dAt (x := (34, .iaload, 1)) DX3_settleStrikes_0 21 rfl
theorem dX3_settleStrikes_35 : decode cX3_settleStrikes 35 = .ok (.istore_n 3, 1) := dAt (x := (35, .istore_n 3, 1)) DX3_settleStrikes_0 22 rfl
theorem dX3_settleStrikes_36 : decode cX3_settleStrikes 36 = .ok (.aload_n 0, 1) := dAt (x := (36, .aload_n 0, 1)) DX3_settleStrikes_0 23 rfl
theorem dX3_settleStrikes_37 : decode cX3_settleStrikes 37 = .ok (.getfield 9, 3) := dAt (x := (37, .getfield 9, 3)) DX3_settleStrikes_0 24 rfl
theorem dX3_settleStrikes_40 : decode cX3_settleStrikes 40 = .ok (.iload_n 2, 1) := dAt (x := (40, .iload_n 2, 1)) DX3_settleStrikes_0 25 rfl
theorem dX3_settleStrikes_41 : decode cX3_settleStrikes 41 = .ok (.iaload, 1) := dAt (x := (41, .iaload, 1)) DX3_settleStrikes_0 26 rfl
theorem dX3_settleStrikes_42 : decode cX3_settleStrikes 42 = .ok (.iconst (-1), 1) := dAt (x := (42, .iconst (-1), 1)) DX3_settleStrikes_0 27 rfl
theorem dX3_settleStrikes_43 : decode cX3_settleStrikes 43 = .ok (.if_icmp .ne 29, 3) := dAt (x := (43, .if_icmp .ne 29, 3)) DX3_settleStrikes_0 28 rfl
theorem dX3_settleStrikes_46 : decode cX3_settleStrikes 46 = .ok (.aload_n 0, 1) := dAt (x := (46, .aload_n 0, 1)) DX3_settleStrikes_0 29 rfl
theorem dX3_settleStrikes_47 : decode cX3_settleStrikes 47 = .ok (.getfield 22, 3) := dAt (x := (47, .getfield 22, 3)) DX3_settleStrikes_0 30 rfl
theorem dX3_settleStrikes_50 : decode cX3_settleStrikes 50 = .ok (.iload_n 2, 1) := dAt (x := (50, .iload_n 2, 1)) DX3_settleStrikes_0 31 rfl
theorem dX3_settleStrikes_51 : decode cX3_settleStrikes 51 = .ok (.baload, 1) := dAt (x := (51, .baload, 1)) DX3_settleStrikes_0 32 rfl
theorem dX3_settleStrikes_52 : decode cX3_settleStrikes 52 = .ok (.ifCond .ne 20, 3) := dAt (x := (52, .ifCond .ne 20, 3)) DX3_settleStrikes_0 33 rfl
theorem dX3_settleStrikes_55 : decode cX3_settleStrikes 55 = .ok (.iload_n 3, 1) := dAt (x := (55, .iload_n 3, 1)) DX3_settleStrikes_0 34 rfl
theorem dX3_settleStrikes_56 : decode cX3_settleStrikes 56 = .ok (.ifCond .lt 16, 3) := dAt (x := (56, .ifCond .lt 16, 3)) DX3_settleStrikes_0 35 rfl
theorem dX3_settleStrikes_59 : decode cX3_settleStrikes 59 = .ok (.iload_n 3, 1) := dAt (x := (59, .iload_n 3, 1)) DX3_settleStrikes_0 36 rfl
theorem dX3_settleStrikes_60 : decode cX3_settleStrikes 60 = .ok (.bipush 24, 2) := dAt (x := (60, .bipush 24, 2)) DX3_settleStrikes_0 37 rfl
theorem dX3_settleStrikes_62 : decode cX3_settleStrikes 62 = .ok (.if_icmp .ge 10, 3) := dAt (x := (62, .if_icmp .ge 10, 3)) DX3_settleStrikes_0 38 rfl
theorem dX3_settleStrikes_65 : decode cX3_settleStrikes 65 = .ok (.aload_n 0, 1) := dAt (x := (65, .aload_n 0, 1)) DX3_settleStrikes_0 39 rfl
theorem dX3_settleStrikes_66 : decode cX3_settleStrikes 66 = .ok (.getfield 22, 3) := dAt (x := (66, .getfield 22, 3)) DX3_settleStrikes_0 40 rfl
theorem dX3_settleStrikes_69 : decode cX3_settleStrikes 69 = .ok (.iload_n 3, 1) := dAt (x := (69, .iload_n 3, 1)) DX3_settleStrikes_0 41 rfl
theorem dX3_settleStrikes_70 : decode cX3_settleStrikes 70 = .ok (.iconst 1, 1) := dAt (x := (70, .iconst 1, 1)) DX3_settleStrikes_0 42 rfl
theorem dX3_settleStrikes_71 : decode cX3_settleStrikes 71 = .ok (.bastore, 1) := dAt (x := (71, .bastore, 1)) DX3_settleStrikes_0 43 rfl
theorem dX3_settleStrikes_72 : decode cX3_settleStrikes 72 = .ok (.iinc 2 (-1), 3) := dAt (x := (72, .iinc 2 (-1), 3)) DX3_settleStrikes_0 44 rfl
theorem dX3_settleStrikes_75 : decode cX3_settleStrikes 75 = .ok (.goto (-50), 3) := dAt (x := (75, .goto (-50), 3)) DX3_settleStrikes_0 45 rfl
theorem dX3_settleStrikes_78 : decode cX3_settleStrikes 78 = .ok (.return_, 1) := dAt (x := (78, .return_, 1)) DX3_settleStrikes_0 46 rfl
def lDX3_fitting_0 : List (Nat × Instr × Nat) := [(0, .aload_n 0, 1), (1, .invokevirtual 38, 3), (4, .istore_n 3, 1), (5, .aload_n 0, 1), (6, .iload_n 3, 1), (7, .invokevirtual 42, 3), (10, .iconst 0, 1), (11, .istore 4, 2), (13, .iconst 0, 1), (14, .istore 5, 2), (16, .iload 5, 2), (18, .iconst 2, 1), (19, .iload_n 2, 1), (20, .imul, 1), (21, .if_icmp .gt 56, 3), (24, .iload 5, 2), (26, .ifCond .le 17, 3), (29, .iload 5, 2), (31, .iconst 1, 1), (32, .isub, 1), (33, .iconst 2, 1), (34, .idiv, 1), (35, .iload_n 1, 1), (36, .if_icmp .ne 7, 3), (39, .iconst 1, 1), (40, .goto 4, 3), (43, .iconst 0, 1), (44, .istore 6, 2), (46, .iload 6, 2), (48, .ifCond .ne 23, 3), (51, .aload_n 0, 1), (52, .iload 5, 2), (54, .iload_n 1, 1), (55, .iload_n 3, 1), (56, .invokevirtual 46, 3), (59, .ifCond .eq 12, 3), (62, .iload 4, 2), (64, .iconst 1, 1), (65, .iload 5, 2), (67, .ishl, 1), (68, .ior, 1), (69, .istore 4, 2), (71, .iinc 5 1, 3), (74, .goto (-58), 3), (77, .iload 4, 2), (79, .ireturn, 1)]
theorem DX3_fitting_0 : dAll cX3_fitting lDX3_fitting_0 = true := by decide +kernel
theorem dX3_fitting_0 : decode cX3_fitting 0 = .ok (.aload_n 0, 1) := dAt (x := (0, .aload_n 0, 1)) DX3_fitting_0 0 rfl
theorem dX3_fitting_1 : decode cX3_fitting 1 = .ok (.invokevirtual 38, 3) := dAt (x := (1, .invokevirtual 38, 3)) DX3_fitting_0 1 rfl
theorem dX3_fitting_4 : decode cX3_fitting 4 = .ok (.istore_n 3, 1) := dAt (x := (4, .istore_n 3, 1)) DX3_fitting_0 2 rfl
theorem dX3_fitting_5 : decode cX3_fitting 5 = .ok (.aload_n 0, 1) := dAt (x := (5, .aload_n 0, 1)) DX3_fitting_0 3 rfl
theorem dX3_fitting_6 : decode cX3_fitting 6 = .ok (.iload_n 3, 1) := dAt (x := (6, .iload_n 3, 1)) DX3_fitting_0 4 rfl
theorem dX3_fitting_7 : decode cX3_fitting 7 = .ok (.invokevirtual 42, 3) := dAt (x := (7, .invokevirtual 42, 3)) DX3_fitting_0 5 rfl
theorem dX3_fitting_10 : decode cX3_fitting 10 = .ok (.iconst 0, 1) := dAt (x := (10, .iconst 0, 1)) DX3_fitting_0 6 rfl
theorem dX3_fitting_11 : decode cX3_fitting 11 = .ok (.istore 4, 2) := dAt (x := (11, .istore 4, 2)) DX3_fitting_0 7 rfl
theorem dX3_fitting_13 : decode cX3_fitting 13 = .ok (.iconst 0, 1) := dAt (x := (13, .iconst 0, 1)) DX3_fitting_0 8 rfl
theorem dX3_fitting_14 : decode cX3_fitting 14 = .ok (.istore 5, 2) := dAt (x := (14, .istore 5, 2)) DX3_fitting_0 9 rfl
theorem dX3_fitting_16 : decode cX3_fitting 16 = .ok (.iload 5, 2) := dAt (x := (16, .iload 5, 2)) DX3_fitting_0 10 rfl
theorem dX3_fitting_18 : decode cX3_fitting 18 = .ok (.iconst 2, 1) := dAt (x := (18, .iconst 2, 1)) DX3_fitting_0 11 rfl
theorem dX3_fitting_19 : decode cX3_fitting 19 = .ok (.iload_n 2, 1) := dAt (x := (19, .iload_n 2, 1)) DX3_fitting_0 12 rfl
theorem dX3_fitting_20 : decode cX3_fitting 20 = .ok (.imul, 1) := dAt (x := (20, .imul, 1)) DX3_fitting_0 13 rfl
theorem dX3_fitting_21 : decode cX3_fitting 21 = .ok (.if_icmp .gt 56, 3) := dAt (x := (21, .if_icmp .gt 56, 3)) DX3_fitting_0 14 rfl
theorem dX3_fitting_24 : decode cX3_fitting 24 = .ok (.iload 5, 2) := dAt (x := (24, .iload 5, 2)) DX3_fitting_0 15 rfl
theorem dX3_fitting_26 : decode cX3_fitting 26 = .ok (.ifCond .le 17, 3) := dAt (x := (26, .ifCond .le 17, 3)) DX3_fitting_0 16 rfl
theorem dX3_fitting_29 : decode cX3_fitting 29 = .ok (.iload 5, 2) := dAt (x := (29, .iload 5, 2)) DX3_fitting_0 17 rfl
theorem dX3_fitting_31 : decode cX3_fitting 31 = .ok (.iconst 1, 1) := dAt (x := (31, .iconst 1, 1)) DX3_fitting_0 18 rfl
theorem dX3_fitting_32 : decode cX3_fitting 32 = .ok (.isub, 1) := dAt (x := (32, .isub, 1)) DX3_fitting_0 19 rfl
theorem dX3_fitting_33 : decode cX3_fitting 33 = .ok (.iconst 2, 1) := dAt (x := (33, .iconst 2, 1)) DX3_fitting_0 20 rfl
theorem dX3_fitting_34 : decode cX3_fitting 34 = .ok (.idiv, 1) := dAt (x := (34, .idiv, 1)) DX3_fitting_0 21 rfl
theorem dX3_fitting_35 : decode cX3_fitting 35 = .ok (.iload_n 1, 1) := dAt (x := (35, .iload_n 1, 1)) DX3_fitting_0 22 rfl
theorem dX3_fitting_36 : decode cX3_fitting 36 = .ok (.if_icmp .ne 7, 3) := dAt (x := (36, .if_icmp .ne 7, 3)) DX3_fitting_0 23 rfl
theorem dX3_fitting_39 : decode cX3_fitting 39 = .ok (.iconst 1, 1) := dAt (x := (39, .iconst 1, 1)) DX3_fitting_0 24 rfl
theorem dX3_fitting_40 : decode cX3_fitting 40 = .ok (.goto 4, 3) := dAt (x := (40, .goto 4, 3)) DX3_fitting_0 25 rfl
theorem dX3_fitting_43 : decode cX3_fitting 43 = .ok (.iconst 0, 1) := dAt (x := (43, .iconst 0, 1)) DX3_fitting_0 26 rfl
theorem dX3_fitting_44 : decode cX3_fitting 44 = .ok (.istore 6, 2) := dAt (x := (44, .istore 6, 2)) DX3_fitting_0 27 rfl
theorem dX3_fitting_46 : decode cX3_fitting 46 = .ok (.iload 6, 2) := dAt (x := (46, .iload 6, 2)) DX3_fitting_0 28 rfl
theorem dX3_fitting_48 : decode cX3_fitting 48 = .ok (.ifCond .ne 23, 3) := dAt (x := (48, .ifCond .ne 23, 3)) DX3_fitting_0 29 rfl
theorem dX3_fitting_51 : decode cX3_fitting 51 = .ok (.aload_n 0, 1) := dAt (x := (51, .aload_n 0, 1)) DX3_fitting_0 30 rfl
theorem dX3_fitting_52 : decode cX3_fitting 52 = .ok (.iload 5, 2) := dAt (x := (52, .iload 5, 2)) DX3_fitting_0 31 rfl
theorem dX3_fitting_54 : decode cX3_fitting 54 = .ok (.iload_n 1, 1) := dAt (x := (54, .iload_n 1, 1)) DX3_fitting_0 32 rfl
theorem dX3_fitting_55 : decode cX3_fitting 55 = .ok (.iload_n 3, 1) := dAt (x := (55, .iload_n 3, 1)) DX3_fitting_0 33 rfl
theorem dX3_fitting_56 : decode cX3_fitting 56 = .ok (.invokevirtual 46, 3) := dAt (x := (56, .invokevirtual 46, 3)) DX3_fitting_0 34 rfl
theorem dX3_fitting_59 : decode cX3_fitting 59 = .ok (.ifCond .eq 12, 3) := dAt (x := (59, .ifCond .eq 12, 3)) DX3_fitting_0 35 rfl
theorem dX3_fitting_62 : decode cX3_fitting 62 = .ok (.iload 4, 2) := dAt (x := (62, .iload 4, 2)) DX3_fitting_0 36 rfl
theorem dX3_fitting_64 : decode cX3_fitting 64 = .ok (.iconst 1, 1) := dAt (x := (64, .iconst 1, 1)) DX3_fitting_0 37 rfl
theorem dX3_fitting_65 : decode cX3_fitting 65 = .ok (.iload 5, 2) := dAt (x := (65, .iload 5, 2)) DX3_fitting_0 38 rfl
theorem dX3_fitting_67 : decode cX3_fitting 67 = .ok (.ishl, 1) := dAt (x := (67, .ishl, 1)) DX3_fitting_0 39 rfl
theorem dX3_fitting_68 : decode cX3_fitting 68 = .ok (.ior, 1) := dAt (x := (68, .ior, 1)) DX3_fitting_0 40 rfl
theorem dX3_fitting_69 : decode cX3_fitting 69 = .ok (.istore 4, 2) := dAt (x := (69, .istore 4, 2)) DX3_fitting_0 41 rfl
theorem dX3_fitting_71 : decode cX3_fitting 71 = .ok (.iinc 5 1, 3) := dAt (x := (71, .iinc 5 1, 3)) DX3_fitting_0 42 rfl
theorem dX3_fitting_74 : decode cX3_fitting 74 = .ok (.goto (-58), 3) := dAt (x := (74, .goto (-58), 3)) DX3_fitting_0 43 rfl
theorem dX3_fitting_77 : decode cX3_fitting 77 = .ok (.iload 4, 2) := dAt (x := (77, .iload 4, 2)) DX3_fitting_0 44 rfl
theorem dX3_fitting_79 : decode cX3_fitting 79 = .ok (.ireturn, 1) := dAt (x := (79, .ireturn, 1)) DX3_fitting_0 45 rfl
def lDX3_agrees_0 : List (Nat × Instr × Nat) := [(0, .iconst 0, 1), (1, .istore 4, 2), (3, .iload 4, 2), (5, .iload_n 3, 1), (6, .if_icmp .ge 60, 3), (9, .iload 4, 2), (11, .bipush 24, 2), (13, .if_icmp .ge 53, 3), (16, .aload_n 0, 1), (17, .getfield 9, 3), (20, .iload 4, 2), (22, .iaload, 1), (23, .iload_n 2, 1), (24, .if_icmp .ne 36, 3), (27, .aload_n 0, 1), (28, .getfield 22, 3), (31, .iload 4, 2), (33, .baload, 1), (34, .ifCond .ne 26, 3), (37, .iload_n 1, 1), (38, .aload_n 0, 1), (39, .getfield 15, 3), (42, .iload 4, 2), (44, .iaload, 1), (45, .invokestatic 50, 3), (48, .aload_n 0, 1), (49, .getfield 18, 3), (52, .iload 4, 2), (54, .baload, 1), (55, .if_icmp .eq 5, 3), (58, .iconst 0, 1), (59, .ireturn, 1), (60, .iinc 4 1, 3), (63, .goto (-60), 3), (66, .iconst 1, 1), (67, .ireturn, 1)]
theorem DX3_agrees_0 : dAll cX3_agrees lDX3_agrees_0 = true := by decide +kernel
theorem dX3_agrees_0 : decode cX3_agrees 0 = .ok (.iconst 0, 1) := dAt (x := (0, .iconst 0, 1)) DX3_agrees_0 0 rfl
theorem dX3_agrees_1 : decode cX3_agrees 1 = .ok (.istore 4, 2) := dAt (x := (1, .istore 4, 2)) DX3_agrees_0 1 rfl
theorem dX3_agrees_3 : decode cX3_agrees 3 = .ok (.iload 4, 2) := dAt (x := (3, .iload 4, 2)) DX3_agrees_0 2 rfl
theorem dX3_agrees_5 : decode cX3_agrees 5 = .ok (.iload_n 3, 1) := dAt (x := (5, .iload_n 3, 1)) DX3_agrees_0 3 rfl
theorem dX3_agrees_6 : decode cX3_agrees 6 = .ok (.if_icmp .ge 60, 3) := dAt (x := (6, .if_icmp .ge 60, 3)) DX3_agrees_0 4 rfl
theorem dX3_agrees_9 : decode cX3_agrees 9 = .ok (.iload 4, 2) := dAt (x := (9, .iload 4, 2)) DX3_agrees_0 5 rfl
theorem dX3_agrees_11 : decode cX3_agrees 11 = .ok (.bipush 24, 2) := dAt (x := (11, .bipush 24, 2)) DX3_agrees_0 6 rfl
theorem dX3_agrees_13 : decode cX3_agrees 13 = .ok (.if_icmp .ge 53, 3) := dAt (x := (13, .if_icmp .ge 53, 3)) DX3_agrees_0 7 rfl
theorem dX3_agrees_16 : decode cX3_agrees 16 = .ok (.aload_n 0, 1) := dAt (x := (16, .aload_n 0, 1)) DX3_agrees_0 8 rfl
theorem dX3_agrees_17 : decode cX3_agrees 17 = .ok (.getfield 9, 3) := dAt (x := (17, .getfield 9, 3)) DX3_agrees_0 9 rfl
theorem dX3_agrees_20 : decode cX3_agrees 20 = .ok (.iload 4, 2) := dAt (x := (20, .iload 4, 2)) DX3_agrees_0 10 rfl
theorem dX3_agrees_22 : decode cX3_agrees 22 = .ok (.iaload, 1) := dAt (x := (22, .iaload, 1)) DX3_agrees_0 11 rfl
theorem dX3_agrees_23 : decode cX3_agrees 23 = .ok (.iload_n 2, 1) := dAt (x := (23, .iload_n 2, 1)) DX3_agrees_0 12 rfl
theorem dX3_agrees_24 : decode cX3_agrees 24 = .ok (.if_icmp .ne 36, 3) := dAt (x := (24, .if_icmp .ne 36, 3)) DX3_agrees_0 13 rfl
theorem dX3_agrees_27 : decode cX3_agrees 27 = .ok (.aload_n 0, 1) := dAt (x := (27, .aload_n 0, 1)) DX3_agrees_0 14 rfl
theorem dX3_agrees_28 : decode cX3_agrees 28 = .ok (.getfield 22, 3) := dAt (x := (28, .getfield 22, 3)) DX3_agrees_0 15 rfl
theorem dX3_agrees_31 : decode cX3_agrees 31 = .ok (.iload 4, 2) := dAt (x := (31, .iload 4, 2)) DX3_agrees_0 16 rfl
theorem dX3_agrees_33 : decode cX3_agrees 33 = .ok (.baload, 1) := dAt (x := (33, .baload, 1)) DX3_agrees_0 17 rfl
theorem dX3_agrees_34 : decode cX3_agrees 34 = .ok (.ifCond .ne 26, 3) := dAt (x := (34, .ifCond .ne 26, 3)) DX3_agrees_0 18 rfl
theorem dX3_agrees_37 : decode cX3_agrees 37 = .ok (.iload_n 1, 1) := dAt (x := (37, .iload_n 1, 1)) DX3_agrees_0 19 rfl
theorem dX3_agrees_38 : decode cX3_agrees 38 = .ok (.aload_n 0, 1) := dAt (x := (38, .aload_n 0, 1)) DX3_agrees_0 20 rfl
theorem dX3_agrees_39 : decode cX3_agrees 39 = .ok (.getfield 15, 3) := dAt (x := (39, .getfield 15, 3)) DX3_agrees_0 21 rfl
theorem dX3_agrees_42 : decode cX3_agrees 42 = .ok (.iload 4, 2) := dAt (x := (42, .iload 4, 2)) DX3_agrees_0 22 rfl
theorem dX3_agrees_44 : decode cX3_agrees 44 = .ok (.iaload, 1) := dAt (x := (44, .iaload, 1)) DX3_agrees_0 23 rfl
theorem dX3_agrees_45 : decode cX3_agrees 45 = .ok (.invokestatic 50, 3) := dAt (x := (45, .invokestatic 50, 3)) DX3_agrees_0 24 rfl
theorem dX3_agrees_48 : decode cX3_agrees 48 = .ok (.aload_n 0, 1) := dAt (x := (48, .aload_n 0, 1)) DX3_agrees_0 25 rfl
theorem dX3_agrees_49 : decode cX3_agrees 49 = .ok (.getfield 18, 3) := dAt (x := (49, .getfield 18, 3)) DX3_agrees_0 26 rfl
theorem dX3_agrees_52 : decode cX3_agrees 52 = .ok (.iload 4, 2) := dAt (x := (52, .iload 4, 2)) DX3_agrees_0 27 rfl
theorem dX3_agrees_54 : decode cX3_agrees 54 = .ok (.baload, 1) := dAt (x := (54, .baload, 1)) DX3_agrees_0 28 rfl
theorem dX3_agrees_55 : decode cX3_agrees 55 = .ok (.if_icmp .eq 5, 3) := dAt (x := (55, .if_icmp .eq 5, 3)) DX3_agrees_0 29 rfl
theorem dX3_agrees_58 : decode cX3_agrees 58 = .ok (.iconst 0, 1) := dAt (x := (58, .iconst 0, 1)) DX3_agrees_0 30 rfl
theorem dX3_agrees_59 : decode cX3_agrees 59 = .ok (.ireturn, 1) := dAt (x := (59, .ireturn, 1)) DX3_agrees_0 31 rfl
theorem dX3_agrees_60 : decode cX3_agrees 60 = .ok (.iinc 4 1, 3) := dAt (x := (60, .iinc 4 1, 3)) DX3_agrees_0 32 rfl
theorem dX3_agrees_63 : decode cX3_agrees 63 = .ok (.goto (-60), 3) := dAt (x := (63, .goto (-60), 3)) DX3_agrees_0 33 rfl
theorem dX3_agrees_66 : decode cX3_agrees 66 = .ok (.iconst 1, 1) := dAt (x := (66, .iconst 1, 1)) DX3_agrees_0 34 rfl
theorem dX3_agrees_67 : decode cX3_agrees 67 = .ok (.ireturn, 1) := dAt (x := (67, .ireturn, 1)) DX3_agrees_0 35 rfl
def lDX3_lets_0 : List (Nat × Instr × Nat) := [(0, .iload_n 0, 1), (1, .ifCond .ne 5, 3), (4, .iconst 1, 1), (5, .ireturn, 1), (6, .iload_n 1, 1), (7, .iload_n 0, 1), (8, .iconst 1, 1), (9, .isub, 1), (10, .iconst 2, 1), (11, .idiv, 1), (12, .ishr, 1), (13, .iconst 1, 1), (14, .iand, 1), (15, .istore_n 2, 1), (16, .iload_n 2, 1), (17, .iload_n 0, 1), (18, .iconst 2, 1), (19, .irem, 1), (20, .if_icmp .ne 7, 3), (23, .iconst 1, 1), (24, .goto 4, 3), (27, .iconst 0, 1), (28, .ireturn, 1)]
theorem DX3_lets_0 : dAll cX3_lets lDX3_lets_0 = true := by decide +kernel
theorem dX3_lets_0 : decode cX3_lets 0 = .ok (.iload_n 0, 1) := dAt (x := (0, .iload_n 0, 1)) DX3_lets_0 0 rfl
theorem dX3_lets_1 : decode cX3_lets 1 = .ok (.ifCond .ne 5, 3) := dAt (x := (1, .ifCond .ne 5, 3)) DX3_lets_0 1 rfl
theorem dX3_lets_4 : decode cX3_lets 4 = .ok (.iconst 1, 1) := dAt (x := (4, .iconst 1, 1)) DX3_lets_0 2 rfl
theorem dX3_lets_5 : decode cX3_lets 5 = .ok (.ireturn, 1) := dAt (x := (5, .ireturn, 1)) DX3_lets_0 3 rfl
theorem dX3_lets_6 : decode cX3_lets 6 = .ok (.iload_n 1, 1) := dAt (x := (6, .iload_n 1, 1)) DX3_lets_0 4 rfl
theorem dX3_lets_7 : decode cX3_lets 7 = .ok (.iload_n 0, 1) := dAt (x := (7, .iload_n 0, 1)) DX3_lets_0 5 rfl
theorem dX3_lets_8 : decode cX3_lets 8 = .ok (.iconst 1, 1) := dAt (x := (8, .iconst 1, 1)) DX3_lets_0 6 rfl
theorem dX3_lets_9 : decode cX3_lets 9 = .ok (.isub, 1) := dAt (x := (9, .isub, 1)) DX3_lets_0 7 rfl
theorem dX3_lets_10 : decode cX3_lets 10 = .ok (.iconst 2, 1) := dAt (x := (10, .iconst 2, 1)) DX3_lets_0 8 rfl
theorem dX3_lets_11 : decode cX3_lets 11 = .ok (.idiv, 1) := dAt (x := (11, .idiv, 1)) DX3_lets_0 9 rfl
theorem dX3_lets_12 : decode cX3_lets 12 = .ok (.ishr, 1) := dAt (x := (12, .ishr, 1)) DX3_lets_0 10 rfl
theorem dX3_lets_13 : decode cX3_lets 13 = .ok (.iconst 1, 1) := dAt (x := (13, .iconst 1, 1)) DX3_lets_0 11 rfl
theorem dX3_lets_14 : decode cX3_lets 14 = .ok (.iand, 1) := dAt (x := (14, .iand, 1)) DX3_lets_0 12 rfl
theorem dX3_lets_15 : decode cX3_lets 15 = .ok (.istore_n 2, 1) := dAt (x := (15, .istore_n 2, 1)) DX3_lets_0 13 rfl
theorem dX3_lets_16 : decode cX3_lets 16 = .ok (.iload_n 2, 1) := dAt (x := (16, .iload_n 2, 1)) DX3_lets_0 14 rfl
theorem dX3_lets_17 : decode cX3_lets 17 = .ok (.iload_n 0, 1) := dAt (x := (17, .iload_n 0, 1)) DX3_lets_0 15 rfl
theorem dX3_lets_18 : decode cX3_lets 18 = .ok (.iconst 2, 1) := dAt (x := (18, .iconst 2, 1)) DX3_lets_0 16 rfl
theorem dX3_lets_19 : decode cX3_lets 19 = .ok (.irem, 1) := dAt (x := (19, .irem, 1)) DX3_lets_0 17 rfl
theorem dX3_lets_20 : decode cX3_lets 20 = .ok (.if_icmp .ne 7, 3) := dAt (x := (20, .if_icmp .ne 7, 3)) DX3_lets_0 18 rfl
theorem dX3_lets_23 : decode cX3_lets 23 = .ok (.iconst 1, 1) := dAt (x := (23, .iconst 1, 1)) DX3_lets_0 19 rfl
theorem dX3_lets_24 : decode cX3_lets 24 = .ok (.goto 4, 3) := dAt (x := (24, .goto 4, 3)) DX3_lets_0 20 rfl
theorem dX3_lets_27 : decode cX3_lets 27 = .ok (.iconst 0, 1) := dAt (x := (27, .iconst 0, 1)) DX3_lets_0 21 rfl
theorem dX3_lets_28 : decode cX3_lets 28 = .ok (.ireturn, 1) := dAt (x := (28, .ireturn, 1)) DX3_lets_0 22 rfl
def lDX3_bestAsked_0 : List (Nat × Instr × Nat) := [(0, .aload_n 0, 1), (1, .iload_n 1, 1), (2, .iload_n 2, 1), (3, .invokevirtual 54, 3), (6, .istore 4, 2), (8, .iload 4, 2), (10, .invokestatic 57, 3), (13, .istore 5, 2), (15, .iload 5, 2), (17, .iconst 1, 1), (18, .iadd, 1), (19, .istore 6, 2), (21, .iconst 0, 1), (22, .istore 7, 2), (24, .iconst 0, 1), (25, .istore 8, 2), (27, .iload 8, 2), (29, .iconst 1, 1), (30, .iload_n 2, 1), (31, .ishl, 1), (32, .if_icmp .ge 79, 3), (35, .iconst 0, 1), (36, .istore 9, 2), (38, .iconst 0, 1), (39, .istore 10, 2), (41, .iload 10, 2), (43, .iconst 2, 1), (44, .iload_n 2, 1), (45, .imul, 1), (46, .if_icmp .gt 32, 3), (49, .iload 4, 2), (51, .iload 10, 2), (53, .ishr, 1), (54, .iconst 1, 1), (55, .iand, 1), (56, .ifCond .eq 16, 3), (59, .iload 10, 2), (61, .iload 8, 2), (63, .invokestatic 50, 3), (66, .ifCond .eq 6, 3), (69, .iinc 9 1, 3), (72, .iinc 10 1, 3), (75, .goto (-34), 3), (78, .iload 9, 2), (80, .iload 5, 2), (82, .iload 9, 2), (84, .isub, 1), (85, .invokestatic 63, 3), (88, .istore 10, 2), (90, .iload 10, 2), (92, .iload 6, 2), (94, .if_icmp .ge 11, 3), (97, .iload 10, 2), (99, .istore 6, 2), (101, .iload 8, 2), (103, .istore 7, 2), (105, .iinc 8 1, 3), (108, .goto (-81), 3), (111, .iload_n 3, 1), (112, .ifCond .ne 8, 3)]
theorem DX3_bestAsked_0 : dAll cX3_bestAsked lDX3_bestAsked_0 = true := by decide +kernel
theorem dX3_bestAsked_0 : decode cX3_bestAsked 0 = .ok (.aload_n 0, 1) := dAt (x := (0, .aload_n 0, 1)) DX3_bestAsked_0 0 rfl
theorem dX3_bestAsked_1 : decode cX3_bestAsked 1 = .ok (.iload_n 1, 1) := dAt (x := (1, .iload_n 1, 1)) DX3_bestAsked_0 1 rfl
theorem dX3_bestAsked_2 : decode cX3_bestAsked 2 = .ok (.iload_n 2, 1) := dAt (x := (2, .iload_n 2, 1)) DX3_bestAsked_0 2 rfl
theorem dX3_bestAsked_3 : decode cX3_bestAsked 3 = .ok (.invokevirtual 54, 3) := dAt (x := (3, .invokevirtual 54, 3)) DX3_bestAsked_0 3 rfl
theorem dX3_bestAsked_6 : decode cX3_bestAsked 6 = .ok (.istore 4, 2) := dAt (x := (6, .istore 4, 2)) DX3_bestAsked_0 4 rfl
theorem dX3_bestAsked_8 : decode cX3_bestAsked 8 = .ok (.iload 4, 2) := dAt (x := (8, .iload 4, 2)) DX3_bestAsked_0 5 rfl
theorem dX3_bestAsked_10 : decode cX3_bestAsked 10 = .ok (.invokestatic 57, 3) := dAt (x := (10, .invokestatic 57, 3)) DX3_bestAsked_0 6 rfl
theorem dX3_bestAsked_13 : decode cX3_bestAsked 13 = .ok (.istore 5, 2) := dAt (x := (13, .istore 5, 2)) DX3_bestAsked_0 7 rfl
theorem dX3_bestAsked_15 : decode cX3_bestAsked 15 = .ok (.iload 5, 2) := dAt (x := (15, .iload 5, 2)) DX3_bestAsked_0 8 rfl
theorem dX3_bestAsked_17 : decode cX3_bestAsked 17 = .ok (.iconst 1, 1) := dAt (x := (17, .iconst 1, 1)) DX3_bestAsked_0 9 rfl
theorem dX3_bestAsked_18 : decode cX3_bestAsked 18 = .ok (.iadd, 1) := dAt (x := (18, .iadd, 1)) DX3_bestAsked_0 10 rfl
theorem dX3_bestAsked_19 : decode cX3_bestAsked 19 = .ok (.istore 6, 2) := dAt (x := (19, .istore 6, 2)) DX3_bestAsked_0 11 rfl
theorem dX3_bestAsked_21 : decode cX3_bestAsked 21 = .ok (.iconst 0, 1) := dAt (x := (21, .iconst 0, 1)) DX3_bestAsked_0 12 rfl
theorem dX3_bestAsked_22 : decode cX3_bestAsked 22 = .ok (.istore 7, 2) := dAt (x := (22, .istore 7, 2)) DX3_bestAsked_0 13 rfl
theorem dX3_bestAsked_24 : decode cX3_bestAsked 24 = .ok (.iconst 0, 1) := dAt (x := (24, .iconst 0, 1)) DX3_bestAsked_0 14 rfl
theorem dX3_bestAsked_25 : decode cX3_bestAsked 25 = .ok (.istore 8, 2) := dAt (x := (25, .istore 8, 2)) DX3_bestAsked_0 15 rfl
theorem dX3_bestAsked_27 : decode cX3_bestAsked 27 = .ok (.iload 8, 2) := dAt (x := (27, .iload 8, 2)) DX3_bestAsked_0 16 rfl
theorem dX3_bestAsked_29 : decode cX3_bestAsked 29 = .ok (.iconst 1, 1) := dAt (x := (29, .iconst 1, 1)) DX3_bestAsked_0 17 rfl
theorem dX3_bestAsked_30 : decode cX3_bestAsked 30 = .ok (.iload_n 2, 1) := dAt (x := (30, .iload_n 2, 1)) DX3_bestAsked_0 18 rfl
theorem dX3_bestAsked_31 : decode cX3_bestAsked 31 = .ok (.ishl, 1) := dAt (x := (31, .ishl, 1)) DX3_bestAsked_0 19 rfl
theorem dX3_bestAsked_32 : decode cX3_bestAsked 32 = .ok (.if_icmp .ge 79, 3) := dAt (x := (32, .if_icmp .ge 79, 3)) DX3_bestAsked_0 20 rfl
theorem dX3_bestAsked_35 : decode cX3_bestAsked 35 = .ok (.iconst 0, 1) := dAt (x := (35, .iconst 0, 1)) DX3_bestAsked_0 21 rfl
theorem dX3_bestAsked_36 : decode cX3_bestAsked 36 = .ok (.istore 9, 2) := dAt (x := (36, .istore 9, 2)) DX3_bestAsked_0 22 rfl
theorem dX3_bestAsked_38 : decode cX3_bestAsked 38 = .ok (.iconst 0, 1) := dAt (x := (38, .iconst 0, 1)) DX3_bestAsked_0 23 rfl
theorem dX3_bestAsked_39 : decode cX3_bestAsked 39 = .ok (.istore 10, 2) := dAt (x := (39, .istore 10, 2)) DX3_bestAsked_0 24 rfl
theorem dX3_bestAsked_41 : decode cX3_bestAsked 41 = .ok (.iload 10, 2) := dAt (x := (41, .iload 10, 2)) DX3_bestAsked_0 25 rfl
theorem dX3_bestAsked_43 : decode cX3_bestAsked 43 = .ok (.iconst 2, 1) := dAt (x := (43, .iconst 2, 1)) DX3_bestAsked_0 26 rfl
theorem dX3_bestAsked_44 : decode cX3_bestAsked 44 = .ok (.iload_n 2, 1) := dAt (x := (44, .iload_n 2, 1)) DX3_bestAsked_0 27 rfl
theorem dX3_bestAsked_45 : decode cX3_bestAsked 45 = .ok (.imul, 1) := dAt (x := (45, .imul, 1)) DX3_bestAsked_0 28 rfl
theorem dX3_bestAsked_46 : decode cX3_bestAsked 46 = .ok (.if_icmp .gt 32, 3) := dAt (x := (46, .if_icmp .gt 32, 3)) DX3_bestAsked_0 29 rfl
theorem dX3_bestAsked_49 : decode cX3_bestAsked 49 = .ok (.iload 4, 2) := dAt (x := (49, .iload 4, 2)) DX3_bestAsked_0 30 rfl
theorem dX3_bestAsked_51 : decode cX3_bestAsked 51 = .ok (.iload 10, 2) := dAt (x := (51, .iload 10, 2)) DX3_bestAsked_0 31 rfl
theorem dX3_bestAsked_53 : decode cX3_bestAsked 53 = .ok (.ishr, 1) := dAt (x := (53, .ishr, 1)) DX3_bestAsked_0 32 rfl
theorem dX3_bestAsked_54 : decode cX3_bestAsked 54 = .ok (.iconst 1, 1) := dAt (x := (54, .iconst 1, 1)) DX3_bestAsked_0 33 rfl
theorem dX3_bestAsked_55 : decode cX3_bestAsked 55 = .ok (.iand, 1) := dAt (x := (55, .iand, 1)) DX3_bestAsked_0 34 rfl
theorem dX3_bestAsked_56 : decode cX3_bestAsked 56 = .ok (.ifCond .eq 16, 3) := dAt (x := (56, .ifCond .eq 16, 3)) DX3_bestAsked_0 35 rfl
theorem dX3_bestAsked_59 : decode cX3_bestAsked 59 = .ok (.iload 10, 2) := dAt (x := (59, .iload 10, 2)) DX3_bestAsked_0 36 rfl
theorem dX3_bestAsked_61 : decode cX3_bestAsked 61 = .ok (.iload 8, 2) := dAt (x := (61, .iload 8, 2)) DX3_bestAsked_0 37 rfl
theorem dX3_bestAsked_63 : decode cX3_bestAsked 63 = .ok (.invokestatic 50, 3) := dAt (x := (63, .invokestatic 50, 3)) DX3_bestAsked_0 38 rfl
theorem dX3_bestAsked_66 : decode cX3_bestAsked 66 = .ok (.ifCond .eq 6, 3) := dAt (x := (66, .ifCond .eq 6, 3)) DX3_bestAsked_0 39 rfl
theorem dX3_bestAsked_69 : decode cX3_bestAsked 69 = .ok (.iinc 9 1, 3) := dAt (x := (69, .iinc 9 1, 3)) DX3_bestAsked_0 40 rfl
theorem dX3_bestAsked_72 : decode cX3_bestAsked 72 = .ok (.iinc 10 1, 3) := dAt (x := (72, .iinc 10 1, 3)) DX3_bestAsked_0 41 rfl
theorem dX3_bestAsked_75 : decode cX3_bestAsked 75 = .ok (.goto (-34), 3) := dAt (x := (75, .goto (-34), 3)) DX3_bestAsked_0 42 rfl
theorem dX3_bestAsked_78 : decode cX3_bestAsked 78 = .ok (.iload 9, 2) := dAt (x := (78, .iload 9, 2)) DX3_bestAsked_0 43 rfl
theorem dX3_bestAsked_80 : decode cX3_bestAsked 80 = .ok (.iload 5, 2) := dAt (x := (80, .iload 5, 2)) DX3_bestAsked_0 44 rfl
theorem dX3_bestAsked_82 : decode cX3_bestAsked 82 = .ok (.iload 9, 2) := dAt (x := (82, .iload 9, 2)) DX3_bestAsked_0 45 rfl
theorem dX3_bestAsked_84 : decode cX3_bestAsked 84 = .ok (.isub, 1) := dAt (x := (84, .isub, 1)) DX3_bestAsked_0 46 rfl
theorem dX3_bestAsked_85 : decode cX3_bestAsked 85 = .ok (.invokestatic 63, 3) := dAt (x := (85, .invokestatic 63, 3)) DX3_bestAsked_0 47 rfl
theorem dX3_bestAsked_88 : decode cX3_bestAsked 88 = .ok (.istore 10, 2) := dAt (x := (88, .istore 10, 2)) DX3_bestAsked_0 48 rfl
theorem dX3_bestAsked_90 : decode cX3_bestAsked 90 = .ok (.iload 10, 2) := dAt (x := (90, .iload 10, 2)) DX3_bestAsked_0 49 rfl
theorem dX3_bestAsked_92 : decode cX3_bestAsked 92 = .ok (.iload 6, 2) := dAt (x := (92, .iload 6, 2)) DX3_bestAsked_0 50 rfl
theorem dX3_bestAsked_94 : decode cX3_bestAsked 94 = .ok (.if_icmp .ge 11, 3) := dAt (x := (94, .if_icmp .ge 11, 3)) DX3_bestAsked_0 51 rfl
theorem dX3_bestAsked_97 : decode cX3_bestAsked 97 = .ok (.iload 10, 2) := dAt (x := (97, .iload 10, 2)) DX3_bestAsked_0 52 rfl
theorem dX3_bestAsked_99 : decode cX3_bestAsked 99 = .ok (.istore 6, 2) := dAt (x := (99, .istore 6, 2)) DX3_bestAsked_0 53 rfl
theorem dX3_bestAsked_101 : decode cX3_bestAsked 101 = .ok (.iload 8, 2) := dAt (x := (101, .iload 8, 2)) DX3_bestAsked_0 54 rfl
theorem dX3_bestAsked_103 : decode cX3_bestAsked 103 = .ok (.istore 7, 2) := dAt (x := (103, .istore 7, 2)) DX3_bestAsked_0 55 rfl
theorem dX3_bestAsked_105 : decode cX3_bestAsked 105 = .ok (.iinc 8 1, 3) := dAt (x := (105, .iinc 8 1, 3)) DX3_bestAsked_0 56 rfl
theorem dX3_bestAsked_108 : decode cX3_bestAsked 108 = .ok (.goto (-81), 3) := dAt (x := (108, .goto (-81), 3)) DX3_bestAsked_0 57 rfl
theorem dX3_bestAsked_111 : decode cX3_bestAsked 111 = .ok (.iload_n 3, 1) := dAt (x := (111, .iload_n 3, 1)) DX3_bestAsked_0 58 rfl
theorem dX3_bestAsked_112 : decode cX3_bestAsked 112 = .ok (.ifCond .ne 8, 3) := dAt (x := (112, .ifCond .ne 8, 3)) DX3_bestAsked_0 59 rfl
def lDX3_bestAsked_1 : List (Nat × Instr × Nat) := [(115, .iload 7, 2), (117, .goto 5, 3), (120, .iload 6, 2), (122, .ireturn, 1)]
theorem DX3_bestAsked_1 : dAll cX3_bestAsked lDX3_bestAsked_1 = true := by decide +kernel
theorem dX3_bestAsked_115 : decode cX3_bestAsked 115 = .ok (.iload 7, 2) := dAt (x := (115, .iload 7, 2)) DX3_bestAsked_1 0 rfl
theorem dX3_bestAsked_117 : decode cX3_bestAsked 117 = .ok (.goto 5, 3) := dAt (x := (117, .goto 5, 3)) DX3_bestAsked_1 1 rfl
theorem dX3_bestAsked_120 : decode cX3_bestAsked 120 = .ok (.iload 6, 2) := dAt (x := (120, .iload 6, 2)) DX3_bestAsked_1 2 rfl
theorem dX3_bestAsked_122 : decode cX3_bestAsked 122 = .ok (.ireturn, 1) := dAt (x := (122, .ireturn, 1)) DX3_bestAsked_1 3 rfl
def lDX4_init_0 : List (Nat × Instr × Nat) := [(0, .aload_n 0, 1), (1, .invokespecial 3, 3), (4, .aload_n 0, 1), (5, .sipush 256, 3), (8, .newarray .int, 2), (10, .putfield 9, 3), (13, .aload_n 0, 1), (14, .sipush 256, 3), (17, .newarray .int, 2), (19, .putfield 15, 3), (22, .aload_n 0, 1), (23, .sipush 256, 3), (26, .newarray .int, 2), (28, .putfield 18, 3), (31, .aload_n 0, 1), (32, .sipush 256, 3), (35, .newarray .int, 2), (37, .putfield 21, 3), (40, .aload_n 0, 1), (41, .sipush 256, 3), (44, .newarray .long, 2), (46, .putfield 24, 3), (49, .aload_n 0, 1), (50, .sipush 256, 3), (53, .newarray .long, 2), (55, .putfield 28, 3), (58, .aload_n 0, 1), (59, .iconst (-1), 1), (60, .putfield 31, 3), (63, .return_, 1)]
theorem DX4_init_0 : dAll cX4_init lDX4_init_0 = true := by decide +kernel
theorem dX4_init_0 : decode cX4_init 0 = .ok (.aload_n 0, 1) := dAt (x := (0, .aload_n 0, 1)) DX4_init_0 0 rfl
theorem dX4_init_1 : decode cX4_init 1 = .ok (.invokespecial 3, 3) := dAt (x := (1, .invokespecial 3, 3)) DX4_init_0 1 rfl
theorem dX4_init_4 : decode cX4_init 4 = .ok (.aload_n 0, 1) := dAt (x := (4, .aload_n 0, 1)) DX4_init_0 2 rfl
theorem dX4_init_5 : decode cX4_init 5 = .ok (.sipush 256, 3) := dAt (x := (5, .sipush 256, 3)) DX4_init_0 3 rfl
theorem dX4_init_8 : decode cX4_init 8 = .ok (.newarray .int, 2) := dAt (x := (8, .newarray .int, 2)) DX4_init_0 4 rfl
theorem dX4_init_10 : decode cX4_init 10 = .ok (.putfield 9, 3) := dAt (x := (10, .putfield 9, 3)) DX4_init_0 5 rfl
theorem dX4_init_13 : decode cX4_init 13 = .ok (.aload_n 0, 1) := dAt (x := (13, .aload_n 0, 1)) DX4_init_0 6 rfl
theorem dX4_init_14 : decode cX4_init 14 = .ok (.sipush 256, 3) := dAt (x := (14, .sipush 256, 3)) DX4_init_0 7 rfl
theorem dX4_init_17 : decode cX4_init 17 = .ok (.newarray .int, 2) := dAt (x := (17, .newarray .int, 2)) DX4_init_0 8 rfl
theorem dX4_init_19 : decode cX4_init 19 = .ok (.putfield 15, 3) := dAt (x := (19, .putfield 15, 3)) DX4_init_0 9 rfl
theorem dX4_init_22 : decode cX4_init 22 = .ok (.aload_n 0, 1) := dAt (x := (22, .aload_n 0, 1)) DX4_init_0 10 rfl
theorem dX4_init_23 : decode cX4_init 23 = .ok (.sipush 256, 3) := dAt (x := (23, .sipush 256, 3)) DX4_init_0 11 rfl
theorem dX4_init_26 : decode cX4_init 26 = .ok (.newarray .int, 2) := dAt (x := (26, .newarray .int, 2)) DX4_init_0 12 rfl
theorem dX4_init_28 : decode cX4_init 28 = .ok (.putfield 18, 3) := dAt (x := (28, .putfield 18, 3)) DX4_init_0 13 rfl
theorem dX4_init_31 : decode cX4_init 31 = .ok (.aload_n 0, 1) := dAt (x := (31, .aload_n 0, 1)) DX4_init_0 14 rfl
theorem dX4_init_32 : decode cX4_init 32 = .ok (.sipush 256, 3) := dAt (x := (32, .sipush 256, 3)) DX4_init_0 15 rfl
theorem dX4_init_35 : decode cX4_init 35 = .ok (.newarray .int, 2) := dAt (x := (35, .newarray .int, 2)) DX4_init_0 16 rfl
theorem dX4_init_37 : decode cX4_init 37 = .ok (.putfield 21, 3) := dAt (x := (37, .putfield 21, 3)) DX4_init_0 17 rfl
theorem dX4_init_40 : decode cX4_init 40 = .ok (.aload_n 0, 1) := dAt (x := (40, .aload_n 0, 1)) DX4_init_0 18 rfl
theorem dX4_init_41 : decode cX4_init 41 = .ok (.sipush 256, 3) := dAt (x := (41, .sipush 256, 3)) DX4_init_0 19 rfl
theorem dX4_init_44 : decode cX4_init 44 = .ok (.newarray .long, 2) := dAt (x := (44, .newarray .long, 2)) DX4_init_0 20 rfl
theorem dX4_init_46 : decode cX4_init 46 = .ok (.putfield 24, 3) := dAt (x := (46, .putfield 24, 3)) DX4_init_0 21 rfl
theorem dX4_init_49 : decode cX4_init 49 = .ok (.aload_n 0, 1) := dAt (x := (49, .aload_n 0, 1)) DX4_init_0 22 rfl
theorem dX4_init_50 : decode cX4_init 50 = .ok (.sipush 256, 3) := dAt (x := (50, .sipush 256, 3)) DX4_init_0 23 rfl
theorem dX4_init_53 : decode cX4_init 53 = .ok (.newarray .long, 2) := dAt (x := (53, .newarray .long, 2)) DX4_init_0 24 rfl
theorem dX4_init_55 : decode cX4_init 55 = .ok (.putfield 28, 3) := dAt (x := (55, .putfield 28, 3)) DX4_init_0 25 rfl
theorem dX4_init_58 : decode cX4_init 58 = .ok (.aload_n 0, 1) := dAt (x := (58, .aload_n 0, 1)) DX4_init_0 26 rfl
theorem dX4_init_59 : decode cX4_init 59 = .ok (.iconst (-1), 1) := dAt (x := (59, .iconst (-1), 1)) DX4_init_0 27 rfl
theorem dX4_init_60 : decode cX4_init 60 = .ok (.putfield 31, 3) := dAt (x := (60, .putfield 31, 3)) DX4_init_0 28 rfl
theorem dX4_init_63 : decode cX4_init 63 = .ok (.return_, 1) := dAt (x := (63, .return_, 1)) DX4_init_0 29 rfl
def lDX4_lay_0 : List (Nat × Instr × Nat) := [(0, .aload_n 0, 1), (1, .aload_n 1, 1), (2, .getfield 35, 3), (5, .putfield 40, 3), (8, .aload_n 0, 1), (9, .sipush 256, 3), (12, .iconst 1, 1), (13, .aload_n 0, 1), (14, .getfield 40, 3), (17, .ishl, 1), (18, .invokestatic 41, 3), (21, .putfield 47, 3), (24, .iconst 0, 1), (25, .istore_n 3, 1), (26, .iload_n 3, 1), (27, .aload_n 0, 1), (28, .getfield 47, 3), (31, .if_icmp .ge 21, 3), (34, .aload_n 0, 1), (35, .getfield 9, 3), (38, .iload_n 3, 1), (39, .aload_n 1, 1), (40, .iload_n 3, 1), (41, .iload_n 2, 1), (42, .invokevirtual 50, 3), (45, .iastore, 1), (46, .iinc 3 1, 3), (49, .goto (-23), 3), (52, .aload_n 0, 1), (53, .iconst (-1), 1), (54, .iconst 0, 1), (55, .iconst 0, 1), (56, .invokevirtual 53, 3), (59, .return_, 1)]
theorem DX4_lay_0 : dAll cX4_lay lDX4_lay_0 = true := by decide +kernel
theorem dX4_lay_0 : decode cX4_lay 0 = .ok (.aload_n 0, 1) := dAt (x := (0, .aload_n 0, 1)) DX4_lay_0 0 rfl
theorem dX4_lay_1 : decode cX4_lay 1 = .ok (.aload_n 1, 1) := dAt (x := (1, .aload_n 1, 1)) DX4_lay_0 1 rfl
theorem dX4_lay_2 : decode cX4_lay 2 = .ok (.getfield 35, 3) := dAt (x := (2, .getfield 35, 3)) DX4_lay_0 2 rfl
theorem dX4_lay_5 : decode cX4_lay 5 = .ok (.putfield 40, 3) := dAt (x := (5, .putfield 40, 3)) DX4_lay_0 3 rfl
theorem dX4_lay_8 : decode cX4_lay 8 = .ok (.aload_n 0, 1) := dAt (x := (8, .aload_n 0, 1)) DX4_lay_0 4 rfl
theorem dX4_lay_9 : decode cX4_lay 9 = .ok (.sipush 256, 3) := dAt (x := (9, .sipush 256, 3)) DX4_lay_0 5 rfl
theorem dX4_lay_12 : decode cX4_lay 12 = .ok (.iconst 1, 1) := dAt (x := (12, .iconst 1, 1)) DX4_lay_0 6 rfl
theorem dX4_lay_13 : decode cX4_lay 13 = .ok (.aload_n 0, 1) := dAt (x := (13, .aload_n 0, 1)) DX4_lay_0 7 rfl
theorem dX4_lay_14 : decode cX4_lay 14 = .ok (.getfield 40, 3) := dAt (x := (14, .getfield 40, 3)) DX4_lay_0 8 rfl
theorem dX4_lay_17 : decode cX4_lay 17 = .ok (.ishl, 1) := dAt (x := (17, .ishl, 1)) DX4_lay_0 9 rfl
theorem dX4_lay_18 : decode cX4_lay 18 = .ok (.invokestatic 41, 3) := dAt (x := (18, .invokestatic 41, 3)) DX4_lay_0 10 rfl
theorem dX4_lay_21 : decode cX4_lay 21 = .ok (.putfield 47, 3) := dAt (x := (21, .putfield 47, 3)) DX4_lay_0 11 rfl
theorem dX4_lay_24 : decode cX4_lay 24 = .ok (.iconst 0, 1) := dAt (x := (24, .iconst 0, 1)) DX4_lay_0 12 rfl
theorem dX4_lay_25 : decode cX4_lay 25 = .ok (.istore_n 3, 1) := dAt (x := (25, .istore_n 3, 1)) DX4_lay_0 13 rfl
theorem dX4_lay_26 : decode cX4_lay 26 = .ok (.iload_n 3, 1) := dAt (x := (26, .iload_n 3, 1)) DX4_lay_0 14 rfl
theorem dX4_lay_27 : decode cX4_lay 27 = .ok (.aload_n 0, 1) := dAt (x := (27, .aload_n 0, 1)) DX4_lay_0 15 rfl
theorem dX4_lay_28 : decode cX4_lay 28 = .ok (.getfield 47, 3) := dAt (x := (28, .getfield 47, 3)) DX4_lay_0 16 rfl
theorem dX4_lay_31 : decode cX4_lay 31 = .ok (.if_icmp .ge 21, 3) := dAt (x := (31, .if_icmp .ge 21, 3)) DX4_lay_0 17 rfl
theorem dX4_lay_34 : decode cX4_lay 34 = .ok (.aload_n 0, 1) := dAt (x := (34, .aload_n 0, 1)) DX4_lay_0 18 rfl
theorem dX4_lay_35 : decode cX4_lay 35 = .ok (.getfield 9, 3) := dAt (x := (35, .getfield 9, 3)) DX4_lay_0 19 rfl
theorem dX4_lay_38 : decode cX4_lay 38 = .ok (.iload_n 3, 1) := dAt (x := (38, .iload_n 3, 1)) DX4_lay_0 20 rfl
theorem dX4_lay_39 : decode cX4_lay 39 = .ok (.aload_n 1, 1) := dAt (x := (39, .aload_n 1, 1)) DX4_lay_0 21 rfl
theorem dX4_lay_40 : decode cX4_lay 40 = .ok (.iload_n 3, 1) := dAt (x := (40, .iload_n 3, 1)) DX4_lay_0 22 rfl
theorem dX4_lay_41 : decode cX4_lay 41 = .ok (.iload_n 2, 1) := dAt (x := (41, .iload_n 2, 1)) DX4_lay_0 23 rfl
theorem dX4_lay_42 : decode cX4_lay 42 = .ok (.invokevirtual 50, 3) := dAt (x := (42, .invokevirtual 50, 3)) DX4_lay_0 24 rfl
theorem dX4_lay_45 : decode cX4_lay 45 = .ok (.iastore, 1) := dAt (x := (45, .iastore, 1)) DX4_lay_0 25 rfl
theorem dX4_lay_46 : decode cX4_lay 46 = .ok (.iinc 3 1, 3) := dAt (x := (46, .iinc 3 1, 3)) DX4_lay_0 26 rfl
theorem dX4_lay_49 : decode cX4_lay 49 = .ok (.goto (-23), 3) := dAt (x := (49, .goto (-23), 3)) DX4_lay_0 27 rfl
theorem dX4_lay_52 : decode cX4_lay 52 = .ok (.aload_n 0, 1) := dAt (x := (52, .aload_n 0, 1)) DX4_lay_0 28 rfl
theorem dX4_lay_53 : decode cX4_lay 53 = .ok (.iconst (-1), 1) := dAt (x := (53, .iconst (-1), 1)) DX4_lay_0 29 rfl
theorem dX4_lay_54 : decode cX4_lay 54 = .ok (.iconst 0, 1) := dAt (x := (54, .iconst 0, 1)) DX4_lay_0 30 rfl
theorem dX4_lay_55 : decode cX4_lay 55 = .ok (.iconst 0, 1) := dAt (x := (55, .iconst 0, 1)) DX4_lay_0 31 rfl
theorem dX4_lay_56 : decode cX4_lay 56 = .ok (.invokevirtual 53, 3) := dAt (x := (56, .invokevirtual 53, 3)) DX4_lay_0 32 rfl
theorem dX4_lay_59 : decode cX4_lay 59 = .ok (.return_, 1) := dAt (x := (59, .return_, 1)) DX4_lay_0 33 rfl
def lDX4_bar_0 : List (Nat × Instr × Nat) := [(0, .aload_n 0, 1), (1, .iload_n 1, 1), (2, .putfield 31, 3), (5, .aload_n 0, 1), (6, .iload_n 2, 1), (7, .putfield 57, 3), (10, .aload_n 0, 1), (11, .iload_n 3, 1), (12, .putfield 60, 3), (15, .return_, 1)]
theorem DX4_bar_0 : dAll cX4_bar lDX4_bar_0 = true := by decide +kernel
theorem dX4_bar_0 : decode cX4_bar 0 = .ok (.aload_n 0, 1) := dAt (x := (0, .aload_n 0, 1)) DX4_bar_0 0 rfl
theorem dX4_bar_1 : decode cX4_bar 1 = .ok (.iload_n 1, 1) := dAt (x := (1, .iload_n 1, 1)) DX4_bar_0 1 rfl
theorem dX4_bar_2 : decode cX4_bar 2 = .ok (.putfield 31, 3) := dAt (x := (2, .putfield 31, 3)) DX4_bar_0 2 rfl
theorem dX4_bar_5 : decode cX4_bar 5 = .ok (.aload_n 0, 1) := dAt (x := (5, .aload_n 0, 1)) DX4_bar_0 3 rfl
theorem dX4_bar_6 : decode cX4_bar 6 = .ok (.iload_n 2, 1) := dAt (x := (6, .iload_n 2, 1)) DX4_bar_0 4 rfl
theorem dX4_bar_7 : decode cX4_bar 7 = .ok (.putfield 57, 3) := dAt (x := (7, .putfield 57, 3)) DX4_bar_0 5 rfl
theorem dX4_bar_10 : decode cX4_bar 10 = .ok (.aload_n 0, 1) := dAt (x := (10, .aload_n 0, 1)) DX4_bar_0 6 rfl
theorem dX4_bar_11 : decode cX4_bar 11 = .ok (.iload_n 3, 1) := dAt (x := (11, .iload_n 3, 1)) DX4_bar_0 7 rfl
theorem dX4_bar_12 : decode cX4_bar 12 = .ok (.putfield 60, 3) := dAt (x := (12, .putfield 60, 3)) DX4_bar_0 8 rfl
theorem dX4_bar_15 : decode cX4_bar 15 = .ok (.return_, 1) := dAt (x := (15, .return_, 1)) DX4_bar_0 9 rfl
def lDX4_has_0 : List (Nat × Instr × Nat) := [(0, .iload_n 1, 1), (1, .ifCond .lt 22, 3), (4, .iload_n 1, 1), (5, .aload_n 0, 1), (6, .getfield 47, 3), (9, .if_icmp .ge 14, 3), (12, .iload_n 1, 1), (13, .sipush 256, 3), (16, .if_icmp .ge 7, 3), (19, .iconst 1, 1), (20, .goto 4, 3), (23, .iconst 0, 1), (24, .ireturn, 1)]
theorem DX4_has_0 : dAll cX4_has lDX4_has_0 = true := by decide +kernel
theorem dX4_has_0 : decode cX4_has 0 = .ok (.iload_n 1, 1) := dAt (x := (0, .iload_n 1, 1)) DX4_has_0 0 rfl
theorem dX4_has_1 : decode cX4_has 1 = .ok (.ifCond .lt 22, 3) := dAt (x := (1, .ifCond .lt 22, 3)) DX4_has_0 1 rfl
theorem dX4_has_4 : decode cX4_has 4 = .ok (.iload_n 1, 1) := dAt (x := (4, .iload_n 1, 1)) DX4_has_0 2 rfl
theorem dX4_has_5 : decode cX4_has 5 = .ok (.aload_n 0, 1) := dAt (x := (5, .aload_n 0, 1)) DX4_has_0 3 rfl
theorem dX4_has_6 : decode cX4_has 6 = .ok (.getfield 47, 3) := dAt (x := (6, .getfield 47, 3)) DX4_has_0 4 rfl
theorem dX4_has_9 : decode cX4_has 9 = .ok (.if_icmp .ge 14, 3) := dAt (x := (9, .if_icmp .ge 14, 3)) DX4_has_0 5 rfl
theorem dX4_has_12 : decode cX4_has 12 = .ok (.iload_n 1, 1) := dAt (x := (12, .iload_n 1, 1)) DX4_has_0 6 rfl
theorem dX4_has_13 : decode cX4_has 13 = .ok (.sipush 256, 3) := dAt (x := (13, .sipush 256, 3)) DX4_has_0 7 rfl
theorem dX4_has_16 : decode cX4_has 16 = .ok (.if_icmp .ge 7, 3) := dAt (x := (16, .if_icmp .ge 7, 3)) DX4_has_0 8 rfl
theorem dX4_has_19 : decode cX4_has 19 = .ok (.iconst 1, 1) := dAt (x := (19, .iconst 1, 1)) DX4_has_0 9 rfl
theorem dX4_has_20 : decode cX4_has 20 = .ok (.goto 4, 3) := dAt (x := (20, .goto 4, 3)) DX4_has_0 10 rfl
theorem dX4_has_23 : decode cX4_has 23 = .ok (.iconst 0, 1) := dAt (x := (23, .iconst 0, 1)) DX4_has_0 11 rfl
theorem dX4_has_24 : decode cX4_has 24 = .ok (.ireturn, 1) := dAt (x := (24, .ireturn, 1)) DX4_has_0 12 rfl
def lDX4_isMovable_0 : List (Nat × Instr × Nat) := [(0, .aload_n 0, 1), (1, .iload_n 1, 1), (2, .invokevirtual 63, 3), (5, .ifCond .eq 20, 3), (8, .aload_n 0, 1), (9, .getfield 9, 3), (12, .iload_n 1, 1), (13, .iaload, 1), (14, .iload_n 2, 1), (15, .ishr, 1), (16, .iconst 1, 1), (17, .iand, 1), (18, .ifCond .eq 7, 3), (21, .iconst 1, 1), (22, .goto 4, 3), (25, .iconst 0, 1), (26, .ireturn, 1)]
theorem DX4_isMovable_0 : dAll cX4_isMovable lDX4_isMovable_0 = true := by decide +kernel
theorem dX4_isMovable_0 : decode cX4_isMovable 0 = .ok (.aload_n 0, 1) := dAt (x := (0, .aload_n 0, 1)) DX4_isMovable_0 0 rfl
theorem dX4_isMovable_1 : decode cX4_isMovable 1 = .ok (.iload_n 1, 1) := dAt (x := (1, .iload_n 1, 1)) DX4_isMovable_0 1 rfl
theorem dX4_isMovable_2 : decode cX4_isMovable 2 = .ok (.invokevirtual 63, 3) := dAt (x := (2, .invokevirtual 63, 3)) DX4_isMovable_0 2 rfl
theorem dX4_isMovable_5 : decode cX4_isMovable 5 = .ok (.ifCond .eq 20, 3) := dAt (x := (5, .ifCond .eq 20, 3)) DX4_isMovable_0 3 rfl
theorem dX4_isMovable_8 : decode cX4_isMovable 8 = .ok (.aload_n 0, 1) := dAt (x := (8, .aload_n 0, 1)) DX4_isMovable_0 4 rfl
theorem dX4_isMovable_9 : decode cX4_isMovable 9 = .ok (.getfield 9, 3) := dAt (x := (9, .getfield 9, 3)) DX4_isMovable_0 5 rfl
theorem dX4_isMovable_12 : decode cX4_isMovable 12 = .ok (.iload_n 1, 1) := dAt (x := (12, .iload_n 1, 1)) DX4_isMovable_0 6 rfl
theorem dX4_isMovable_13 : decode cX4_isMovable 13 = .ok (.iaload, 1) := dAt (x := (13, .iaload, 1)) DX4_isMovable_0 7 rfl
theorem dX4_isMovable_14 : decode cX4_isMovable 14 = .ok (.iload_n 2, 1) := dAt (x := (14, .iload_n 2, 1)) DX4_isMovable_0 8 rfl
theorem dX4_isMovable_15 : decode cX4_isMovable 15 = .ok (.ishr, 1) := dAt (x := (15, .ishr, 1)) DX4_isMovable_0 9 rfl
theorem dX4_isMovable_16 : decode cX4_isMovable 16 = .ok (.iconst 1, 1) := dAt (x := (16, .iconst 1, 1)) DX4_isMovable_0 10 rfl
theorem dX4_isMovable_17 : decode cX4_isMovable 17 = .ok (.iand, 1) := dAt (x := (17, .iand, 1)) DX4_isMovable_0 11 rfl
theorem dX4_isMovable_18 : decode cX4_isMovable 18 = .ok (.ifCond .eq 7, 3) := dAt (x := (18, .ifCond .eq 7, 3)) DX4_isMovable_0 12 rfl
theorem dX4_isMovable_21 : decode cX4_isMovable 21 = .ok (.iconst 1, 1) := dAt (x := (21, .iconst 1, 1)) DX4_isMovable_0 13 rfl
theorem dX4_isMovable_22 : decode cX4_isMovable 22 = .ok (.goto 4, 3) := dAt (x := (22, .goto 4, 3)) DX4_isMovable_0 14 rfl
theorem dX4_isMovable_25 : decode cX4_isMovable 25 = .ok (.iconst 0, 1) := dAt (x := (25, .iconst 0, 1)) DX4_isMovable_0 15 rfl
theorem dX4_isMovable_26 : decode cX4_isMovable 26 = .ok (.ireturn, 1) := dAt (x := (26, .ireturn, 1)) DX4_isMovable_0 16 rfl
def lDX4_stepsTo_0 : List (Nat × Instr × Nat) := [(0, .aload_n 0, 1), (1, .iload_n 1, 1), (2, .invokevirtual 63, 3), (5, .ifCond .eq 12, 3), (8, .aload_n 0, 1), (9, .getfield 15, 3), (12, .iload_n 1, 1), (13, .iaload, 1), (14, .goto 4, 3), (17, .iconst (-1), 1), (18, .ireturn, 1)]
theorem DX4_stepsTo_0 : dAll cX4_stepsTo lDX4_stepsTo_0 = true := by decide +kernel
theorem dX4_stepsTo_0 : decode cX4_stepsTo 0 = .ok (.aload_n 0, 1) := dAt (x := (0, .aload_n 0, 1)) DX4_stepsTo_0 0 rfl
theorem dX4_stepsTo_1 : decode cX4_stepsTo 1 = .ok (.iload_n 1, 1) := dAt (x := (1, .iload_n 1, 1)) DX4_stepsTo_0 1 rfl
theorem dX4_stepsTo_2 : decode cX4_stepsTo 2 = .ok (.invokevirtual 63, 3) := dAt (x := (2, .invokevirtual 63, 3)) DX4_stepsTo_0 2 rfl
theorem dX4_stepsTo_5 : decode cX4_stepsTo 5 = .ok (.ifCond .eq 12, 3) := dAt (x := (5, .ifCond .eq 12, 3)) DX4_stepsTo_0 3 rfl
theorem dX4_stepsTo_8 : decode cX4_stepsTo 8 = .ok (.aload_n 0, 1) := dAt (x := (8, .aload_n 0, 1)) DX4_stepsTo_0 4 rfl
theorem dX4_stepsTo_9 : decode cX4_stepsTo 9 = .ok (.getfield 15, 3) := dAt (x := (9, .getfield 15, 3)) DX4_stepsTo_0 5 rfl
theorem dX4_stepsTo_12 : decode cX4_stepsTo 12 = .ok (.iload_n 1, 1) := dAt (x := (12, .iload_n 1, 1)) DX4_stepsTo_0 6 rfl
theorem dX4_stepsTo_13 : decode cX4_stepsTo 13 = .ok (.iaload, 1) := dAt (x := (13, .iaload, 1)) DX4_stepsTo_0 7 rfl
theorem dX4_stepsTo_14 : decode cX4_stepsTo 14 = .ok (.goto 4, 3) := dAt (x := (14, .goto 4, 3)) DX4_stepsTo_0 8 rfl
theorem dX4_stepsTo_17 : decode cX4_stepsTo 17 = .ok (.iconst (-1), 1) := dAt (x := (17, .iconst (-1), 1)) DX4_stepsTo_0 9 rfl
theorem dX4_stepsTo_18 : decode cX4_stepsTo 18 = .ok (.ireturn, 1) := dAt (x := (18, .ireturn, 1)) DX4_stepsTo_0 10 rfl
def lDX4_isHad_0 : List (Nat × Instr × Nat) := [(0, .aload_n 0, 1), (1, .iload_n 1, 1), (2, .invokevirtual 67, 3), (5, .iconst (-1), 1), (6, .if_icmp .eq 7, 3), (9, .iconst 1, 1), (10, .goto 4, 3), (13, .iconst 0, 1), (14, .ireturn, 1)]
theorem DX4_isHad_0 : dAll cX4_isHad lDX4_isHad_0 = true := by decide +kernel
theorem dX4_isHad_0 : decode cX4_isHad 0 = .ok (.aload_n 0, 1) := dAt (x := (0, .aload_n 0, 1)) DX4_isHad_0 0 rfl
theorem dX4_isHad_1 : decode cX4_isHad 1 = .ok (.iload_n 1, 1) := dAt (x := (1, .iload_n 1, 1)) DX4_isHad_0 1 rfl
theorem dX4_isHad_2 : decode cX4_isHad 2 = .ok (.invokevirtual 67, 3) := dAt (x := (2, .invokevirtual 67, 3)) DX4_isHad_0 2 rfl
theorem dX4_isHad_5 : decode cX4_isHad 5 = .ok (.iconst (-1), 1) := dAt (x := (5, .iconst (-1), 1)) DX4_isHad_0 3 rfl
theorem dX4_isHad_6 : decode cX4_isHad 6 = .ok (.if_icmp .eq 7, 3) := dAt (x := (6, .if_icmp .eq 7, 3)) DX4_isHad_0 4 rfl
theorem dX4_isHad_9 : decode cX4_isHad 9 = .ok (.iconst 1, 1) := dAt (x := (9, .iconst 1, 1)) DX4_isHad_0 5 rfl
theorem dX4_isHad_10 : decode cX4_isHad 10 = .ok (.goto 4, 3) := dAt (x := (10, .goto 4, 3)) DX4_isHad_0 6 rfl
theorem dX4_isHad_13 : decode cX4_isHad 13 = .ok (.iconst 0, 1) := dAt (x := (13, .iconst 0, 1)) DX4_isHad_0 7 rfl
theorem dX4_isHad_14 : decode cX4_isHad 14 = .ok (.ireturn, 1) := dAt (x := (14, .ireturn, 1)) DX4_isHad_0 8 rfl
def lDX4_spread_0 : List (Nat × Instr × Nat) := [(0, .aload_n 0, 1), (1, .getfield 15, 3), (4, .iconst (-1), 1), (5, .invokestatic 71, 3), (8, .aload_n 0, 1), (9, .iconst 0, 1), (10, .putfield 77, 3), (13, .aload_n 0, 1), (14, .iload_n 1, 1), (15, .invokevirtual 63, 3), (18, .ifCond .ne 4, 3), (21, .return_, 1), (22, .aload_n 0, 1), (23, .iload_n 1, 1), (24, .putfield 80, 3), (27, .aload_n 0, 1), (28, .getfield 15, 3), (31, .iload_n 1, 1), (32, .iconst 0, 1), (33, .iastore, 1), (34, .aload_n 0, 1), (35, .getfield 18, 3), (38, .iconst 0, 1), (39, .iload_n 1, 1), (40, .iastore, 1), (41, .aload_n 0, 1), (42, .iconst 1, 1), (43, .putfield 77, 3), (46, .iconst 0, 1), (47, .istore_n 2, 1), (48, .iload_n 2, 1), (49, .aload_n 0, 1), (50, .getfield 77, 3), (53, .if_icmp .ge 89, 3), (56, .iload_n 2, 1), (57, .sipush 256, 3), (60, .if_icmp .ge 82, 3), (63, .aload_n 0, 1), (64, .getfield 18, 3), (67, .iload_n 2, 1), (68, .iaload, 1), (69, .istore_n 3, 1), (70, .aload_n 0, 1), (71, .getfield 9, 3), (74, .iload_n 3, 1), (75, .iaload, 1), (76, .aload_n 0, 1), (77, .getfield 60, 3), (80, .ior, 1), (81, .aload_n 0, 1), (82, .getfield 57, 3), (85, .iconst (-1), 1), (86, .ixor, 1), (87, .iand, 1), (88, .istore 4, 2), (90, .iconst 0, 1), (91, .istore 5, 2), (93, .iload 5, 2), (95, .aload_n 0, 1), (96, .getfield 40, 3)]
theorem DX4_spread_0 : dAll cX4_spread lDX4_spread_0 = true := by decide +kernel
theorem dX4_spread_0 : decode cX4_spread 0 = .ok (.aload_n 0, 1) := dAt (x := (0, .aload_n 0, 1)) DX4_spread_0 0 rfl
theorem dX4_spread_1 : decode cX4_spread 1 = .ok (.getfield 15, 3) := dAt (x := (1, .getfield 15, 3)) DX4_spread_0 1 rfl
theorem dX4_spread_4 : decode cX4_spread 4 = .ok (.iconst (-1), 1) := dAt (x := (4, .iconst (-1), 1)) DX4_spread_0 2 rfl
theorem dX4_spread_5 : decode cX4_spread 5 = .ok (.invokestatic 71, 3) := dAt (x := (5, .invokestatic 71, 3)) DX4_spread_0 3 rfl
theorem dX4_spread_8 : decode cX4_spread 8 = .ok (.aload_n 0, 1) := dAt (x := (8, .aload_n 0, 1)) DX4_spread_0 4 rfl
theorem dX4_spread_9 : decode cX4_spread 9 = .ok (.iconst 0, 1) := dAt (x := (9, .iconst 0, 1)) DX4_spread_0 5 rfl
theorem dX4_spread_10 : decode cX4_spread 10 = .ok (.putfield 77, 3) := dAt (x := (10, .putfield 77, 3)) DX4_spread_0 6 rfl
theorem dX4_spread_13 : decode cX4_spread 13 = .ok (.aload_n 0, 1) := dAt (x := (13, .aload_n 0, 1)) DX4_spread_0 7 rfl
theorem dX4_spread_14 : decode cX4_spread 14 = .ok (.iload_n 1, 1) := dAt (x := (14, .iload_n 1, 1)) DX4_spread_0 8 rfl
theorem dX4_spread_15 : decode cX4_spread 15 = .ok (.invokevirtual 63, 3) := dAt (x := (15, .invokevirtual 63, 3)) DX4_spread_0 9 rfl
theorem dX4_spread_18 : decode cX4_spread 18 = .ok (.ifCond .ne 4, 3) := dAt (x := (18, .ifCond .ne 4, 3)) DX4_spread_0 10 rfl
theorem dX4_spread_21 : decode cX4_spread 21 = .ok (.return_, 1) := dAt (x := (21, .return_, 1)) DX4_spread_0 11 rfl
theorem dX4_spread_22 : decode cX4_spread 22 = .ok (.aload_n 0, 1) := dAt (x := (22, .aload_n 0, 1)) DX4_spread_0 12 rfl
theorem dX4_spread_23 : decode cX4_spread 23 = .ok (.iload_n 1, 1) := dAt (x := (23, .iload_n 1, 1)) DX4_spread_0 13 rfl
theorem dX4_spread_24 : decode cX4_spread 24 = .ok (.putfield 80, 3) := dAt (x := (24, .putfield 80, 3)) DX4_spread_0 14 rfl
theorem dX4_spread_27 : decode cX4_spread 27 = .ok (.aload_n 0, 1) := dAt (x := (27, .aload_n 0, 1)) DX4_spread_0 15 rfl
theorem dX4_spread_28 : decode cX4_spread 28 = .ok (.getfield 15, 3) := dAt (x := (28, .getfield 15, 3)) DX4_spread_0 16 rfl
theorem dX4_spread_31 : decode cX4_spread 31 = .ok (.iload_n 1, 1) := dAt (x := (31, .iload_n 1, 1)) DX4_spread_0 17 rfl
theorem dX4_spread_32 : decode cX4_spread 32 = .ok (.iconst 0, 1) := dAt (x := (32, .iconst 0, 1)) DX4_spread_0 18 rfl
theorem dX4_spread_33 : decode cX4_spread 33 = .ok (.iastore, 1) := dAt (x := (33, .iastore, 1)) DX4_spread_0 19 rfl
theorem dX4_spread_34 : decode cX4_spread 34 = .ok (.aload_n 0, 1) := dAt (x := (34, .aload_n 0, 1)) DX4_spread_0 20 rfl
theorem dX4_spread_35 : decode cX4_spread 35 = .ok (.getfield 18, 3) := dAt (x := (35, .getfield 18, 3)) DX4_spread_0 21 rfl
theorem dX4_spread_38 : decode cX4_spread 38 = .ok (.iconst 0, 1) := dAt (x := (38, .iconst 0, 1)) DX4_spread_0 22 rfl
theorem dX4_spread_39 : decode cX4_spread 39 = .ok (.iload_n 1, 1) := dAt (x := (39, .iload_n 1, 1)) DX4_spread_0 23 rfl
theorem dX4_spread_40 : decode cX4_spread 40 = .ok (.iastore, 1) := dAt (x := (40, .iastore, 1)) DX4_spread_0 24 rfl
theorem dX4_spread_41 : decode cX4_spread 41 = .ok (.aload_n 0, 1) := dAt (x := (41, .aload_n 0, 1)) DX4_spread_0 25 rfl
theorem dX4_spread_42 : decode cX4_spread 42 = .ok (.iconst 1, 1) := dAt (x := (42, .iconst 1, 1)) DX4_spread_0 26 rfl
theorem dX4_spread_43 : decode cX4_spread 43 = .ok (.putfield 77, 3) := dAt (x := (43, .putfield 77, 3)) DX4_spread_0 27 rfl
theorem dX4_spread_46 : decode cX4_spread 46 = .ok (.iconst 0, 1) := dAt (x := (46, .iconst 0, 1)) DX4_spread_0 28 rfl
theorem dX4_spread_47 : decode cX4_spread 47 = .ok (.istore_n 2, 1) := dAt (x := (47, .istore_n 2, 1)) DX4_spread_0 29 rfl
theorem dX4_spread_48 : decode cX4_spread 48 = .ok (.iload_n 2, 1) := dAt (x := (48, .iload_n 2, 1)) DX4_spread_0 30 rfl
theorem dX4_spread_49 : decode cX4_spread 49 = .ok (.aload_n 0, 1) := dAt (x := (49, .aload_n 0, 1)) DX4_spread_0 31 rfl
theorem dX4_spread_50 : decode cX4_spread 50 = .ok (.getfield 77, 3) := dAt (x := (50, .getfield 77, 3)) DX4_spread_0 32 rfl
theorem dX4_spread_53 : decode cX4_spread 53 = .ok (.if_icmp .ge 89, 3) := dAt (x := (53, .if_icmp .ge 89, 3)) DX4_spread_0 33 rfl
theorem dX4_spread_56 : decode cX4_spread 56 = .ok (.iload_n 2, 1) := dAt (x := (56, .iload_n 2, 1)) DX4_spread_0 34 rfl
theorem dX4_spread_57 : decode cX4_spread 57 = .ok (.sipush 256, 3) := dAt (x := (57, .sipush 256, 3)) DX4_spread_0 35 rfl
theorem dX4_spread_60 : decode cX4_spread 60 = .ok (.if_icmp .ge 82, 3) := dAt (x := (60, .if_icmp .ge 82, 3)) DX4_spread_0 36 rfl
theorem dX4_spread_63 : decode cX4_spread 63 = .ok (.aload_n 0, 1) := dAt (x := (63, .aload_n 0, 1)) DX4_spread_0 37 rfl
theorem dX4_spread_64 : decode cX4_spread 64 = .ok (.getfield 18, 3) := dAt (x := (64, .getfield 18, 3)) DX4_spread_0 38 rfl
theorem dX4_spread_67 : decode cX4_spread 67 = .ok (.iload_n 2, 1) := dAt (x := (67, .iload_n 2, 1)) DX4_spread_0 39 rfl
theorem dX4_spread_68 : decode cX4_spread 68 = .ok (.iaload, 1) := dAt (x := (68, .iaload, 1)) DX4_spread_0 40 rfl
theorem dX4_spread_69 : decode cX4_spread 69 = .ok (.istore_n 3, 1) := dAt (x := (69, .istore_n 3, 1)) DX4_spread_0 41 rfl
theorem dX4_spread_70 : decode cX4_spread 70 = .ok (.aload_n 0, 1) := dAt (x := (70, .aload_n 0, 1)) DX4_spread_0 42 rfl
theorem dX4_spread_71 : decode cX4_spread 71 = .ok (.getfield 9, 3) := dAt (x := (71, .getfield 9, 3)) DX4_spread_0 43 rfl
theorem dX4_spread_74 : decode cX4_spread 74 = .ok (.iload_n 3, 1) := dAt (x := (74, .iload_n 3, 1)) DX4_spread_0 44 rfl
theorem dX4_spread_75 : decode cX4_spread 75 = .ok (.iaload, 1) := dAt (x := (75, .iaload, 1)) DX4_spread_0 45 rfl
theorem dX4_spread_76 : decode cX4_spread 76 = .ok (.aload_n 0, 1) := dAt (x := (76, .aload_n 0, 1)) DX4_spread_0 46 rfl
theorem dX4_spread_77 : decode cX4_spread 77 = .ok (.getfield 60, 3) := dAt (x := (77, .getfield 60, 3)) DX4_spread_0 47 rfl
theorem dX4_spread_80 : decode cX4_spread 80 = .ok (.ior, 1) := dAt (x := (80, .ior, 1)) DX4_spread_0 48 rfl
theorem dX4_spread_81 : decode cX4_spread 81 = .ok (.aload_n 0, 1) := dAt (x := (81, .aload_n 0, 1)) DX4_spread_0 49 rfl
theorem dX4_spread_82 : decode cX4_spread 82 = .ok (.getfield 57, 3) := dAt (x := (82, .getfield 57, 3)) DX4_spread_0 50 rfl
theorem dX4_spread_85 : decode cX4_spread 85 = .ok (.iconst (-1), 1) := dAt (x := (85, .iconst (-1), 1)) DX4_spread_0 51 rfl
theorem dX4_spread_86 : decode cX4_spread 86 = .ok (.ixor, 1) := dAt (x := (86, .ixor, 1)) DX4_spread_0 52 rfl
theorem dX4_spread_87 : decode cX4_spread 87 = .ok (.iand, 1) := dAt (x := (87, .iand, 1)) DX4_spread_0 53 rfl
theorem dX4_spread_88 : decode cX4_spread 88 = .ok (.istore 4, 2) := dAt (x := (88, .istore 4, 2)) DX4_spread_0 54 rfl
theorem dX4_spread_90 : decode cX4_spread 90 = .ok (.iconst 0, 1) := dAt (x := (90, .iconst 0, 1)) DX4_spread_0 55 rfl
theorem dX4_spread_91 : decode cX4_spread 91 = .ok (.istore 5, 2) := dAt (x := (91, .istore 5, 2)) DX4_spread_0 56 rfl
theorem dX4_spread_93 : decode cX4_spread 93 = .ok (.iload 5, 2) := dAt (x := (93, .iload 5, 2)) DX4_spread_0 57 rfl
theorem dX4_spread_95 : decode cX4_spread 95 = .ok (.aload_n 0, 1) := dAt (x := (95, .aload_n 0, 1)) DX4_spread_0 58 rfl
theorem dX4_spread_96 : decode cX4_spread 96 = .ok (.getfield 40, 3) := dAt (x := (96, .getfield 40, 3)) DX4_spread_0 59 rfl
def lDX4_spread_1 : List (Nat × Instr × Nat) := [(99, .if_icmp .ge 37, 3), (102, .iload 4, 2), (104, .iload 5, 2), (106, .ishr, 1), (107, .iconst 1, 1), (108, .iand, 1), (109, .ifCond .eq 21, 3), (112, .aload_n 0, 1), (113, .iload_n 3, 1), (114, .iconst 1, 1), (115, .iload 5, 2), (117, .ishl, 1), (118, .ixor, 1), (119, .aload_n 0, 1), (120, .getfield 15, 3), (123, .iload_n 3, 1), (124, .iaload, 1), (125, .iconst 1, 1), (126, .iadd, 1), (127, .invokevirtual 83, 3), (130, .iinc 5 1, 3), (133, .goto (-40), 3), (136, .iinc 2 1, 3), (139, .goto (-91), 3), (142, .return_, 1)]
theorem DX4_spread_1 : dAll cX4_spread lDX4_spread_1 = true := by decide +kernel
theorem dX4_spread_99 : decode cX4_spread 99 = .ok (.if_icmp .ge 37, 3) := dAt (x := (99, .if_icmp .ge 37, 3)) DX4_spread_1 0 rfl
theorem dX4_spread_102 : decode cX4_spread 102 = .ok (.iload 4, 2) := dAt (x := (102, .iload 4, 2)) DX4_spread_1 1 rfl
theorem dX4_spread_104 : decode cX4_spread 104 = .ok (.iload 5, 2) := dAt (x := (104, .iload 5, 2)) DX4_spread_1 2 rfl
theorem dX4_spread_106 : decode cX4_spread 106 = .ok (.ishr, 1) := dAt (x := (106, .ishr, 1)) DX4_spread_1 3 rfl
theorem dX4_spread_107 : decode cX4_spread 107 = .ok (.iconst 1, 1) := dAt (x := (107, .iconst 1, 1)) DX4_spread_1 4 rfl
theorem dX4_spread_108 : decode cX4_spread 108 = .ok (.iand, 1) := dAt (x := (108, .iand, 1)) DX4_spread_1 5 rfl
theorem dX4_spread_109 : decode cX4_spread 109 = .ok (.ifCond .eq 21, 3) := dAt (x := (109, .ifCond .eq 21, 3)) DX4_spread_1 6 rfl
theorem dX4_spread_112 : decode cX4_spread 112 = .ok (.aload_n 0, 1) := dAt (x := (112, .aload_n 0, 1)) DX4_spread_1 7 rfl
theorem dX4_spread_113 : decode cX4_spread 113 = .ok (.iload_n 3, 1) := dAt (x := (113, .iload_n 3, 1)) DX4_spread_1 8 rfl
theorem dX4_spread_114 : decode cX4_spread 114 = .ok (.iconst 1, 1) := dAt (x := (114, .iconst 1, 1)) DX4_spread_1 9 rfl
theorem dX4_spread_115 : decode cX4_spread 115 = .ok (.iload 5, 2) := dAt (x := (115, .iload 5, 2)) DX4_spread_1 10 rfl
theorem dX4_spread_117 : decode cX4_spread 117 = .ok (.ishl, 1) := dAt (x := (117, .ishl, 1)) DX4_spread_1 11 rfl
theorem dX4_spread_118 : decode cX4_spread 118 = .ok (.ixor, 1) := dAt (x := (118, .ixor, 1)) DX4_spread_1 12 rfl
theorem dX4_spread_119 : decode cX4_spread 119 = .ok (.aload_n 0, 1) := dAt (x := (119, .aload_n 0, 1)) DX4_spread_1 13 rfl
theorem dX4_spread_120 : decode cX4_spread 120 = .ok (.getfield 15, 3) := dAt (x := (120, .getfield 15, 3)) DX4_spread_1 14 rfl
theorem dX4_spread_123 : decode cX4_spread 123 = .ok (.iload_n 3, 1) := dAt (x := (123, .iload_n 3, 1)) DX4_spread_1 15 rfl
theorem dX4_spread_124 : decode cX4_spread 124 = .ok (.iaload, 1) := dAt (x := (124, .iaload, 1)) DX4_spread_1 16 rfl
theorem dX4_spread_125 : decode cX4_spread 125 = .ok (.iconst 1, 1) := dAt (x := (125, .iconst 1, 1)) DX4_spread_1 17 rfl
theorem dX4_spread_126 : decode cX4_spread 126 = .ok (.iadd, 1) := dAt (x := (126, .iadd, 1)) DX4_spread_1 18 rfl
theorem dX4_spread_127 : decode cX4_spread 127 = .ok (.invokevirtual 83, 3) := dAt (x := (127, .invokevirtual 83, 3)) DX4_spread_1 19 rfl
theorem dX4_spread_130 : decode cX4_spread 130 = .ok (.iinc 5 1, 3) := dAt (x := (130, .iinc 5 1, 3)) DX4_spread_1 20 rfl
theorem dX4_spread_133 : decode cX4_spread 133 = .ok (.goto (-40), 3) := dAt (x := (133, .goto (-40), 3)) DX4_spread_1 21 rfl
theorem dX4_spread_136 : decode cX4_spread 136 = .ok (.iinc 2 1, 3) := dAt (x := (136, .iinc 2 1, 3)) DX4_spread_1 22 rfl
theorem dX4_spread_139 : decode cX4_spread 139 = .ok (.goto (-91), 3) := dAt (x := (139, .goto (-91), 3)) DX4_spread_1 23 rfl
theorem dX4_spread_142 : decode cX4_spread 142 = .ok (.return_, 1) := dAt (x := (142, .return_, 1)) DX4_spread_1 24 rfl
def lDX4_finds_0 : List (Nat × Instr × Nat) := [(0, .iload_n 1, 1), (1, .aload_n 0, 1), (2, .getfield 31, 3), (5, .if_icmp .eq 58, 3), (8, .aload_n 0, 1), (9, .iload_n 1, 1), (10, .invokevirtual 63, 3), (13, .ifCond .eq 50, 3), (16, .aload_n 0, 1), (17, .getfield 15, 3), (20, .iload_n 1, 1), (21, .iaload, 1), (22, .iconst (-1), 1), (23, .if_icmp .ne 40, 3), (26, .aload_n 0, 1), (27, .getfield 77, 3), (30, .sipush 256, 3), (33, .if_icmp .ge 30, 3), (36, .aload_n 0, 1), (37, .getfield 15, 3), (40, .iload_n 1, 1), (41, .iload_n 2, 1), (42, .iastore, 1), (43, .aload_n 0, 1), (44, .getfield 18, 3), (47, .aload_n 0, 1), (48, .getfield 77, 3), (51, .iload_n 1, 1), (52, .iastore, 1), (53, .aload_n 0, 1), (54, .dup, 1), (55, .getfield 77, 3), (58, .iconst 1, 1), (59, .iadd, 1), (60, .putfield 77, 3), (63, .return_, 1)]
theorem DX4_finds_0 : dAll cX4_finds lDX4_finds_0 = true := by decide +kernel
theorem dX4_finds_0 : decode cX4_finds 0 = .ok (.iload_n 1, 1) := dAt (x := (0, .iload_n 1, 1)) DX4_finds_0 0 rfl
theorem dX4_finds_1 : decode cX4_finds 1 = .ok (.aload_n 0, 1) := dAt (x := (1, .aload_n 0, 1)) DX4_finds_0 1 rfl
theorem dX4_finds_2 : decode cX4_finds 2 = .ok (.getfield 31, 3) := dAt (x := (2, .getfield 31, 3)) DX4_finds_0 2 rfl
theorem dX4_finds_5 : decode cX4_finds 5 = .ok (.if_icmp .eq 58, 3) := dAt (x := (5, .if_icmp .eq 58, 3)) DX4_finds_0 3 rfl
theorem dX4_finds_8 : decode cX4_finds 8 = .ok (.aload_n 0, 1) := dAt (x := (8, .aload_n 0, 1)) DX4_finds_0 4 rfl
theorem dX4_finds_9 : decode cX4_finds 9 = .ok (.iload_n 1, 1) := dAt (x := (9, .iload_n 1, 1)) DX4_finds_0 5 rfl
theorem dX4_finds_10 : decode cX4_finds 10 = .ok (.invokevirtual 63, 3) := dAt (x := (10, .invokevirtual 63, 3)) DX4_finds_0 6 rfl
theorem dX4_finds_13 : decode cX4_finds 13 = .ok (.ifCond .eq 50, 3) := dAt (x := (13, .ifCond .eq 50, 3)) DX4_finds_0 7 rfl
theorem dX4_finds_16 : decode cX4_finds 16 = .ok (.aload_n 0, 1) := dAt (x := (16, .aload_n 0, 1)) DX4_finds_0 8 rfl
theorem dX4_finds_17 : decode cX4_finds 17 = .ok (.getfield 15, 3) := dAt (x := (17, .getfield 15, 3)) DX4_finds_0 9 rfl
theorem dX4_finds_20 : decode cX4_finds 20 = .ok (.iload_n 1, 1) := dAt (x := (20, .iload_n 1, 1)) DX4_finds_0 10 rfl
theorem dX4_finds_21 : decode cX4_finds 21 = .ok (.iaload, 1) := dAt (x := (21, .iaload, 1)) DX4_finds_0 11 rfl
theorem dX4_finds_22 : decode cX4_finds 22 = .ok (.iconst (-1), 1) := dAt (x := (22, .iconst (-1), 1)) DX4_finds_0 12 rfl
theorem dX4_finds_23 : decode cX4_finds 23 = .ok (.if_icmp .ne 40, 3) := dAt (x := (23, .if_icmp .ne 40, 3)) DX4_finds_0 13 rfl
theorem dX4_finds_26 : decode cX4_finds 26 = .ok (.aload_n 0, 1) := dAt (x := (26, .aload_n 0, 1)) DX4_finds_0 14 rfl
theorem dX4_finds_27 : decode cX4_finds 27 = .ok (.getfield 77, 3) := dAt (x := (27, .getfield 77, 3)) DX4_finds_0 15 rfl
theorem dX4_finds_30 : decode cX4_finds 30 = .ok (.sipush 256, 3) := dAt (x := (30, .sipush 256, 3)) DX4_finds_0 16 rfl
theorem dX4_finds_33 : decode cX4_finds 33 = .ok (.if_icmp .ge 30, 3) := dAt (x := (33, .if_icmp .ge 30, 3)) DX4_finds_0 17 rfl
theorem dX4_finds_36 : decode cX4_finds 36 = .ok (.aload_n 0, 1) := dAt (x := (36, .aload_n 0, 1)) DX4_finds_0 18 rfl
theorem dX4_finds_37 : decode cX4_finds 37 = .ok (.getfield 15, 3) := dAt (x := (37, .getfield 15, 3)) DX4_finds_0 19 rfl
theorem dX4_finds_40 : decode cX4_finds 40 = .ok (.iload_n 1, 1) := dAt (x := (40, .iload_n 1, 1)) DX4_finds_0 20 rfl
theorem dX4_finds_41 : decode cX4_finds 41 = .ok (.iload_n 2, 1) := dAt (x := (41, .iload_n 2, 1)) DX4_finds_0 21 rfl
theorem dX4_finds_42 : decode cX4_finds 42 = .ok (.iastore, 1) := dAt (x := (42, .iastore, 1)) DX4_finds_0 22 rfl
theorem dX4_finds_43 : decode cX4_finds 43 = .ok (.aload_n 0, 1) := dAt (x := (43, .aload_n 0, 1)) DX4_finds_0 23 rfl
theorem dX4_finds_44 : decode cX4_finds 44 = .ok (.getfield 18, 3) := dAt (x := (44, .getfield 18, 3)) DX4_finds_0 24 rfl
theorem dX4_finds_47 : decode cX4_finds 47 = .ok (.aload_n 0, 1) := dAt (x := (47, .aload_n 0, 1)) DX4_finds_0 25 rfl
theorem dX4_finds_48 : decode cX4_finds 48 = .ok (.getfield 77, 3) := dAt (x := (48, .getfield 77, 3)) DX4_finds_0 26 rfl
theorem dX4_finds_51 : decode cX4_finds 51 = .ok (.iload_n 1, 1) := dAt (x := (51, .iload_n 1, 1)) DX4_finds_0 27 rfl
theorem dX4_finds_52 : decode cX4_finds 52 = .ok (.iastore, 1) := dAt (x := (52, .iastore, 1)) DX4_finds_0 28 rfl
theorem dX4_finds_53 : decode cX4_finds 53 = .ok (.aload_n 0, 1) := dAt (x := (53, .aload_n 0, 1)) DX4_finds_0 29 rfl
theorem dX4_finds_54 : decode cX4_finds 54 = .ok (.dup, 1) := dAt (x := (54, .dup, 1)) DX4_finds_0 30 rfl
theorem dX4_finds_55 : decode cX4_finds 55 = .ok (.getfield 77, 3) := dAt (x := (55, .getfield 77, 3)) DX4_finds_0 31 rfl
theorem dX4_finds_58 : decode cX4_finds 58 = .ok (.iconst 1, 1) := dAt (x := (58, .iconst 1, 1)) DX4_finds_0 32 rfl
theorem dX4_finds_59 : decode cX4_finds 59 = .ok (.iadd, 1) := dAt (x := (59, .iadd, 1)) DX4_finds_0 33 rfl
theorem dX4_finds_60 : decode cX4_finds 60 = .ok (.putfield 77, 3) := dAt (x := (60, .putfield 77, 3)) DX4_finds_0 34 rfl
theorem dX4_finds_63 : decode cX4_finds 63 = .ok (.return_, 1) := dAt (x := (63, .return_, 1)) DX4_finds_0 35 rfl
def lDX4_leadsOn_0 : List (Nat × Instr × Nat) := [(0, .aload_n 0, 1), (1, .iload_n 1, 1), (2, .iload_n 2, 1), (3, .invokevirtual 87, 3), (6, .ifCond .eq 34, 3), (9, .aload_n 0, 1), (10, .iload_n 1, 1), (11, .invokevirtual 91, 3), (14, .ifCond .eq 26, 3), (17, .aload_n 0, 1), (18, .iload_n 1, 1), (19, .iconst 1, 1), (20, .iload_n 2, 1), (21, .ishl, 1), (22, .ixor, 1), (23, .invokevirtual 67, 3), (26, .aload_n 0, 1), (27, .iload_n 1, 1), (28, .invokevirtual 67, 3), (31, .iconst 1, 1), (32, .iadd, 1), (33, .if_icmp .ne 7, 3), (36, .iconst 1, 1), (37, .goto 4, 3), (40, .iconst 0, 1), (41, .ireturn, 1)]
theorem DX4_leadsOn_0 : dAll cX4_leadsOn lDX4_leadsOn_0 = true := by decide +kernel
theorem dX4_leadsOn_0 : decode cX4_leadsOn 0 = .ok (.aload_n 0, 1) := dAt (x := (0, .aload_n 0, 1)) DX4_leadsOn_0 0 rfl
theorem dX4_leadsOn_1 : decode cX4_leadsOn 1 = .ok (.iload_n 1, 1) := dAt (x := (1, .iload_n 1, 1)) DX4_leadsOn_0 1 rfl
theorem dX4_leadsOn_2 : decode cX4_leadsOn 2 = .ok (.iload_n 2, 1) := dAt (x := (2, .iload_n 2, 1)) DX4_leadsOn_0 2 rfl
theorem dX4_leadsOn_3 : decode cX4_leadsOn 3 = .ok (.invokevirtual 87, 3) := dAt (x := (3, .invokevirtual 87, 3)) DX4_leadsOn_0 3 rfl
theorem dX4_leadsOn_6 : decode cX4_leadsOn 6 = .ok (.ifCond .eq 34, 3) := dAt (x := (6, .ifCond .eq 34, 3)) DX4_leadsOn_0 4 rfl
theorem dX4_leadsOn_9 : decode cX4_leadsOn 9 = .ok (.aload_n 0, 1) := dAt (x := (9, .aload_n 0, 1)) DX4_leadsOn_0 5 rfl
theorem dX4_leadsOn_10 : decode cX4_leadsOn 10 = .ok (.iload_n 1, 1) := dAt (x := (10, .iload_n 1, 1)) DX4_leadsOn_0 6 rfl
theorem dX4_leadsOn_11 : decode cX4_leadsOn 11 = .ok (.invokevirtual 91, 3) := dAt (x := (11, .invokevirtual 91, 3)) DX4_leadsOn_0 7 rfl
theorem dX4_leadsOn_14 : decode cX4_leadsOn 14 = .ok (.ifCond .eq 26, 3) := dAt (x := (14, .ifCond .eq 26, 3)) DX4_leadsOn_0 8 rfl
theorem dX4_leadsOn_17 : decode cX4_leadsOn 17 = .ok (.aload_n 0, 1) := dAt (x := (17, .aload_n 0, 1)) DX4_leadsOn_0 9 rfl
theorem dX4_leadsOn_18 : decode cX4_leadsOn 18 = .ok (.iload_n 1, 1) := dAt (x := (18, .iload_n 1, 1)) DX4_leadsOn_0 10 rfl
theorem dX4_leadsOn_19 : decode cX4_leadsOn 19 = .ok (.iconst 1, 1) := dAt (x := (19, .iconst 1, 1)) DX4_leadsOn_0 11 rfl
theorem dX4_leadsOn_20 : decode cX4_leadsOn 20 = .ok (.iload_n 2, 1) := dAt (x := (20, .iload_n 2, 1)) DX4_leadsOn_0 12 rfl
theorem dX4_leadsOn_21 : decode cX4_leadsOn 21 = .ok (.ishl, 1) := dAt (x := (21, .ishl, 1)) DX4_leadsOn_0 13 rfl
theorem dX4_leadsOn_22 : decode cX4_leadsOn 22 = .ok (.ixor, 1) := dAt (x := (22, .ixor, 1)) DX4_leadsOn_0 14 rfl
theorem dX4_leadsOn_23 : decode cX4_leadsOn 23 = .ok (.invokevirtual 67, 3) := dAt (x := (23, .invokevirtual 67, 3)) DX4_leadsOn_0 15 rfl
theorem dX4_leadsOn_26 : decode cX4_leadsOn 26 = .ok (.aload_n 0, 1) := dAt (x := (26, .aload_n 0, 1)) DX4_leadsOn_0 16 rfl
theorem dX4_leadsOn_27 : decode cX4_leadsOn 27 = .ok (.iload_n 1, 1) := dAt (x := (27, .iload_n 1, 1)) DX4_leadsOn_0 17 rfl
theorem dX4_leadsOn_28 : decode cX4_leadsOn 28 = .ok (.invokevirtual 67, 3) := dAt (x := (28, .invokevirtual 67, 3)) DX4_leadsOn_0 18 rfl
theorem dX4_leadsOn_31 : decode cX4_leadsOn 31 = .ok (.iconst 1, 1) := dAt (x := (31, .iconst 1, 1)) DX4_leadsOn_0 19 rfl
theorem dX4_leadsOn_32 : decode cX4_leadsOn 32 = .ok (.iadd, 1) := dAt (x := (32, .iadd, 1)) DX4_leadsOn_0 20 rfl
theorem dX4_leadsOn_33 : decode cX4_leadsOn 33 = .ok (.if_icmp .ne 7, 3) := dAt (x := (33, .if_icmp .ne 7, 3)) DX4_leadsOn_0 21 rfl
theorem dX4_leadsOn_36 : decode cX4_leadsOn 36 = .ok (.iconst 1, 1) := dAt (x := (36, .iconst 1, 1)) DX4_leadsOn_0 22 rfl
theorem dX4_leadsOn_37 : decode cX4_leadsOn 37 = .ok (.goto 4, 3) := dAt (x := (37, .goto 4, 3)) DX4_leadsOn_0 23 rfl
theorem dX4_leadsOn_40 : decode cX4_leadsOn 40 = .ok (.iconst 0, 1) := dAt (x := (40, .iconst 0, 1)) DX4_leadsOn_0 24 rfl
theorem dX4_leadsOn_41 : decode cX4_leadsOn 41 = .ok (.ireturn, 1) := dAt (x := (41, .ireturn, 1)) DX4_leadsOn_0 25 rfl
def lDX4_firstTo_0 : List (Nat × Instr × Nat) := [(0, .aload_n 0, 1), (1, .iload_n 1, 1), (2, .invokevirtual 91, 3), (5, .ifCond .eq 11, 3), (8, .iload_n 1, 1), (9, .aload_n 0, 1), (10, .getfield 80, 3), (13, .if_icmp .ne 6, 3), (16, .bipush (-2), 2), (18, .ireturn, 1), (19, .aload_n 0, 1), (20, .getfield 21, 3), (23, .iconst 0, 1), (24, .invokestatic 71, 3), (27, .iconst 0, 1), (28, .istore_n 2, 1), (29, .iload_n 2, 1), (30, .aload_n 0, 1), (31, .getfield 77, 3), (34, .if_icmp .ge 86, 3), (37, .iload_n 2, 1), (38, .sipush 256, 3), (41, .if_icmp .ge 79, 3), (44, .aload_n 0, 1), (45, .getfield 18, 3), (48, .iload_n 2, 1), (49, .iaload, 1), (50, .istore_n 3, 1), (51, .iconst 0, 1), (52, .istore 4, 2), (54, .iload 4, 2), (56, .aload_n 0, 1), (57, .getfield 40, 3), (60, .if_icmp .ge 54, 3), (63, .aload_n 0, 1), (64, .iload_n 3, 1), (65, .iload 4, 2), (67, .invokevirtual 94, 3), (70, .ifCond .eq 38, 3), (73, .aload_n 0, 1), (74, .getfield 21, 3), (77, .iload_n 3, 1), (78, .iconst 1, 1), (79, .iload 4, 2), (81, .ishl, 1), (82, .ixor, 1), (83, .dup2, 1), (84, .iaload, 1), (85, .iload_n 3, 1), (86, .aload_n 0, 1), (87, .getfield 80, 3), (90, .if_icmp .ne 10, 3), (93, .iconst 1, 1), (94, .iload 4, 2), (96, .ishl, 1), (97, .goto 9, 3), (100, .aload_n 0, 1), (101, .getfield 21, 3), (104, .iload_n 3, 1), (105, .iaload, 1)]
theorem DX4_firstTo_0 : dAll cX4_firstTo lDX4_firstTo_0 = true := by decide +kernel
theorem dX4_firstTo_0 : decode cX4_firstTo 0 = .ok (.aload_n 0, 1) := dAt (x := (0, .aload_n 0, 1)) DX4_firstTo_0 0 rfl
theorem dX4_firstTo_1 : decode cX4_firstTo 1 = .ok (.iload_n 1, 1) := dAt (x := (1, .iload_n 1, 1)) DX4_firstTo_0 1 rfl
theorem dX4_firstTo_2 : decode cX4_firstTo 2 = .ok (.invokevirtual 91, 3) := dAt (x := (2, .invokevirtual 91, 3)) DX4_firstTo_0 2 rfl
theorem dX4_firstTo_5 : decode cX4_firstTo 5 = .ok (.ifCond .eq 11, 3) := dAt (x := (5, .ifCond .eq 11, 3)) DX4_firstTo_0 3 rfl
theorem dX4_firstTo_8 : decode cX4_firstTo 8 = .ok (.iload_n 1, 1) := dAt (x := (8, .iload_n 1, 1)) DX4_firstTo_0 4 rfl
theorem dX4_firstTo_9 : decode cX4_firstTo 9 = .ok (.aload_n 0, 1) := dAt (x := (9, .aload_n 0, 1)) DX4_firstTo_0 5 rfl
theorem dX4_firstTo_10 : decode cX4_firstTo 10 = .ok (.getfield 80, 3) := dAt (x := (10, .getfield 80, 3)) DX4_firstTo_0 6 rfl
theorem dX4_firstTo_13 : decode cX4_firstTo 13 = .ok (.if_icmp .ne 6, 3) := dAt (x := (13, .if_icmp .ne 6, 3)) DX4_firstTo_0 7 rfl
theorem dX4_firstTo_16 : decode cX4_firstTo 16 = .ok (.bipush (-2), 2) := dAt (x := (16, .bipush (-2), 2)) DX4_firstTo_0 8 rfl
theorem dX4_firstTo_18 : decode cX4_firstTo 18 = .ok (.ireturn, 1) := dAt (x := (18, .ireturn, 1)) DX4_firstTo_0 9 rfl
theorem dX4_firstTo_19 : decode cX4_firstTo 19 = .ok (.aload_n 0, 1) := dAt (x := (19, .aload_n 0, 1)) DX4_firstTo_0 10 rfl
theorem dX4_firstTo_20 : decode cX4_firstTo 20 = .ok (.getfield 21, 3) := dAt (x := (20, .getfield 21, 3)) DX4_firstTo_0 11 rfl
theorem dX4_firstTo_23 : decode cX4_firstTo 23 = .ok (.iconst 0, 1) := dAt (x := (23, .iconst 0, 1)) DX4_firstTo_0 12 rfl
theorem dX4_firstTo_24 : decode cX4_firstTo 24 = .ok (.invokestatic 71, 3) := dAt (x := (24, .invokestatic 71, 3)) DX4_firstTo_0 13 rfl
theorem dX4_firstTo_27 : decode cX4_firstTo 27 = .ok (.iconst 0, 1) := dAt (x := (27, .iconst 0, 1)) DX4_firstTo_0 14 rfl
theorem dX4_firstTo_28 : decode cX4_firstTo 28 = .ok (.istore_n 2, 1) := dAt (x := (28, .istore_n 2, 1)) DX4_firstTo_0 15 rfl
theorem dX4_firstTo_29 : decode cX4_firstTo 29 = .ok (.iload_n 2, 1) := dAt (x := (29, .iload_n 2, 1)) DX4_firstTo_0 16 rfl
theorem dX4_firstTo_30 : decode cX4_firstTo 30 = .ok (.aload_n 0, 1) := dAt (x := (30, .aload_n 0, 1)) DX4_firstTo_0 17 rfl
theorem dX4_firstTo_31 : decode cX4_firstTo 31 = .ok (.getfield 77, 3) := dAt (x := (31, .getfield 77, 3)) DX4_firstTo_0 18 rfl
theorem dX4_firstTo_34 : decode cX4_firstTo 34 = .ok (.if_icmp .ge 86, 3) := dAt (x := (34, .if_icmp .ge 86, 3)) DX4_firstTo_0 19 rfl
theorem dX4_firstTo_37 : decode cX4_firstTo 37 = .ok (.iload_n 2, 1) := dAt (x := (37, .iload_n 2, 1)) DX4_firstTo_0 20 rfl
theorem dX4_firstTo_38 : decode cX4_firstTo 38 = .ok (.sipush 256, 3) := dAt (x := (38, .sipush 256, 3)) DX4_firstTo_0 21 rfl
theorem dX4_firstTo_41 : decode cX4_firstTo 41 = .ok (.if_icmp .ge 79, 3) := dAt (x := (41, .if_icmp .ge 79, 3)) DX4_firstTo_0 22 rfl
theorem dX4_firstTo_44 : decode cX4_firstTo 44 = .ok (.aload_n 0, 1) := dAt (x := (44, .aload_n 0, 1)) DX4_firstTo_0 23 rfl
theorem dX4_firstTo_45 : decode cX4_firstTo 45 = .ok (.getfield 18, 3) := dAt (x := (45, .getfield 18, 3)) DX4_firstTo_0 24 rfl
theorem dX4_firstTo_48 : decode cX4_firstTo 48 = .ok (.iload_n 2, 1) := dAt (x := (48, .iload_n 2, 1)) DX4_firstTo_0 25 rfl
theorem dX4_firstTo_49 : decode cX4_firstTo 49 = .ok (.iaload, 1) := dAt (x := (49, .iaload, 1)) DX4_firstTo_0 26 rfl
theorem dX4_firstTo_50 : decode cX4_firstTo 50 = .ok (.istore_n 3, 1) := dAt (x := (50, .istore_n 3, 1)) DX4_firstTo_0 27 rfl
theorem dX4_firstTo_51 : decode cX4_firstTo 51 = .ok (.iconst 0, 1) := dAt (x := (51, .iconst 0, 1)) DX4_firstTo_0 28 rfl
theorem dX4_firstTo_52 : decode cX4_firstTo 52 = .ok (.istore 4, 2) := dAt (x := (52, .istore 4, 2)) DX4_firstTo_0 29 rfl
theorem dX4_firstTo_54 : decode cX4_firstTo 54 = .ok (.iload 4, 2) := dAt (x := (54, .iload 4, 2)) DX4_firstTo_0 30 rfl
theorem dX4_firstTo_56 : decode cX4_firstTo 56 = .ok (.aload_n 0, 1) := dAt (x := (56, .aload_n 0, 1)) DX4_firstTo_0 31 rfl
theorem dX4_firstTo_57 : decode cX4_firstTo 57 = .ok (.getfield 40, 3) := dAt (x := (57, .getfield 40, 3)) DX4_firstTo_0 32 rfl
theorem dX4_firstTo_60 : decode cX4_firstTo 60 = .ok (.if_icmp .ge 54, 3) := dAt (x := (60, .if_icmp .ge 54, 3)) DX4_firstTo_0 33 rfl
theorem dX4_firstTo_63 : decode cX4_firstTo 63 = .ok (.aload_n 0, 1) := dAt (x := (63, .aload_n 0, 1)) DX4_firstTo_0 34 rfl
theorem dX4_firstTo_64 : decode cX4_firstTo 64 = .ok (.iload_n 3, 1) := dAt (x := (64, .iload_n 3, 1)) DX4_firstTo_0 35 rfl
theorem dX4_firstTo_65 : decode cX4_firstTo 65 = .ok (.iload 4, 2) := dAt (x := (65, .iload 4, 2)) DX4_firstTo_0 36 rfl
theorem dX4_firstTo_67 : decode cX4_firstTo 67 = .ok (.invokevirtual 94, 3) := dAt (x := (67, .invokevirtual 94, 3)) DX4_firstTo_0 37 rfl
theorem dX4_firstTo_70 : decode cX4_firstTo 70 = .ok (.ifCond .eq 38, 3) := dAt (x := (70, .ifCond .eq 38, 3)) DX4_firstTo_0 38 rfl
theorem dX4_firstTo_73 : decode cX4_firstTo 73 = .ok (.aload_n 0, 1) := dAt (x := (73, .aload_n 0, 1)) DX4_firstTo_0 39 rfl
theorem dX4_firstTo_74 : decode cX4_firstTo 74 = .ok (.getfield 21, 3) := dAt (x := (74, .getfield 21, 3)) DX4_firstTo_0 40 rfl
theorem dX4_firstTo_77 : decode cX4_firstTo 77 = .ok (.iload_n 3, 1) := dAt (x := (77, .iload_n 3, 1)) DX4_firstTo_0 41 rfl
theorem dX4_firstTo_78 : decode cX4_firstTo 78 = .ok (.iconst 1, 1) := dAt (x := (78, .iconst 1, 1)) DX4_firstTo_0 42 rfl
theorem dX4_firstTo_79 : decode cX4_firstTo 79 = .ok (.iload 4, 2) := dAt (x := (79, .iload 4, 2)) DX4_firstTo_0 43 rfl
theorem dX4_firstTo_81 : decode cX4_firstTo 81 = .ok (.ishl, 1) := dAt (x := (81, .ishl, 1)) DX4_firstTo_0 44 rfl
theorem dX4_firstTo_82 : decode cX4_firstTo 82 = .ok (.ixor, 1) := dAt (x := (82, .ixor, 1)) DX4_firstTo_0 45 rfl
theorem dX4_firstTo_83 : decode cX4_firstTo 83 = .ok (.dup2, 1) := dAt (x := (83, .dup2, 1)) DX4_firstTo_0 46 rfl
theorem dX4_firstTo_84 : decode cX4_firstTo 84 = .ok (.iaload, 1) := dAt (x := (84, .iaload, 1)) DX4_firstTo_0 47 rfl
theorem dX4_firstTo_85 : decode cX4_firstTo 85 = .ok (.iload_n 3, 1) := dAt (x := (85, .iload_n 3, 1)) DX4_firstTo_0 48 rfl
theorem dX4_firstTo_86 : decode cX4_firstTo 86 = .ok (.aload_n 0, 1) := dAt (x := (86, .aload_n 0, 1)) DX4_firstTo_0 49 rfl
theorem dX4_firstTo_87 : decode cX4_firstTo 87 = .ok (.getfield 80, 3) := dAt (x := (87, .getfield 80, 3)) DX4_firstTo_0 50 rfl
theorem dX4_firstTo_90 : decode cX4_firstTo 90 = .ok (.if_icmp .ne 10, 3) := dAt (x := (90, .if_icmp .ne 10, 3)) DX4_firstTo_0 51 rfl
theorem dX4_firstTo_93 : decode cX4_firstTo 93 = .ok (.iconst 1, 1) := dAt (x := (93, .iconst 1, 1)) DX4_firstTo_0 52 rfl
theorem dX4_firstTo_94 : decode cX4_firstTo 94 = .ok (.iload 4, 2) := dAt (x := (94, .iload 4, 2)) DX4_firstTo_0 53 rfl
theorem dX4_firstTo_96 : decode cX4_firstTo 96 = .ok (.ishl, 1) := dAt (x := (96, .ishl, 1)) DX4_firstTo_0 54 rfl
theorem dX4_firstTo_97 : decode cX4_firstTo 97 = .ok (.goto 9, 3) := dAt (x := (97, .goto 9, 3)) DX4_firstTo_0 55 rfl
theorem dX4_firstTo_100 : decode cX4_firstTo 100 = .ok (.aload_n 0, 1) := dAt (x := (100, .aload_n 0, 1)) DX4_firstTo_0 56 rfl
theorem dX4_firstTo_101 : decode cX4_firstTo 101 = .ok (.getfield 21, 3) := dAt (x := (101, .getfield 21, 3)) DX4_firstTo_0 57 rfl
theorem dX4_firstTo_104 : decode cX4_firstTo 104 = .ok (.iload_n 3, 1) := dAt (x := (104, .iload_n 3, 1)) DX4_firstTo_0 58 rfl
theorem dX4_firstTo_105 : decode cX4_firstTo 105 = .ok (.iaload, 1) := dAt (x := (105, .iaload, 1)) DX4_firstTo_0 59 rfl
def lDX4_firstTo_1 : List (Nat × Instr × Nat) := [(106, .ior, 1), (107, .iastore, 1), (108, .iinc 4 1, 3), (111, .goto (-57), 3), (114, .iinc 2 1, 3), (117, .goto (-88), 3), (120, .iconst 0, 1), (121, .istore_n 2, 1), (122, .iload_n 2, 1), (123, .aload_n 0, 1), (124, .getfield 40, 3), (127, .if_icmp .ge 24, 3), (130, .aload_n 0, 1), (131, .getfield 21, 3), (134, .iload_n 1, 1), (135, .iaload, 1), (136, .iload_n 2, 1), (137, .ishr, 1), (138, .iconst 1, 1), (139, .iand, 1), (140, .ifCond .eq 5, 3), (143, .iload_n 2, 1), (144, .ireturn, 1), (145, .iinc 2 1, 3), (148, .goto (-26), 3), (151, .bipush (-2), 2), (153, .ireturn, 1)]
theorem DX4_firstTo_1 : dAll cX4_firstTo lDX4_firstTo_1 = true := by decide +kernel
theorem dX4_firstTo_106 : decode cX4_firstTo 106 = .ok (.ior, 1) := dAt (x := (106, .ior, 1)) DX4_firstTo_1 0 rfl
theorem dX4_firstTo_107 : decode cX4_firstTo 107 = .ok (.iastore, 1) := dAt (x := (107, .iastore, 1)) DX4_firstTo_1 1 rfl
theorem dX4_firstTo_108 : decode cX4_firstTo 108 = .ok (.iinc 4 1, 3) := dAt (x := (108, .iinc 4 1, 3)) DX4_firstTo_1 2 rfl
theorem dX4_firstTo_111 : decode cX4_firstTo 111 = .ok (.goto (-57), 3) := dAt (x := (111, .goto (-57), 3)) DX4_firstTo_1 3 rfl
theorem dX4_firstTo_114 : decode cX4_firstTo 114 = .ok (.iinc 2 1, 3) := dAt (x := (114, .iinc 2 1, 3)) DX4_firstTo_1 4 rfl
theorem dX4_firstTo_117 : decode cX4_firstTo 117 = .ok (.goto (-88), 3) := dAt (x := (117, .goto (-88), 3)) DX4_firstTo_1 5 rfl
theorem dX4_firstTo_120 : decode cX4_firstTo 120 = .ok (.iconst 0, 1) := dAt (x := (120, .iconst 0, 1)) DX4_firstTo_1 6 rfl
theorem dX4_firstTo_121 : decode cX4_firstTo 121 = .ok (.istore_n 2, 1) := dAt (x := (121, .istore_n 2, 1)) DX4_firstTo_1 7 rfl
theorem dX4_firstTo_122 : decode cX4_firstTo 122 = .ok (.iload_n 2, 1) := dAt (x := (122, .iload_n 2, 1)) DX4_firstTo_1 8 rfl
theorem dX4_firstTo_123 : decode cX4_firstTo 123 = .ok (.aload_n 0, 1) := dAt (x := (123, .aload_n 0, 1)) DX4_firstTo_1 9 rfl
theorem dX4_firstTo_124 : decode cX4_firstTo 124 = .ok (.getfield 40, 3) := dAt (x := (124, .getfield 40, 3)) DX4_firstTo_1 10 rfl
theorem dX4_firstTo_127 : decode cX4_firstTo 127 = .ok (.if_icmp .ge 24, 3) := dAt (x := (127, .if_icmp .ge 24, 3)) DX4_firstTo_1 11 rfl
theorem dX4_firstTo_130 : decode cX4_firstTo 130 = .ok (.aload_n 0, 1) := dAt (x := (130, .aload_n 0, 1)) DX4_firstTo_1 12 rfl
theorem dX4_firstTo_131 : decode cX4_firstTo 131 = .ok (.getfield 21, 3) := dAt (x := (131, .getfield 21, 3)) DX4_firstTo_1 13 rfl
theorem dX4_firstTo_134 : decode cX4_firstTo 134 = .ok (.iload_n 1, 1) := dAt (x := (134, .iload_n 1, 1)) DX4_firstTo_1 14 rfl
theorem dX4_firstTo_135 : decode cX4_firstTo 135 = .ok (.iaload, 1) := dAt (x := (135, .iaload, 1)) DX4_firstTo_1 15 rfl
theorem dX4_firstTo_136 : decode cX4_firstTo 136 = .ok (.iload_n 2, 1) := dAt (x := (136, .iload_n 2, 1)) DX4_firstTo_1 16 rfl
theorem dX4_firstTo_137 : decode cX4_firstTo 137 = .ok (.ishr, 1) := dAt (x := (137, .ishr, 1)) DX4_firstTo_1 17 rfl
theorem dX4_firstTo_138 : decode cX4_firstTo 138 = .ok (.iconst 1, 1) := dAt (x := (138, .iconst 1, 1)) DX4_firstTo_1 18 rfl
theorem dX4_firstTo_139 : decode cX4_firstTo 139 = .ok (.iand, 1) := dAt (x := (139, .iand, 1)) DX4_firstTo_1 19 rfl
theorem dX4_firstTo_140 : decode cX4_firstTo 140 = .ok (.ifCond .eq 5, 3) := dAt (x := (140, .ifCond .eq 5, 3)) DX4_firstTo_1 20 rfl
theorem dX4_firstTo_143 : decode cX4_firstTo 143 = .ok (.iload_n 2, 1) := dAt (x := (143, .iload_n 2, 1)) DX4_firstTo_1 21 rfl
theorem dX4_firstTo_144 : decode cX4_firstTo 144 = .ok (.ireturn, 1) := dAt (x := (144, .ireturn, 1)) DX4_firstTo_1 22 rfl
theorem dX4_firstTo_145 : decode cX4_firstTo 145 = .ok (.iinc 2 1, 3) := dAt (x := (145, .iinc 2 1, 3)) DX4_firstTo_1 23 rfl
theorem dX4_firstTo_148 : decode cX4_firstTo 148 = .ok (.goto (-26), 3) := dAt (x := (148, .goto (-26), 3)) DX4_firstTo_1 24 rfl
theorem dX4_firstTo_151 : decode cX4_firstTo 151 = .ok (.bipush (-2), 2) := dAt (x := (151, .bipush (-2), 2)) DX4_firstTo_1 25 rfl
theorem dX4_firstTo_153 : decode cX4_firstTo 153 = .ok (.ireturn, 1) := dAt (x := (153, .ireturn, 1)) DX4_firstTo_1 26 rfl
def lDX4_waysTo_0 : List (Nat × Instr × Nat) := [(0, .aload_n 0, 1), (1, .iload_n 1, 1), (2, .invokevirtual 91, 3), (5, .ifCond .eq 14, 3), (8, .aload_n 0, 1), (9, .aload_n 0, 1), (10, .getfield 80, 3), (13, .invokevirtual 63, 3), (16, .ifCond .ne 5, 3), (19, .iconst 0, 1), (20, .ireturn, 1), (21, .aload_n 0, 1), (22, .getfield 24, 3), (25, .lconst 0, 1), (26, .invokestatic 97, 3), (29, .aload_n 0, 1), (30, .getfield 24, 3), (33, .aload_n 0, 1), (34, .getfield 80, 3), (37, .lconst 1, 1), (38, .lastore, 1), (39, .iconst 0, 1), (40, .istore_n 2, 1), (41, .iload_n 2, 1), (42, .aload_n 0, 1), (43, .getfield 77, 3), (46, .if_icmp .ge 86, 3), (49, .iload_n 2, 1), (50, .sipush 256, 3), (53, .if_icmp .ge 79, 3), (56, .aload_n 0, 1), (57, .getfield 18, 3), (60, .iload_n 2, 1), (61, .iaload, 1), (62, .istore_n 3, 1), (63, .iconst 0, 1), (64, .istore 4, 2), (66, .iload 4, 2), (68, .aload_n 0, 1), (69, .getfield 40, 3), (72, .if_icmp .ge 54, 3), (75, .aload_n 0, 1), (76, .iload_n 3, 1), (77, .iload 4, 2), (79, .invokevirtual 94, 3), (82, .ifCond .eq 38, 3), (85, .iload_n 3, 1), (86, .iconst 1, 1), (87, .iload 4, 2), (89, .ishl, 1), (90, .ixor, 1), (91, .istore 5, 2), (93, .aload_n 0, 1), (94, .getfield 24, 3), (97, .iload 5, 2), (99, .ldc2_w 100, 3), (102, .aload_n 0, 1), (103, .getfield 24, 3), (106, .iload 5, 2), (108, .laload, 1)]
theorem DX4_waysTo_0 : dAll cX4_waysTo lDX4_waysTo_0 = true := by decide +kernel
theorem dX4_waysTo_0 : decode cX4_waysTo 0 = .ok (.aload_n 0, 1) := dAt (x := (0, .aload_n 0, 1)) DX4_waysTo_0 0 rfl
theorem dX4_waysTo_1 : decode cX4_waysTo 1 = .ok (.iload_n 1, 1) := dAt (x := (1, .iload_n 1, 1)) DX4_waysTo_0 1 rfl
theorem dX4_waysTo_2 : decode cX4_waysTo 2 = .ok (.invokevirtual 91, 3) := dAt (x := (2, .invokevirtual 91, 3)) DX4_waysTo_0 2 rfl
theorem dX4_waysTo_5 : decode cX4_waysTo 5 = .ok (.ifCond .eq 14, 3) := dAt (x := (5, .ifCond .eq 14, 3)) DX4_waysTo_0 3 rfl
theorem dX4_waysTo_8 : decode cX4_waysTo 8 = .ok (.aload_n 0, 1) := dAt (x := (8, .aload_n 0, 1)) DX4_waysTo_0 4 rfl
theorem dX4_waysTo_9 : decode cX4_waysTo 9 = .ok (.aload_n 0, 1) := dAt (x := (9, .aload_n 0, 1)) DX4_waysTo_0 5 rfl
theorem dX4_waysTo_10 : decode cX4_waysTo 10 = .ok (.getfield 80, 3) := dAt (x := (10, .getfield 80, 3)) DX4_waysTo_0 6 rfl
theorem dX4_waysTo_13 : decode cX4_waysTo 13 = .ok (.invokevirtual 63, 3) := dAt (x := (13, .invokevirtual 63, 3)) DX4_waysTo_0 7 rfl
theorem dX4_waysTo_16 : decode cX4_waysTo 16 = .ok (.ifCond .ne 5, 3) := dAt (x := (16, .ifCond .ne 5, 3)) DX4_waysTo_0 8 rfl
theorem dX4_waysTo_19 : decode cX4_waysTo 19 = .ok (.iconst 0, 1) := dAt (x := (19, .iconst 0, 1)) DX4_waysTo_0 9 rfl
theorem dX4_waysTo_20 : decode cX4_waysTo 20 = .ok (.ireturn, 1) := dAt (x := (20, .ireturn, 1)) DX4_waysTo_0 10 rfl
theorem dX4_waysTo_21 : decode cX4_waysTo 21 = .ok (.aload_n 0, 1) := dAt (x := (21, .aload_n 0, 1)) DX4_waysTo_0 11 rfl
theorem dX4_waysTo_22 : decode cX4_waysTo 22 = .ok (.getfield 24, 3) := dAt (x := (22, .getfield 24, 3)) DX4_waysTo_0 12 rfl
theorem dX4_waysTo_25 : decode cX4_waysTo 25 = .ok (.lconst 0, 1) := dAt (x := (25, .lconst 0, 1)) DX4_waysTo_0 13 rfl
theorem dX4_waysTo_26 : decode cX4_waysTo 26 = .ok (.invokestatic 97, 3) := dAt (x := (26, .invokestatic 97, 3)) DX4_waysTo_0 14 rfl
theorem dX4_waysTo_29 : decode cX4_waysTo 29 = .ok (.aload_n 0, 1) := dAt (x := (29, .aload_n 0, 1)) DX4_waysTo_0 15 rfl
theorem dX4_waysTo_30 : decode cX4_waysTo 30 = .ok (.getfield 24, 3) := dAt (x := (30, .getfield 24, 3)) DX4_waysTo_0 16 rfl
theorem dX4_waysTo_33 : decode cX4_waysTo 33 = .ok (.aload_n 0, 1) := dAt (x := (33, .aload_n 0, 1)) DX4_waysTo_0 17 rfl
theorem dX4_waysTo_34 : decode cX4_waysTo 34 = .ok (.getfield 80, 3) := dAt (x := (34, .getfield 80, 3)) DX4_waysTo_0 18 rfl
theorem dX4_waysTo_37 : decode cX4_waysTo 37 = .ok (.lconst 1, 1) := dAt (x := (37, .lconst 1, 1)) DX4_waysTo_0 19 rfl
theorem dX4_waysTo_38 : decode cX4_waysTo 38 = .ok (.lastore, 1) := dAt (x := (38, .lastore, 1)) DX4_waysTo_0 20 rfl
theorem dX4_waysTo_39 : decode cX4_waysTo 39 = .ok (.iconst 0, 1) := dAt (x := (39, .iconst 0, 1)) DX4_waysTo_0 21 rfl
theorem dX4_waysTo_40 : decode cX4_waysTo 40 = .ok (.istore_n 2, 1) := dAt (x := (40, .istore_n 2, 1)) DX4_waysTo_0 22 rfl
theorem dX4_waysTo_41 : decode cX4_waysTo 41 = .ok (.iload_n 2, 1) := dAt (x := (41, .iload_n 2, 1)) DX4_waysTo_0 23 rfl
theorem dX4_waysTo_42 : decode cX4_waysTo 42 = .ok (.aload_n 0, 1) := dAt (x := (42, .aload_n 0, 1)) DX4_waysTo_0 24 rfl
theorem dX4_waysTo_43 : decode cX4_waysTo 43 = .ok (.getfield 77, 3) := dAt (x := (43, .getfield 77, 3)) DX4_waysTo_0 25 rfl
theorem dX4_waysTo_46 : decode cX4_waysTo 46 = .ok (.if_icmp .ge 86, 3) := dAt (x := (46, .if_icmp .ge 86, 3)) DX4_waysTo_0 26 rfl
theorem dX4_waysTo_49 : decode cX4_waysTo 49 = .ok (.iload_n 2, 1) := dAt (x := (49, .iload_n 2, 1)) DX4_waysTo_0 27 rfl
theorem dX4_waysTo_50 : decode cX4_waysTo 50 = .ok (.sipush 256, 3) := dAt (x := (50, .sipush 256, 3)) DX4_waysTo_0 28 rfl
theorem dX4_waysTo_53 : decode cX4_waysTo 53 = .ok (.if_icmp .ge 79, 3) := dAt (x := (53, .if_icmp .ge 79, 3)) DX4_waysTo_0 29 rfl
theorem dX4_waysTo_56 : decode cX4_waysTo 56 = .ok (.aload_n 0, 1) := dAt (x := (56, .aload_n 0, 1)) DX4_waysTo_0 30 rfl
theorem dX4_waysTo_57 : decode cX4_waysTo 57 = .ok (.getfield 18, 3) := dAt (x := (57, .getfield 18, 3)) DX4_waysTo_0 31 rfl
theorem dX4_waysTo_60 : decode cX4_waysTo 60 = .ok (.iload_n 2, 1) := dAt (x := (60, .iload_n 2, 1)) DX4_waysTo_0 32 rfl
theorem dX4_waysTo_61 : decode cX4_waysTo 61 = .ok (.iaload, 1) := dAt (x := (61, .iaload, 1)) DX4_waysTo_0 33 rfl
theorem dX4_waysTo_62 : decode cX4_waysTo 62 = .ok (.istore_n 3, 1) := dAt (x := (62, .istore_n 3, 1)) DX4_waysTo_0 34 rfl
theorem dX4_waysTo_63 : decode cX4_waysTo 63 = .ok (.iconst 0, 1) := dAt (x := (63, .iconst 0, 1)) DX4_waysTo_0 35 rfl
theorem dX4_waysTo_64 : decode cX4_waysTo 64 = .ok (.istore 4, 2) := dAt (x := (64, .istore 4, 2)) DX4_waysTo_0 36 rfl
theorem dX4_waysTo_66 : decode cX4_waysTo 66 = .ok (.iload 4, 2) := dAt (x := (66, .iload 4, 2)) DX4_waysTo_0 37 rfl
theorem dX4_waysTo_68 : decode cX4_waysTo 68 = .ok (.aload_n 0, 1) := dAt (x := (68, .aload_n 0, 1)) DX4_waysTo_0 38 rfl
theorem dX4_waysTo_69 : decode cX4_waysTo 69 = .ok (.getfield 40, 3) := dAt (x := (69, .getfield 40, 3)) DX4_waysTo_0 39 rfl
theorem dX4_waysTo_72 : decode cX4_waysTo 72 = .ok (.if_icmp .ge 54, 3) := dAt (x := (72, .if_icmp .ge 54, 3)) DX4_waysTo_0 40 rfl
theorem dX4_waysTo_75 : decode cX4_waysTo 75 = .ok (.aload_n 0, 1) := dAt (x := (75, .aload_n 0, 1)) DX4_waysTo_0 41 rfl
theorem dX4_waysTo_76 : decode cX4_waysTo 76 = .ok (.iload_n 3, 1) := dAt (x := (76, .iload_n 3, 1)) DX4_waysTo_0 42 rfl
theorem dX4_waysTo_77 : decode cX4_waysTo 77 = .ok (.iload 4, 2) := dAt (x := (77, .iload 4, 2)) DX4_waysTo_0 43 rfl
theorem dX4_waysTo_79 : decode cX4_waysTo 79 = .ok (.invokevirtual 94, 3) := dAt (x := (79, .invokevirtual 94, 3)) DX4_waysTo_0 44 rfl
theorem dX4_waysTo_82 : decode cX4_waysTo 82 = .ok (.ifCond .eq 38, 3) := dAt (x := (82, .ifCond .eq 38, 3)) DX4_waysTo_0 45 rfl
theorem dX4_waysTo_85 : decode cX4_waysTo 85 = .ok (.iload_n 3, 1) := dAt (x := (85, .iload_n 3, 1)) DX4_waysTo_0 46 rfl
theorem dX4_waysTo_86 : decode cX4_waysTo 86 = .ok (.iconst 1, 1) := dAt (x := (86, .iconst 1, 1)) DX4_waysTo_0 47 rfl
theorem dX4_waysTo_87 : decode cX4_waysTo 87 = .ok (.iload 4, 2) := dAt (x := (87, .iload 4, 2)) DX4_waysTo_0 48 rfl
theorem dX4_waysTo_89 : decode cX4_waysTo 89 = .ok (.ishl, 1) := dAt (x := (89, .ishl, 1)) DX4_waysTo_0 49 rfl
theorem dX4_waysTo_90 : decode cX4_waysTo 90 = .ok (.ixor, 1) := dAt (x := (90, .ixor, 1)) DX4_waysTo_0 50 rfl
theorem dX4_waysTo_91 : decode cX4_waysTo 91 = .ok (.istore 5, 2) := dAt (x := (91, .istore 5, 2)) DX4_waysTo_0 51 rfl
theorem dX4_waysTo_93 : decode cX4_waysTo 93 = .ok (.aload_n 0, 1) := dAt (x := (93, .aload_n 0, 1)) DX4_waysTo_0 52 rfl
theorem dX4_waysTo_94 : decode cX4_waysTo 94 = .ok (.getfield 24, 3) := dAt (x := (94, .getfield 24, 3)) DX4_waysTo_0 53 rfl
theorem dX4_waysTo_97 : decode cX4_waysTo 97 = .ok (.iload 5, 2) := dAt (x := (97, .iload 5, 2)) DX4_waysTo_0 54 rfl
theorem dX4_waysTo_99 : decode cX4_waysTo 99 = .ok (.ldc2_w 100, 3) := dAt (x := (99, .ldc2_w 100, 3)) DX4_waysTo_0 55 rfl
theorem dX4_waysTo_102 : decode cX4_waysTo 102 = .ok (.aload_n 0, 1) := dAt (x := (102, .aload_n 0, 1)) DX4_waysTo_0 56 rfl
theorem dX4_waysTo_103 : decode cX4_waysTo 103 = .ok (.getfield 24, 3) := dAt (x := (103, .getfield 24, 3)) DX4_waysTo_0 57 rfl
theorem dX4_waysTo_106 : decode cX4_waysTo 106 = .ok (.iload 5, 2) := dAt (x := (106, .iload 5, 2)) DX4_waysTo_0 58 rfl
theorem dX4_waysTo_108 : decode cX4_waysTo 108 = .ok (.laload, 1) := dAt (x := (108, .laload, 1)) DX4_waysTo_0 59 rfl
def lDX4_waysTo_1 : List (Nat × Instr × Nat) := [(109, .aload_n 0, 1), (110, .getfield 24, 3), (113, .iload_n 3, 1), (114, .laload, 1), (115, .ladd, 1), (116, .invokestatic 102, 3), (119, .lastore, 1), (120, .iinc 4 1, 3), (123, .goto (-57), 3), (126, .iinc 2 1, 3), (129, .goto (-88), 3), (132, .aload_n 0, 1), (133, .getfield 24, 3), (136, .iload_n 1, 1), (137, .laload, 1), (138, .l2i, 1), (139, .ireturn, 1)]
theorem DX4_waysTo_1 : dAll cX4_waysTo lDX4_waysTo_1 = true := by decide +kernel
theorem dX4_waysTo_109 : decode cX4_waysTo 109 = .ok (.aload_n 0, 1) := dAt (x := (109, .aload_n 0, 1)) DX4_waysTo_1 0 rfl
theorem dX4_waysTo_110 : decode cX4_waysTo 110 = .ok (.getfield 24, 3) := dAt (x := (110, .getfield 24, 3)) DX4_waysTo_1 1 rfl
theorem dX4_waysTo_113 : decode cX4_waysTo 113 = .ok (.iload_n 3, 1) := dAt (x := (113, .iload_n 3, 1)) DX4_waysTo_1 2 rfl
theorem dX4_waysTo_114 : decode cX4_waysTo 114 = .ok (.laload, 1) := dAt (x := (114, .laload, 1)) DX4_waysTo_1 3 rfl
theorem dX4_waysTo_115 : decode cX4_waysTo 115 = .ok (.ladd, 1) := dAt (x := (115, .ladd, 1)) DX4_waysTo_1 4 rfl
theorem dX4_waysTo_116 : decode cX4_waysTo 116 = .ok (.invokestatic 102, 3) := dAt (x := (116, .invokestatic 102, 3)) DX4_waysTo_1 5 rfl
theorem dX4_waysTo_119 : decode cX4_waysTo 119 = .ok (.lastore, 1) := dAt (x := (119, .lastore, 1)) DX4_waysTo_1 6 rfl
theorem dX4_waysTo_120 : decode cX4_waysTo 120 = .ok (.iinc 4 1, 3) := dAt (x := (120, .iinc 4 1, 3)) DX4_waysTo_1 7 rfl
theorem dX4_waysTo_123 : decode cX4_waysTo 123 = .ok (.goto (-57), 3) := dAt (x := (123, .goto (-57), 3)) DX4_waysTo_1 8 rfl
theorem dX4_waysTo_126 : decode cX4_waysTo 126 = .ok (.iinc 2 1, 3) := dAt (x := (126, .iinc 2 1, 3)) DX4_waysTo_1 9 rfl
theorem dX4_waysTo_129 : decode cX4_waysTo 129 = .ok (.goto (-88), 3) := dAt (x := (129, .goto (-88), 3)) DX4_waysTo_1 10 rfl
theorem dX4_waysTo_132 : decode cX4_waysTo 132 = .ok (.aload_n 0, 1) := dAt (x := (132, .aload_n 0, 1)) DX4_waysTo_1 11 rfl
theorem dX4_waysTo_133 : decode cX4_waysTo 133 = .ok (.getfield 24, 3) := dAt (x := (133, .getfield 24, 3)) DX4_waysTo_1 12 rfl
theorem dX4_waysTo_136 : decode cX4_waysTo 136 = .ok (.iload_n 1, 1) := dAt (x := (136, .iload_n 1, 1)) DX4_waysTo_1 13 rfl
theorem dX4_waysTo_137 : decode cX4_waysTo 137 = .ok (.laload, 1) := dAt (x := (137, .laload, 1)) DX4_waysTo_1 14 rfl
theorem dX4_waysTo_138 : decode cX4_waysTo 138 = .ok (.l2i, 1) := dAt (x := (138, .l2i, 1)) DX4_waysTo_1 15 rfl
theorem dX4_waysTo_139 : decode cX4_waysTo 139 = .ok (.ireturn, 1) := dAt (x := (139, .ireturn, 1)) DX4_waysTo_1 16 rfl
def lDX4_farthestRow_0 : List (Nat × Instr × Nat) := [(0, .aload_n 0, 1), (1, .getfield 80, 3), (4, .istore_n 1, 1), (5, .iconst 0, 1), (6, .istore_n 2, 1), (7, .iload_n 2, 1), (8, .aload_n 0, 1), (9, .getfield 47, 3), (12, .if_icmp .ge 24, 3), (15, .aload_n 0, 1), (16, .iload_n 2, 1), (17, .invokevirtual 67, 3), (20, .aload_n 0, 1), (21, .iload_n 1, 1), (22, .invokevirtual 67, 3), (25, .if_icmp .le 5, 3), (28, .iload_n 2, 1), (29, .istore_n 1, 1), (30, .iinc 2 1, 3), (33, .goto (-26), 3), (36, .iload_n 1, 1), (37, .ireturn, 1)]
theorem DX4_farthestRow_0 : dAll cX4_farthestRow lDX4_farthestRow_0 = true := by decide +kernel
theorem dX4_farthestRow_0 : decode cX4_farthestRow 0 = .ok (.aload_n 0, 1) := dAt (x := (0, .aload_n 0, 1)) DX4_farthestRow_0 0 rfl
theorem dX4_farthestRow_1 : decode cX4_farthestRow 1 = .ok (.getfield 80, 3) := dAt (x := (1, .getfield 80, 3)) DX4_farthestRow_0 1 rfl
theorem dX4_farthestRow_4 : decode cX4_farthestRow 4 = .ok (.istore_n 1, 1) := dAt (x := (4, .istore_n 1, 1)) DX4_farthestRow_0 2 rfl
theorem dX4_farthestRow_5 : decode cX4_farthestRow 5 = .ok (.iconst 0, 1) := dAt (x := (5, .iconst 0, 1)) DX4_farthestRow_0 3 rfl
theorem dX4_farthestRow_6 : decode cX4_farthestRow 6 = .ok (.istore_n 2, 1) := dAt (x := (6, .istore_n 2, 1)) DX4_farthestRow_0 4 rfl
theorem dX4_farthestRow_7 : decode cX4_farthestRow 7 = .ok (.iload_n 2, 1) := dAt (x := (7, .iload_n 2, 1)) DX4_farthestRow_0 5 rfl
theorem dX4_farthestRow_8 : decode cX4_farthestRow 8 = .ok (.aload_n 0, 1) := dAt (x := (8, .aload_n 0, 1)) DX4_farthestRow_0 6 rfl
theorem dX4_farthestRow_9 : decode cX4_farthestRow 9 = .ok (.getfield 47, 3) := dAt (x := (9, .getfield 47, 3)) DX4_farthestRow_0 7 rfl
theorem dX4_farthestRow_12 : decode cX4_farthestRow 12 = .ok (.if_icmp .ge 24, 3) := dAt (x := (12, .if_icmp .ge 24, 3)) DX4_farthestRow_0 8 rfl
theorem dX4_farthestRow_15 : decode cX4_farthestRow 15 = .ok (.aload_n 0, 1) := dAt (x := (15, .aload_n 0, 1)) DX4_farthestRow_0 9 rfl
theorem dX4_farthestRow_16 : decode cX4_farthestRow 16 = .ok (.iload_n 2, 1) := dAt (x := (16, .iload_n 2, 1)) DX4_farthestRow_0 10 rfl
theorem dX4_farthestRow_17 : decode cX4_farthestRow 17 = .ok (.invokevirtual 67, 3) := dAt (x := (17, .invokevirtual 67, 3)) DX4_farthestRow_0 11 rfl
theorem dX4_farthestRow_20 : decode cX4_farthestRow 20 = .ok (.aload_n 0, 1) := dAt (x := (20, .aload_n 0, 1)) DX4_farthestRow_0 12 rfl
theorem dX4_farthestRow_21 : decode cX4_farthestRow 21 = .ok (.iload_n 1, 1) := dAt (x := (21, .iload_n 1, 1)) DX4_farthestRow_0 13 rfl
theorem dX4_farthestRow_22 : decode cX4_farthestRow 22 = .ok (.invokevirtual 67, 3) := dAt (x := (22, .invokevirtual 67, 3)) DX4_farthestRow_0 14 rfl
theorem dX4_farthestRow_25 : decode cX4_farthestRow 25 = .ok (.if_icmp .le 5, 3) := dAt (x := (25, .if_icmp .le 5, 3)) DX4_farthestRow_0 15 rfl
theorem dX4_farthestRow_28 : decode cX4_farthestRow 28 = .ok (.iload_n 2, 1) := dAt (x := (28, .iload_n 2, 1)) DX4_farthestRow_0 16 rfl
theorem dX4_farthestRow_29 : decode cX4_farthestRow 29 = .ok (.istore_n 1, 1) := dAt (x := (29, .istore_n 1, 1)) DX4_farthestRow_0 17 rfl
theorem dX4_farthestRow_30 : decode cX4_farthestRow 30 = .ok (.iinc 2 1, 3) := dAt (x := (30, .iinc 2 1, 3)) DX4_farthestRow_0 18 rfl
theorem dX4_farthestRow_33 : decode cX4_farthestRow 33 = .ok (.goto (-26), 3) := dAt (x := (33, .goto (-26), 3)) DX4_farthestRow_0 19 rfl
theorem dX4_farthestRow_36 : decode cX4_farthestRow 36 = .ok (.iload_n 1, 1) := dAt (x := (36, .iload_n 1, 1)) DX4_farthestRow_0 20 rfl
theorem dX4_farthestRow_37 : decode cX4_farthestRow 37 = .ok (.ireturn, 1) := dAt (x := (37, .ireturn, 1)) DX4_farthestRow_0 21 rfl
def lDX4_width_0 : List (Nat × Instr × Nat) := [(0, .aload_n 0, 1), (1, .iload_n 1, 1), (2, .invokevirtual 105, 3), (5, .aload_n 0, 1), (6, .getfield 77, 3), (9, .istore_n 2, 1), (10, .aload_n 0, 1), (11, .getfield 18, 3), (14, .iconst 0, 1), (15, .aload_n 0, 1), (16, .getfield 21, 3), (19, .iconst 0, 1), (20, .sipush 256, 3), (23, .invokestatic 109, 3), (26, .iconst 0, 1), (27, .istore_n 3, 1), (28, .iconst 0, 1), (29, .istore 4, 2), (31, .iload 4, 2), (33, .iload_n 2, 1), (34, .if_icmp .ge 41, 3), (37, .iload 4, 2), (39, .sipush 256, 3), (42, .if_icmp .ge 33, 3), (45, .aload_n 0, 1), (46, .aload_n 0, 1), (47, .getfield 21, 3), (50, .iload 4, 2), (52, .iaload, 1), (53, .invokevirtual 105, 3), (56, .iload_n 3, 1), (57, .aload_n 0, 1), (58, .aload_n 0, 1), (59, .invokevirtual 115, 3), (62, .invokevirtual 67, 3), (65, .invokestatic 119, 3), (68, .istore_n 3, 1), (69, .iinc 4 1, 3), (72, .goto (-41), 3), (75, .iload_n 3, 1), (76, .ireturn, 1)]
theorem DX4_width_0 : dAll cX4_width lDX4_width_0 = true := by decide +kernel
theorem dX4_width_0 : decode cX4_width 0 = .ok (.aload_n 0, 1) := dAt (x := (0, .aload_n 0, 1)) DX4_width_0 0 rfl
theorem dX4_width_1 : decode cX4_width 1 = .ok (.iload_n 1, 1) := dAt (x := (1, .iload_n 1, 1)) DX4_width_0 1 rfl
theorem dX4_width_2 : decode cX4_width 2 = .ok (.invokevirtual 105, 3) := dAt (x := (2, .invokevirtual 105, 3)) DX4_width_0 2 rfl
theorem dX4_width_5 : decode cX4_width 5 = .ok (.aload_n 0, 1) := dAt (x := (5, .aload_n 0, 1)) DX4_width_0 3 rfl
theorem dX4_width_6 : decode cX4_width 6 = .ok (.getfield 77, 3) := dAt (x := (6, .getfield 77, 3)) DX4_width_0 4 rfl
theorem dX4_width_9 : decode cX4_width 9 = .ok (.istore_n 2, 1) := dAt (x := (9, .istore_n 2, 1)) DX4_width_0 5 rfl
theorem dX4_width_10 : decode cX4_width 10 = .ok (.aload_n 0, 1) := dAt (x := (10, .aload_n 0, 1)) DX4_width_0 6 rfl
theorem dX4_width_11 : decode cX4_width 11 = .ok (.getfield 18, 3) := dAt (x := (11, .getfield 18, 3)) DX4_width_0 7 rfl
theorem dX4_width_14 : decode cX4_width 14 = .ok (.iconst 0, 1) := dAt (x := (14, .iconst 0, 1)) DX4_width_0 8 rfl
theorem dX4_width_15 : decode cX4_width 15 = .ok (.aload_n 0, 1) := dAt (x := (15, .aload_n 0, 1)) DX4_width_0 9 rfl
theorem dX4_width_16 : decode cX4_width 16 = .ok (.getfield 21, 3) := dAt (x := (16, .getfield 21, 3)) DX4_width_0 10 rfl
theorem dX4_width_19 : decode cX4_width 19 = .ok (.iconst 0, 1) := dAt (x := (19, .iconst 0, 1)) DX4_width_0 11 rfl
theorem dX4_width_20 : decode cX4_width 20 = .ok (.sipush 256, 3) := dAt (x := (20, .sipush 256, 3)) DX4_width_0 12 rfl
theorem dX4_width_23 : decode cX4_width 23 = .ok (.invokestatic 109, 3) := dAt (x := (23, .invokestatic 109, 3)) DX4_width_0 13 rfl
theorem dX4_width_26 : decode cX4_width 26 = .ok (.iconst 0, 1) := dAt (x := (26, .iconst 0, 1)) DX4_width_0 14 rfl
theorem dX4_width_27 : decode cX4_width 27 = .ok (.istore_n 3, 1) := dAt (x := (27, .istore_n 3, 1)) DX4_width_0 15 rfl
theorem dX4_width_28 : decode cX4_width 28 = .ok (.iconst 0, 1) := dAt (x := (28, .iconst 0, 1)) DX4_width_0 16 rfl
theorem dX4_width_29 : decode cX4_width 29 = .ok (.istore 4, 2) := dAt (x := (29, .istore 4, 2)) DX4_width_0 17 rfl
theorem dX4_width_31 : decode cX4_width 31 = .ok (.iload 4, 2) := dAt (x := (31, .iload 4, 2)) DX4_width_0 18 rfl
theorem dX4_width_33 : decode cX4_width 33 = .ok (.iload_n 2, 1) := dAt (x := (33, .iload_n 2, 1)) DX4_width_0 19 rfl
theorem dX4_width_34 : decode cX4_width 34 = .ok (.if_icmp .ge 41, 3) := dAt (x := (34, .if_icmp .ge 41, 3)) DX4_width_0 20 rfl
theorem dX4_width_37 : decode cX4_width 37 = .ok (.iload 4, 2) := dAt (x := (37, .iload 4, 2)) DX4_width_0 21 rfl
theorem dX4_width_39 : decode cX4_width 39 = .ok (.sipush 256, 3) := dAt (x := (39, .sipush 256, 3)) DX4_width_0 22 rfl
theorem dX4_width_42 : decode cX4_width 42 = .ok (.if_icmp .ge 33, 3) := dAt (x := (42, .if_icmp .ge 33, 3)) DX4_width_0 23 rfl
theorem dX4_width_45 : decode cX4_width 45 = .ok (.aload_n 0, 1) := dAt (x := (45, .aload_n 0, 1)) DX4_width_0 24 rfl
theorem dX4_width_46 : decode cX4_width 46 = .ok (.aload_n 0, 1) := dAt (x := (46, .aload_n 0, 1)) DX4_width_0 25 rfl
theorem dX4_width_47 : decode cX4_width 47 = .ok (.getfield 21, 3) := dAt (x := (47, .getfield 21, 3)) DX4_width_0 26 rfl
theorem dX4_width_50 : decode cX4_width 50 = .ok (.iload 4, 2) := dAt (x := (50, .iload 4, 2)) DX4_width_0 27 rfl
theorem dX4_width_52 : decode cX4_width 52 = .ok (.iaload, 1) := dAt (x := (52, .iaload, 1)) DX4_width_0 28 rfl
theorem dX4_width_53 : decode cX4_width 53 = .ok (.invokevirtual 105, 3) := dAt (x := (53, .invokevirtual 105, 3)) DX4_width_0 29 rfl
theorem dX4_width_56 : decode cX4_width 56 = .ok (.iload_n 3, 1) := dAt (x := (56, .iload_n 3, 1)) DX4_width_0 30 rfl
theorem dX4_width_57 : decode cX4_width 57 = .ok (.aload_n 0, 1) := dAt (x := (57, .aload_n 0, 1)) DX4_width_0 31 rfl
theorem dX4_width_58 : decode cX4_width 58 = .ok (.aload_n 0, 1) := dAt (x := (58, .aload_n 0, 1)) DX4_width_0 32 rfl
theorem dX4_width_59 : decode cX4_width 59 = .ok (.invokevirtual 115, 3) := dAt (x := (59, .invokevirtual 115, 3)) DX4_width_0 33 rfl
theorem dX4_width_62 : decode cX4_width 62 = .ok (.invokevirtual 67, 3) := dAt (x := (62, .invokevirtual 67, 3)) DX4_width_0 34 rfl
theorem dX4_width_65 : decode cX4_width 65 = .ok (.invokestatic 119, 3) := dAt (x := (65, .invokestatic 119, 3)) DX4_width_0 35 rfl
theorem dX4_width_68 : decode cX4_width 68 = .ok (.istore_n 3, 1) := dAt (x := (68, .istore_n 3, 1)) DX4_width_0 36 rfl
theorem dX4_width_69 : decode cX4_width 69 = .ok (.iinc 4 1, 3) := dAt (x := (69, .iinc 4 1, 3)) DX4_width_0 37 rfl
theorem dX4_width_72 : decode cX4_width 72 = .ok (.goto (-41), 3) := dAt (x := (72, .goto (-41), 3)) DX4_width_0 38 rfl
theorem dX4_width_75 : decode cX4_width 75 = .ok (.iload_n 3, 1) := dAt (x := (75, .iload_n 3, 1)) DX4_width_0 39 rfl
theorem dX4_width_76 : decode cX4_width 76 = .ok (.ireturn, 1) := dAt (x := (76, .ireturn, 1)) DX4_width_0 40 rfl
def lDX4_partsInAll_0 : List (Nat × Instr × Nat) := [(0, .aload_n 0, 1), (1, .getfield 21, 3), (4, .iconst 0, 1), (5, .invokestatic 71, 3), (8, .iconst 0, 1), (9, .istore_n 1, 1), (10, .iconst 0, 1), (11, .istore_n 2, 1), (12, .iload_n 2, 1), (13, .aload_n 0, 1), (14, .getfield 47, 3), (17, .if_icmp .ge 30, 3), (20, .aload_n 0, 1), (21, .getfield 21, 3), (24, .iload_n 2, 1), (25, .iaload, 1), (26, .ifCond .ne 15, 3), (29, .iinc 1 1, 3), (32, .aload_n 0, 1), (33, .iload_n 2, 1), (34, .invokevirtual 105, 3), (37, .aload_n 0, 1), (38, .invokevirtual 122, 3), (41, .iinc 2 1, 3), (44, .goto (-32), 3), (47, .iload_n 1, 1), (48, .ireturn, 1)]
theorem DX4_partsInAll_0 : dAll cX4_partsInAll lDX4_partsInAll_0 = true := by decide +kernel
theorem dX4_partsInAll_0 : decode cX4_partsInAll 0 = .ok (.aload_n 0, 1) := dAt (x := (0, .aload_n 0, 1)) DX4_partsInAll_0 0 rfl
theorem dX4_partsInAll_1 : decode cX4_partsInAll 1 = .ok (.getfield 21, 3) := dAt (x := (1, .getfield 21, 3)) DX4_partsInAll_0 1 rfl
theorem dX4_partsInAll_4 : decode cX4_partsInAll 4 = .ok (.iconst 0, 1) := dAt (x := (4, .iconst 0, 1)) DX4_partsInAll_0 2 rfl
theorem dX4_partsInAll_5 : decode cX4_partsInAll 5 = .ok (.invokestatic 71, 3) := dAt (x := (5, .invokestatic 71, 3)) DX4_partsInAll_0 3 rfl
theorem dX4_partsInAll_8 : decode cX4_partsInAll 8 = .ok (.iconst 0, 1) := dAt (x := (8, .iconst 0, 1)) DX4_partsInAll_0 4 rfl
theorem dX4_partsInAll_9 : decode cX4_partsInAll 9 = .ok (.istore_n 1, 1) := dAt (x := (9, .istore_n 1, 1)) DX4_partsInAll_0 5 rfl
theorem dX4_partsInAll_10 : decode cX4_partsInAll 10 = .ok (.iconst 0, 1) := dAt (x := (10, .iconst 0, 1)) DX4_partsInAll_0 6 rfl
theorem dX4_partsInAll_11 : decode cX4_partsInAll 11 = .ok (.istore_n 2, 1) := dAt (x := (11, .istore_n 2, 1)) DX4_partsInAll_0 7 rfl
theorem dX4_partsInAll_12 : decode cX4_partsInAll 12 = .ok (.iload_n 2, 1) := dAt (x := (12, .iload_n 2, 1)) DX4_partsInAll_0 8 rfl
theorem dX4_partsInAll_13 : decode cX4_partsInAll 13 = .ok (.aload_n 0, 1) := dAt (x := (13, .aload_n 0, 1)) DX4_partsInAll_0 9 rfl
theorem dX4_partsInAll_14 : decode cX4_partsInAll 14 = .ok (.getfield 47, 3) := dAt (x := (14, .getfield 47, 3)) DX4_partsInAll_0 10 rfl
theorem dX4_partsInAll_17 : decode cX4_partsInAll 17 = .ok (.if_icmp .ge 30, 3) := dAt (x := (17, .if_icmp .ge 30, 3)) DX4_partsInAll_0 11 rfl
theorem dX4_partsInAll_20 : decode cX4_partsInAll 20 = .ok (.aload_n 0, 1) := dAt (x := (20, .aload_n 0, 1)) DX4_partsInAll_0 12 rfl
theorem dX4_partsInAll_21 : decode cX4_partsInAll 21 = .ok (.getfield 21, 3) := dAt (x := (21, .getfield 21, 3)) DX4_partsInAll_0 13 rfl
theorem dX4_partsInAll_24 : decode cX4_partsInAll 24 = .ok (.iload_n 2, 1) := dAt (x := (24, .iload_n 2, 1)) DX4_partsInAll_0 14 rfl
theorem dX4_partsInAll_25 : decode cX4_partsInAll 25 = .ok (.iaload, 1) := dAt (x := (25, .iaload, 1)) DX4_partsInAll_0 15 rfl
theorem dX4_partsInAll_26 : decode cX4_partsInAll 26 = .ok (.ifCond .ne 15, 3) := dAt (x := (26, .ifCond .ne 15, 3)) DX4_partsInAll_0 16 rfl
theorem dX4_partsInAll_29 : decode cX4_partsInAll 29 = .ok (.iinc 1 1, 3) := dAt (x := (29, .iinc 1 1, 3)) DX4_partsInAll_0 17 rfl
theorem dX4_partsInAll_32 : decode cX4_partsInAll 32 = .ok (.aload_n 0, 1) := dAt (x := (32, .aload_n 0, 1)) DX4_partsInAll_0 18 rfl
theorem dX4_partsInAll_33 : decode cX4_partsInAll 33 = .ok (.iload_n 2, 1) := dAt (x := (33, .iload_n 2, 1)) DX4_partsInAll_0 19 rfl
theorem dX4_partsInAll_34 : decode cX4_partsInAll 34 = .ok (.invokevirtual 105, 3) := dAt (x := (34, .invokevirtual 105, 3)) DX4_partsInAll_0 20 rfl
theorem dX4_partsInAll_37 : decode cX4_partsInAll 37 = .ok (.aload_n 0, 1) := dAt (x := (37, .aload_n 0, 1)) DX4_partsInAll_0 21 rfl
theorem dX4_partsInAll_38 : decode cX4_partsInAll 38 = .ok (.invokevirtual 122, 3) := dAt (x := (38, .invokevirtual 122, 3)) DX4_partsInAll_0 22 rfl
theorem dX4_partsInAll_41 : decode cX4_partsInAll 41 = .ok (.iinc 2 1, 3) := dAt (x := (41, .iinc 2 1, 3)) DX4_partsInAll_0 23 rfl
theorem dX4_partsInAll_44 : decode cX4_partsInAll 44 = .ok (.goto (-32), 3) := dAt (x := (44, .goto (-32), 3)) DX4_partsInAll_0 24 rfl
theorem dX4_partsInAll_47 : decode cX4_partsInAll 47 = .ok (.iload_n 1, 1) := dAt (x := (47, .iload_n 1, 1)) DX4_partsInAll_0 25 rfl
theorem dX4_partsInAll_48 : decode cX4_partsInAll 48 = .ok (.ireturn, 1) := dAt (x := (48, .ireturn, 1)) DX4_partsInAll_0 26 rfl
def lDX4_markFound_0 : List (Nat × Instr × Nat) := [(0, .iconst 0, 1), (1, .istore_n 1, 1), (2, .iload_n 1, 1), (3, .aload_n 0, 1), (4, .getfield 77, 3), (7, .if_icmp .ge 28, 3), (10, .iload_n 1, 1), (11, .sipush 256, 3), (14, .if_icmp .ge 21, 3), (17, .aload_n 0, 1), (18, .getfield 21, 3), (21, .aload_n 0, 1), (22, .getfield 18, 3), (25, .iload_n 1, 1), (26, .iaload, 1), (27, .iconst 1, 1), (28, .iastore, 1), (29, .iinc 1 1, 3), (32, .goto (-30), 3), (35, .return_, 1)]
theorem DX4_markFound_0 : dAll cX4_markFound lDX4_markFound_0 = true := by decide +kernel
theorem dX4_markFound_0 : decode cX4_markFound 0 = .ok (.iconst 0, 1) := dAt (x := (0, .iconst 0, 1)) DX4_markFound_0 0 rfl
theorem dX4_markFound_1 : decode cX4_markFound 1 = .ok (.istore_n 1, 1) := dAt (x := (1, .istore_n 1, 1)) DX4_markFound_0 1 rfl
theorem dX4_markFound_2 : decode cX4_markFound 2 = .ok (.iload_n 1, 1) := dAt (x := (2, .iload_n 1, 1)) DX4_markFound_0 2 rfl
theorem dX4_markFound_3 : decode cX4_markFound 3 = .ok (.aload_n 0, 1) := dAt (x := (3, .aload_n 0, 1)) DX4_markFound_0 3 rfl
theorem dX4_markFound_4 : decode cX4_markFound 4 = .ok (.getfield 77, 3) := dAt (x := (4, .getfield 77, 3)) DX4_markFound_0 4 rfl
theorem dX4_markFound_7 : decode cX4_markFound 7 = .ok (.if_icmp .ge 28, 3) := dAt (x := (7, .if_icmp .ge 28, 3)) DX4_markFound_0 5 rfl
theorem dX4_markFound_10 : decode cX4_markFound 10 = .ok (.iload_n 1, 1) := dAt (x := (10, .iload_n 1, 1)) DX4_markFound_0 6 rfl
theorem dX4_markFound_11 : decode cX4_markFound 11 = .ok (.sipush 256, 3) := dAt (x := (11, .sipush 256, 3)) DX4_markFound_0 7 rfl
theorem dX4_markFound_14 : decode cX4_markFound 14 = .ok (.if_icmp .ge 21, 3) := dAt (x := (14, .if_icmp .ge 21, 3)) DX4_markFound_0 8 rfl
theorem dX4_markFound_17 : decode cX4_markFound 17 = .ok (.aload_n 0, 1) := dAt (x := (17, .aload_n 0, 1)) DX4_markFound_0 9 rfl
theorem dX4_markFound_18 : decode cX4_markFound 18 = .ok (.getfield 21, 3) := dAt (x := (18, .getfield 21, 3)) DX4_markFound_0 10 rfl
theorem dX4_markFound_21 : decode cX4_markFound 21 = .ok (.aload_n 0, 1) := dAt (x := (21, .aload_n 0, 1)) DX4_markFound_0 11 rfl
theorem dX4_markFound_22 : decode cX4_markFound 22 = .ok (.getfield 18, 3) := dAt (x := (22, .getfield 18, 3)) DX4_markFound_0 12 rfl
theorem dX4_markFound_25 : decode cX4_markFound 25 = .ok (.iload_n 1, 1) := dAt (x := (25, .iload_n 1, 1)) DX4_markFound_0 13 rfl
theorem dX4_markFound_26 : decode cX4_markFound 26 = .ok (.iaload, 1) := dAt (x := (26, .iaload, 1)) DX4_markFound_0 14 rfl
theorem dX4_markFound_27 : decode cX4_markFound 27 = .ok (.iconst 1, 1) := dAt (x := (27, .iconst 1, 1)) DX4_markFound_0 15 rfl
theorem dX4_markFound_28 : decode cX4_markFound 28 = .ok (.iastore, 1) := dAt (x := (28, .iastore, 1)) DX4_markFound_0 16 rfl
theorem dX4_markFound_29 : decode cX4_markFound 29 = .ok (.iinc 1 1, 3) := dAt (x := (29, .iinc 1 1, 3)) DX4_markFound_0 17 rfl
theorem dX4_markFound_32 : decode cX4_markFound 32 = .ok (.goto (-30), 3) := dAt (x := (32, .goto (-30), 3)) DX4_markFound_0 18 rfl
theorem dX4_markFound_35 : decode cX4_markFound 35 = .ok (.return_, 1) := dAt (x := (35, .return_, 1)) DX4_markFound_0 19 rfl
def lDX4_narrow_0 : List (Nat × Instr × Nat) := [(0, .aload_n 0, 1), (1, .iload_n 1, 1), (2, .invokevirtual 105, 3), (5, .aload_n 0, 1), (6, .iload_n 2, 1), (7, .invokevirtual 91, 3), (10, .ifCond .ne 5, 3), (13, .iconst (-1), 1), (14, .ireturn, 1), (15, .aload_n 0, 1), (16, .iload_n 2, 1), (17, .invokevirtual 67, 3), (20, .iconst 1, 1), (21, .isub, 1), (22, .sipush 256, 3), (25, .invokestatic 41, 3), (28, .istore 4, 2), (30, .iload_n 2, 1), (31, .istore 5, 2), (33, .iload 4, 2), (35, .istore 6, 2), (37, .iload 6, 2), (39, .ifCond .le 28, 3), (42, .aload_n 0, 1), (43, .iload 5, 2), (45, .invokevirtual 125, 3), (48, .istore 5, 2), (50, .aload_n 0, 1), (51, .getfield 21, 3), (54, .iload 6, 2), (56, .iconst 1, 1), (57, .isub, 1), (58, .iload 5, 2), (60, .iastore, 1), (61, .iinc 6 (-1), 3), (64, .goto (-27), 3), (67, .iload_n 3, 1), (68, .istore 6, 2), (70, .iconst 0, 1), (71, .istore 7, 2), (73, .iload 7, 2), (75, .iload 4, 2), (77, .if_icmp .ge 51, 3), (80, .aload_n 0, 1), (81, .aload_n 0, 1), (82, .getfield 21, 3), (85, .iload 7, 2), (87, .iaload, 1), (88, .iconst 0, 1), (89, .iconst 0, 1), (90, .invokevirtual 53, 3), (93, .aload_n 0, 1), (94, .iload_n 1, 1), (95, .invokevirtual 105, 3), (98, .aload_n 0, 1), (99, .iload_n 2, 1), (100, .invokevirtual 91, 3), (103, .ifCond .ne 19, 3), (106, .iload 6, 2), (108, .ifCond .ne 11, 3)]
theorem DX4_narrow_0 : dAll cX4_narrow lDX4_narrow_0 = true := by decide +kernel
theorem dX4_narrow_0 : decode cX4_narrow 0 = .ok (.aload_n 0, 1) := dAt (x := (0, .aload_n 0, 1)) DX4_narrow_0 0 rfl
theorem dX4_narrow_1 : decode cX4_narrow 1 = .ok (.iload_n 1, 1) := dAt (x := (1, .iload_n 1, 1)) DX4_narrow_0 1 rfl
theorem dX4_narrow_2 : decode cX4_narrow 2 = .ok (.invokevirtual 105, 3) := dAt (x := (2, .invokevirtual 105, 3)) DX4_narrow_0 2 rfl
theorem dX4_narrow_5 : decode cX4_narrow 5 = .ok (.aload_n 0, 1) := dAt (x := (5, .aload_n 0, 1)) DX4_narrow_0 3 rfl
theorem dX4_narrow_6 : decode cX4_narrow 6 = .ok (.iload_n 2, 1) := dAt (x := (6, .iload_n 2, 1)) DX4_narrow_0 4 rfl
theorem dX4_narrow_7 : decode cX4_narrow 7 = .ok (.invokevirtual 91, 3) := dAt (x := (7, .invokevirtual 91, 3)) DX4_narrow_0 5 rfl
theorem dX4_narrow_10 : decode cX4_narrow 10 = .ok (.ifCond .ne 5, 3) := dAt (x := (10, .ifCond .ne 5, 3)) DX4_narrow_0 6 rfl
theorem dX4_narrow_13 : decode cX4_narrow 13 = .ok (.iconst (-1), 1) := dAt (x := (13, .iconst (-1), 1)) DX4_narrow_0 7 rfl
theorem dX4_narrow_14 : decode cX4_narrow 14 = .ok (.ireturn, 1) := dAt (x := (14, .ireturn, 1)) DX4_narrow_0 8 rfl
theorem dX4_narrow_15 : decode cX4_narrow 15 = .ok (.aload_n 0, 1) := dAt (x := (15, .aload_n 0, 1)) DX4_narrow_0 9 rfl
theorem dX4_narrow_16 : decode cX4_narrow 16 = .ok (.iload_n 2, 1) := dAt (x := (16, .iload_n 2, 1)) DX4_narrow_0 10 rfl
theorem dX4_narrow_17 : decode cX4_narrow 17 = .ok (.invokevirtual 67, 3) := dAt (x := (17, .invokevirtual 67, 3)) DX4_narrow_0 11 rfl
theorem dX4_narrow_20 : decode cX4_narrow 20 = .ok (.iconst 1, 1) := dAt (x := (20, .iconst 1, 1)) DX4_narrow_0 12 rfl
theorem dX4_narrow_21 : decode cX4_narrow 21 = .ok (.isub, 1) := dAt (x := (21, .isub, 1)) DX4_narrow_0 13 rfl
theorem dX4_narrow_22 : decode cX4_narrow 22 = .ok (.sipush 256, 3) := dAt (x := (22, .sipush 256, 3)) DX4_narrow_0 14 rfl
theorem dX4_narrow_25 : decode cX4_narrow 25 = .ok (.invokestatic 41, 3) := dAt (x := (25, .invokestatic 41, 3)) DX4_narrow_0 15 rfl
theorem dX4_narrow_28 : decode cX4_narrow 28 = .ok (.istore 4, 2) := dAt (x := (28, .istore 4, 2)) DX4_narrow_0 16 rfl
theorem dX4_narrow_30 : decode cX4_narrow 30 = .ok (.iload_n 2, 1) := dAt (x := (30, .iload_n 2, 1)) DX4_narrow_0 17 rfl
theorem dX4_narrow_31 : decode cX4_narrow 31 = .ok (.istore 5, 2) := dAt (x := (31, .istore 5, 2)) DX4_narrow_0 18 rfl
theorem dX4_narrow_33 : decode cX4_narrow 33 = .ok (.iload 4, 2) := dAt (x := (33, .iload 4, 2)) DX4_narrow_0 19 rfl
theorem dX4_narrow_35 : decode cX4_narrow 35 = .ok (.istore 6, 2) := dAt (x := (35, .istore 6, 2)) DX4_narrow_0 20 rfl
theorem dX4_narrow_37 : decode cX4_narrow 37 = .ok (.iload 6, 2) := dAt (x := (37, .iload 6, 2)) DX4_narrow_0 21 rfl
theorem dX4_narrow_39 : decode cX4_narrow 39 = .ok (.ifCond .le 28, 3) := dAt (x := (39, .ifCond .le 28, 3)) DX4_narrow_0 22 rfl
theorem dX4_narrow_42 : decode cX4_narrow 42 = .ok (.aload_n 0, 1) := dAt (x := (42, .aload_n 0, 1)) DX4_narrow_0 23 rfl
theorem dX4_narrow_43 : decode cX4_narrow 43 = .ok (.iload 5, 2) := dAt (x := (43, .iload 5, 2)) DX4_narrow_0 24 rfl
theorem dX4_narrow_45 : decode cX4_narrow 45 = .ok (.invokevirtual 125, 3) := dAt (x := (45, .invokevirtual 125, 3)) DX4_narrow_0 25 rfl
theorem dX4_narrow_48 : decode cX4_narrow 48 = .ok (.istore 5, 2) := dAt (x := (48, .istore 5, 2)) DX4_narrow_0 26 rfl
theorem dX4_narrow_50 : decode cX4_narrow 50 = .ok (.aload_n 0, 1) := dAt (x := (50, .aload_n 0, 1)) DX4_narrow_0 27 rfl
theorem dX4_narrow_51 : decode cX4_narrow 51 = .ok (.getfield 21, 3) := dAt (x := (51, .getfield 21, 3)) DX4_narrow_0 28 rfl
theorem dX4_narrow_54 : decode cX4_narrow 54 = .ok (.iload 6, 2) := dAt (x := (54, .iload 6, 2)) DX4_narrow_0 29 rfl
theorem dX4_narrow_56 : decode cX4_narrow 56 = .ok (.iconst 1, 1) := dAt (x := (56, .iconst 1, 1)) DX4_narrow_0 30 rfl
theorem dX4_narrow_57 : decode cX4_narrow 57 = .ok (.isub, 1) := dAt (x := (57, .isub, 1)) DX4_narrow_0 31 rfl
theorem dX4_narrow_58 : decode cX4_narrow 58 = .ok (.iload 5, 2) := dAt (x := (58, .iload 5, 2)) DX4_narrow_0 32 rfl
theorem dX4_narrow_60 : decode cX4_narrow 60 = .ok (.iastore, 1) := dAt (x := (60, .iastore, 1)) DX4_narrow_0 33 rfl
theorem dX4_narrow_61 : decode cX4_narrow 61 = .ok (.iinc 6 (-1), 3) := dAt (x := (61, .iinc 6 (-1), 3)) DX4_narrow_0 34 rfl
theorem dX4_narrow_64 : decode cX4_narrow 64 = .ok (.goto (-27), 3) := dAt (x := (64, .goto (-27), 3)) DX4_narrow_0 35 rfl
theorem dX4_narrow_67 : decode cX4_narrow 67 = .ok (.iload_n 3, 1) := dAt (x := (67, .iload_n 3, 1)) DX4_narrow_0 36 rfl
theorem dX4_narrow_68 : decode cX4_narrow 68 = .ok (.istore 6, 2) := dAt (x := (68, .istore 6, 2)) DX4_narrow_0 37 rfl
theorem dX4_narrow_70 : decode cX4_narrow 70 = .ok (.iconst 0, 1) := dAt (x := (70, .iconst 0, 1)) DX4_narrow_0 38 rfl
theorem dX4_narrow_71 : decode cX4_narrow 71 = .ok (.istore 7, 2) := dAt (x := (71, .istore 7, 2)) DX4_narrow_0 39 rfl
theorem dX4_narrow_73 : decode cX4_narrow 73 = .ok (.iload 7, 2) := dAt (x := (73, .iload 7, 2)) DX4_narrow_0 40 rfl
theorem dX4_narrow_75 : decode cX4_narrow 75 = .ok (.iload 4, 2) := dAt (x := (75, .iload 4, 2)) DX4_narrow_0 41 rfl
theorem dX4_narrow_77 : decode cX4_narrow 77 = .ok (.if_icmp .ge 51, 3) := dAt (x := (77, .if_icmp .ge 51, 3)) DX4_narrow_0 42 rfl
theorem dX4_narrow_80 : decode cX4_narrow 80 = .ok (.aload_n 0, 1) := dAt (x := (80, .aload_n 0, 1)) DX4_narrow_0 43 rfl
theorem dX4_narrow_81 : decode cX4_narrow 81 = .ok (.aload_n 0, 1) := dAt (x := (81, .aload_n 0, 1)) DX4_narrow_0 44 rfl
theorem dX4_narrow_82 : decode cX4_narrow 82 = .ok (.getfield 21, 3) := dAt (x := (82, .getfield 21, 3)) DX4_narrow_0 45 rfl
theorem dX4_narrow_85 : decode cX4_narrow 85 = .ok (.iload 7, 2) := dAt (x := (85, .iload 7, 2)) DX4_narrow_0 46 rfl
theorem dX4_narrow_87 : decode cX4_narrow 87 = .ok (.iaload, 1) := dAt (x := (87, .iaload, 1)) DX4_narrow_0 47 rfl
theorem dX4_narrow_88 : decode cX4_narrow 88 = .ok (.iconst 0, 1) := dAt (x := (88, .iconst 0, 1)) DX4_narrow_0 48 rfl
theorem dX4_narrow_89 : decode cX4_narrow 89 = .ok (.iconst 0, 1) := dAt (x := (89, .iconst 0, 1)) DX4_narrow_0 49 rfl
theorem dX4_narrow_90 : decode cX4_narrow 90 = .ok (.invokevirtual 53, 3) := dAt (x := (90, .invokevirtual 53, 3)) DX4_narrow_0 50 rfl
theorem dX4_narrow_93 : decode cX4_narrow 93 = .ok (.aload_n 0, 1) := dAt (x := (93, .aload_n 0, 1)) DX4_narrow_0 51 rfl
theorem dX4_narrow_94 : decode cX4_narrow 94 = .ok (.iload_n 1, 1) := dAt (x := (94, .iload_n 1, 1)) DX4_narrow_0 52 rfl
theorem dX4_narrow_95 : decode cX4_narrow 95 = .ok (.invokevirtual 105, 3) := dAt (x := (95, .invokevirtual 105, 3)) DX4_narrow_0 53 rfl
theorem dX4_narrow_98 : decode cX4_narrow 98 = .ok (.aload_n 0, 1) := dAt (x := (98, .aload_n 0, 1)) DX4_narrow_0 54 rfl
theorem dX4_narrow_99 : decode cX4_narrow 99 = .ok (.iload_n 2, 1) := dAt (x := (99, .iload_n 2, 1)) DX4_narrow_0 55 rfl
theorem dX4_narrow_100 : decode cX4_narrow 100 = .ok (.invokevirtual 91, 3) := dAt (x := (100, .invokevirtual 91, 3)) DX4_narrow_0 56 rfl
theorem dX4_narrow_103 : decode cX4_narrow 103 = .ok (.ifCond .ne 19, 3) := dAt (x := (103, .ifCond .ne 19, 3)) DX4_narrow_0 57 rfl
theorem dX4_narrow_106 : decode cX4_narrow 106 = .ok (.iload 6, 2) := dAt (x := (106, .iload 6, 2)) DX4_narrow_0 58 rfl
theorem dX4_narrow_108 : decode cX4_narrow 108 = .ok (.ifCond .ne 11, 3) := dAt (x := (108, .ifCond .ne 11, 3)) DX4_narrow_0 59 rfl
def lDX4_narrow_1 : List (Nat × Instr × Nat) := [(111, .aload_n 0, 1), (112, .getfield 21, 3), (115, .iload 7, 2), (117, .iaload, 1), (118, .ireturn, 1), (119, .iinc 6 (-1), 3), (122, .iinc 7 1, 3), (125, .goto (-52), 3), (128, .bipush (-2), 2), (130, .ireturn, 1)]
theorem DX4_narrow_1 : dAll cX4_narrow lDX4_narrow_1 = true := by decide +kernel
theorem dX4_narrow_111 : decode cX4_narrow 111 = .ok (.aload_n 0, 1) := dAt (x := (111, .aload_n 0, 1)) DX4_narrow_1 0 rfl
theorem dX4_narrow_112 : decode cX4_narrow 112 = .ok (.getfield 21, 3) := dAt (x := (112, .getfield 21, 3)) DX4_narrow_1 1 rfl
theorem dX4_narrow_115 : decode cX4_narrow 115 = .ok (.iload 7, 2) := dAt (x := (115, .iload 7, 2)) DX4_narrow_1 2 rfl
theorem dX4_narrow_117 : decode cX4_narrow 117 = .ok (.iaload, 1) := dAt (x := (117, .iaload, 1)) DX4_narrow_1 3 rfl
theorem dX4_narrow_118 : decode cX4_narrow 118 = .ok (.ireturn, 1) := dAt (x := (118, .ireturn, 1)) DX4_narrow_1 4 rfl
theorem dX4_narrow_119 : decode cX4_narrow 119 = .ok (.iinc 6 (-1), 3) := dAt (x := (119, .iinc 6 (-1), 3)) DX4_narrow_1 5 rfl
theorem dX4_narrow_122 : decode cX4_narrow 122 = .ok (.iinc 7 1, 3) := dAt (x := (122, .iinc 7 1, 3)) DX4_narrow_1 6 rfl
theorem dX4_narrow_125 : decode cX4_narrow 125 = .ok (.goto (-52), 3) := dAt (x := (125, .goto (-52), 3)) DX4_narrow_1 7 rfl
theorem dX4_narrow_128 : decode cX4_narrow 128 = .ok (.bipush (-2), 2) := dAt (x := (128, .bipush (-2), 2)) DX4_narrow_1 8 rfl
theorem dX4_narrow_130 : decode cX4_narrow 130 = .ok (.ireturn, 1) := dAt (x := (130, .ireturn, 1)) DX4_narrow_1 9 rfl
def lDX4_oneBefore_0 : List (Nat × Instr × Nat) := [(0, .iconst 0, 1), (1, .istore_n 2, 1), (2, .iload_n 2, 1), (3, .aload_n 0, 1), (4, .getfield 40, 3), (7, .if_icmp .ge 28, 3), (10, .aload_n 0, 1), (11, .iload_n 1, 1), (12, .iconst 1, 1), (13, .iload_n 2, 1), (14, .ishl, 1), (15, .ixor, 1), (16, .iload_n 2, 1), (17, .invokevirtual 94, 3), (20, .ifCond .eq 9, 3), (23, .iload_n 1, 1), (24, .iconst 1, 1), (25, .iload_n 2, 1), (26, .ishl, 1), (27, .ixor, 1), (28, .ireturn, 1), (29, .iinc 2 1, 3), (32, .goto (-30), 3), (35, .iload_n 1, 1), (36, .ireturn, 1)]
theorem DX4_oneBefore_0 : dAll cX4_oneBefore lDX4_oneBefore_0 = true := by decide +kernel
theorem dX4_oneBefore_0 : decode cX4_oneBefore 0 = .ok (.iconst 0, 1) := dAt (x := (0, .iconst 0, 1)) DX4_oneBefore_0 0 rfl
theorem dX4_oneBefore_1 : decode cX4_oneBefore 1 = .ok (.istore_n 2, 1) := dAt (x := (1, .istore_n 2, 1)) DX4_oneBefore_0 1 rfl
theorem dX4_oneBefore_2 : decode cX4_oneBefore 2 = .ok (.iload_n 2, 1) := dAt (x := (2, .iload_n 2, 1)) DX4_oneBefore_0 2 rfl
theorem dX4_oneBefore_3 : decode cX4_oneBefore 3 = .ok (.aload_n 0, 1) := dAt (x := (3, .aload_n 0, 1)) DX4_oneBefore_0 3 rfl
theorem dX4_oneBefore_4 : decode cX4_oneBefore 4 = .ok (.getfield 40, 3) := dAt (x := (4, .getfield 40, 3)) DX4_oneBefore_0 4 rfl
theorem dX4_oneBefore_7 : decode cX4_oneBefore 7 = .ok (.if_icmp .ge 28, 3) := dAt (x := (7, .if_icmp .ge 28, 3)) DX4_oneBefore_0 5 rfl
theorem dX4_oneBefore_10 : decode cX4_oneBefore 10 = .ok (.aload_n 0, 1) := dAt (x := (10, .aload_n 0, 1)) DX4_oneBefore_0 6 rfl
theorem dX4_oneBefore_11 : decode cX4_oneBefore 11 = .ok (.iload_n 1, 1) := dAt (x := (11, .iload_n 1, 1)) DX4_oneBefore_0 7 rfl
theorem dX4_oneBefore_12 : decode cX4_oneBefore 12 = .ok (.iconst 1, 1) := dAt (x := (12, .iconst 1, 1)) DX4_oneBefore_0 8 rfl
theorem dX4_oneBefore_13 : decode cX4_oneBefore 13 = .ok (.iload_n 2, 1) := dAt (x := (13, .iload_n 2, 1)) DX4_oneBefore_0 9 rfl
theorem dX4_oneBefore_14 : decode cX4_oneBefore 14 = .ok (.ishl, 1) := dAt (x := (14, .ishl, 1)) DX4_oneBefore_0 10 rfl
theorem dX4_oneBefore_15 : decode cX4_oneBefore 15 = .ok (.ixor, 1) := dAt (x := (15, .ixor, 1)) DX4_oneBefore_0 11 rfl
theorem dX4_oneBefore_16 : decode cX4_oneBefore 16 = .ok (.iload_n 2, 1) := dAt (x := (16, .iload_n 2, 1)) DX4_oneBefore_0 12 rfl
theorem dX4_oneBefore_17 : decode cX4_oneBefore 17 = .ok (.invokevirtual 94, 3) := dAt (x := (17, .invokevirtual 94, 3)) DX4_oneBefore_0 13 rfl
theorem dX4_oneBefore_20 : decode cX4_oneBefore 20 = .ok (.ifCond .eq 9, 3) := dAt (x := (20, .ifCond .eq 9, 3)) DX4_oneBefore_0 14 rfl
theorem dX4_oneBefore_23 : decode cX4_oneBefore 23 = .ok (.iload_n 1, 1) := dAt (x := (23, .iload_n 1, 1)) DX4_oneBefore_0 15 rfl
theorem dX4_oneBefore_24 : decode cX4_oneBefore 24 = .ok (.iconst 1, 1) := dAt (x := (24, .iconst 1, 1)) DX4_oneBefore_0 16 rfl
theorem dX4_oneBefore_25 : decode cX4_oneBefore 25 = .ok (.iload_n 2, 1) := dAt (x := (25, .iload_n 2, 1)) DX4_oneBefore_0 17 rfl
theorem dX4_oneBefore_26 : decode cX4_oneBefore 26 = .ok (.ishl, 1) := dAt (x := (26, .ishl, 1)) DX4_oneBefore_0 18 rfl
theorem dX4_oneBefore_27 : decode cX4_oneBefore 27 = .ok (.ixor, 1) := dAt (x := (27, .ixor, 1)) DX4_oneBefore_0 19 rfl
theorem dX4_oneBefore_28 : decode cX4_oneBefore 28 = .ok (.ireturn, 1) := dAt (x := (28, .ireturn, 1)) DX4_oneBefore_0 20 rfl
theorem dX4_oneBefore_29 : decode cX4_oneBefore 29 = .ok (.iinc 2 1, 3) := dAt (x := (29, .iinc 2 1, 3)) DX4_oneBefore_0 21 rfl
theorem dX4_oneBefore_32 : decode cX4_oneBefore 32 = .ok (.goto (-30), 3) := dAt (x := (32, .goto (-30), 3)) DX4_oneBefore_0 22 rfl
theorem dX4_oneBefore_35 : decode cX4_oneBefore 35 = .ok (.iload_n 1, 1) := dAt (x := (35, .iload_n 1, 1)) DX4_oneBefore_0 23 rfl
theorem dX4_oneBefore_36 : decode cX4_oneBefore 36 = .ok (.ireturn, 1) := dAt (x := (36, .ireturn, 1)) DX4_oneBefore_0 24 rfl
def lDX4_needed_0 : List (Nat × Instr × Nat) := [(0, .aload_n 0, 1), (1, .iload_n 1, 1), (2, .invokevirtual 105, 3), (5, .aload_n 0, 1), (6, .iload_n 2, 1), (7, .invokevirtual 91, 3), (10, .ifCond .ne 6, 3), (13, .bipush (-2), 2), (15, .ireturn, 1), (16, .iconst 0, 1), (17, .istore_n 3, 1), (18, .iconst 0, 1), (19, .istore 4, 2), (21, .iload 4, 2), (23, .aload_n 0, 1), (24, .getfield 40, 3), (27, .if_icmp .ge 39, 3), (30, .aload_n 0, 1), (31, .iconst (-1), 1), (32, .iconst 1, 1), (33, .iload 4, 2), (35, .ishl, 1), (36, .iconst 0, 1), (37, .invokevirtual 53, 3), (40, .aload_n 0, 1), (41, .iload_n 1, 1), (42, .invokevirtual 105, 3), (45, .aload_n 0, 1), (46, .iload_n 2, 1), (47, .invokevirtual 91, 3), (50, .ifCond .ne 10, 3), (53, .iload_n 3, 1), (54, .iconst 1, 1), (55, .iload 4, 2), (57, .ishl, 1), (58, .ior, 1), (59, .istore_n 3, 1), (60, .iinc 4 1, 3), (63, .goto (-42), 3), (66, .iload_n 3, 1), (67, .ireturn, 1)]
theorem DX4_needed_0 : dAll cX4_needed lDX4_needed_0 = true := by decide +kernel
theorem dX4_needed_0 : decode cX4_needed 0 = .ok (.aload_n 0, 1) := dAt (x := (0, .aload_n 0, 1)) DX4_needed_0 0 rfl
theorem dX4_needed_1 : decode cX4_needed 1 = .ok (.iload_n 1, 1) := dAt (x := (1, .iload_n 1, 1)) DX4_needed_0 1 rfl
theorem dX4_needed_2 : decode cX4_needed 2 = .ok (.invokevirtual 105, 3) := dAt (x := (2, .invokevirtual 105, 3)) DX4_needed_0 2 rfl
theorem dX4_needed_5 : decode cX4_needed 5 = .ok (.aload_n 0, 1) := dAt (x := (5, .aload_n 0, 1)) DX4_needed_0 3 rfl
theorem dX4_needed_6 : decode cX4_needed 6 = .ok (.iload_n 2, 1) := dAt (x := (6, .iload_n 2, 1)) DX4_needed_0 4 rfl
theorem dX4_needed_7 : decode cX4_needed 7 = .ok (.invokevirtual 91, 3) := dAt (x := (7, .invokevirtual 91, 3)) DX4_needed_0 5 rfl
theorem dX4_needed_10 : decode cX4_needed 10 = .ok (.ifCond .ne 6, 3) := dAt (x := (10, .ifCond .ne 6, 3)) DX4_needed_0 6 rfl
theorem dX4_needed_13 : decode cX4_needed 13 = .ok (.bipush (-2), 2) := dAt (x := (13, .bipush (-2), 2)) DX4_needed_0 7 rfl
theorem dX4_needed_15 : decode cX4_needed 15 = .ok (.ireturn, 1) := dAt (x := (15, .ireturn, 1)) DX4_needed_0 8 rfl
theorem dX4_needed_16 : decode cX4_needed 16 = .ok (.iconst 0, 1) := dAt (x := (16, .iconst 0, 1)) DX4_needed_0 9 rfl
theorem dX4_needed_17 : decode cX4_needed 17 = .ok (.istore_n 3, 1) := dAt (x := (17, .istore_n 3, 1)) DX4_needed_0 10 rfl
theorem dX4_needed_18 : decode cX4_needed 18 = .ok (.iconst 0, 1) := dAt (x := (18, .iconst 0, 1)) DX4_needed_0 11 rfl
theorem dX4_needed_19 : decode cX4_needed 19 = .ok (.istore 4, 2) := dAt (x := (19, .istore 4, 2)) DX4_needed_0 12 rfl
theorem dX4_needed_21 : decode cX4_needed 21 = .ok (.iload 4, 2) := dAt (x := (21, .iload 4, 2)) DX4_needed_0 13 rfl
theorem dX4_needed_23 : decode cX4_needed 23 = .ok (.aload_n 0, 1) := dAt (x := (23, .aload_n 0, 1)) DX4_needed_0 14 rfl
theorem dX4_needed_24 : decode cX4_needed 24 = .ok (.getfield 40, 3) := dAt (x := (24, .getfield 40, 3)) DX4_needed_0 15 rfl
theorem dX4_needed_27 : decode cX4_needed 27 = .ok (.if_icmp .ge 39, 3) := dAt (x := (27, .if_icmp .ge 39, 3)) DX4_needed_0 16 rfl
theorem dX4_needed_30 : decode cX4_needed 30 = .ok (.aload_n 0, 1) := dAt (x := (30, .aload_n 0, 1)) DX4_needed_0 17 rfl
theorem dX4_needed_31 : decode cX4_needed 31 = .ok (.iconst (-1), 1) := dAt (x := (31, .iconst (-1), 1)) DX4_needed_0 18 rfl
theorem dX4_needed_32 : decode cX4_needed 32 = .ok (.iconst 1, 1) := dAt (x := (32, .iconst 1, 1)) DX4_needed_0 19 rfl
theorem dX4_needed_33 : decode cX4_needed 33 = .ok (.iload 4, 2) := dAt (x := (33, .iload 4, 2)) DX4_needed_0 20 rfl
theorem dX4_needed_35 : decode cX4_needed 35 = .ok (.ishl, 1) := dAt (x := (35, .ishl, 1)) DX4_needed_0 21 rfl
theorem dX4_needed_36 : decode cX4_needed 36 = .ok (.iconst 0, 1) := dAt (x := (36, .iconst 0, 1)) DX4_needed_0 22 rfl
theorem dX4_needed_37 : decode cX4_needed 37 = .ok (.invokevirtual 53, 3) := dAt (x := (37, .invokevirtual 53, 3)) DX4_needed_0 23 rfl
theorem dX4_needed_40 : decode cX4_needed 40 = .ok (.aload_n 0, 1) := dAt (x := (40, .aload_n 0, 1)) DX4_needed_0 24 rfl
theorem dX4_needed_41 : decode cX4_needed 41 = .ok (.iload_n 1, 1) := dAt (x := (41, .iload_n 1, 1)) DX4_needed_0 25 rfl
theorem dX4_needed_42 : decode cX4_needed 42 = .ok (.invokevirtual 105, 3) := dAt (x := (42, .invokevirtual 105, 3)) DX4_needed_0 26 rfl
theorem dX4_needed_45 : decode cX4_needed 45 = .ok (.aload_n 0, 1) := dAt (x := (45, .aload_n 0, 1)) DX4_needed_0 27 rfl
theorem dX4_needed_46 : decode cX4_needed 46 = .ok (.iload_n 2, 1) := dAt (x := (46, .iload_n 2, 1)) DX4_needed_0 28 rfl
theorem dX4_needed_47 : decode cX4_needed 47 = .ok (.invokevirtual 91, 3) := dAt (x := (47, .invokevirtual 91, 3)) DX4_needed_0 29 rfl
theorem dX4_needed_50 : decode cX4_needed 50 = .ok (.ifCond .ne 10, 3) := dAt (x := (50, .ifCond .ne 10, 3)) DX4_needed_0 30 rfl
theorem dX4_needed_53 : decode cX4_needed 53 = .ok (.iload_n 3, 1) := dAt (x := (53, .iload_n 3, 1)) DX4_needed_0 31 rfl
theorem dX4_needed_54 : decode cX4_needed 54 = .ok (.iconst 1, 1) := dAt (x := (54, .iconst 1, 1)) DX4_needed_0 32 rfl
theorem dX4_needed_55 : decode cX4_needed 55 = .ok (.iload 4, 2) := dAt (x := (55, .iload 4, 2)) DX4_needed_0 33 rfl
theorem dX4_needed_57 : decode cX4_needed 57 = .ok (.ishl, 1) := dAt (x := (57, .ishl, 1)) DX4_needed_0 34 rfl
theorem dX4_needed_58 : decode cX4_needed 58 = .ok (.ior, 1) := dAt (x := (58, .ior, 1)) DX4_needed_0 35 rfl
theorem dX4_needed_59 : decode cX4_needed 59 = .ok (.istore_n 3, 1) := dAt (x := (59, .istore_n 3, 1)) DX4_needed_0 36 rfl
theorem dX4_needed_60 : decode cX4_needed 60 = .ok (.iinc 4 1, 3) := dAt (x := (60, .iinc 4 1, 3)) DX4_needed_0 37 rfl
theorem dX4_needed_63 : decode cX4_needed 63 = .ok (.goto (-42), 3) := dAt (x := (63, .goto (-42), 3)) DX4_needed_0 38 rfl
theorem dX4_needed_66 : decode cX4_needed 66 = .ok (.iload_n 3, 1) := dAt (x := (66, .iload_n 3, 1)) DX4_needed_0 39 rfl
theorem dX4_needed_67 : decode cX4_needed 67 = .ok (.ireturn, 1) := dAt (x := (67, .ireturn, 1)) DX4_needed_0 40 rfl
def lDX4_stepsToMove_0 : List (Nat × Instr × Nat) := [(0, .iconst 0, 1), (1, .istore_n 2, 1), (2, .iload_n 2, 1), (3, .aload_n 0, 1), (4, .getfield 77, 3), (7, .if_icmp .ge 43, 3), (10, .iload_n 2, 1), (11, .sipush 256, 3), (14, .if_icmp .ge 36, 3), (17, .aload_n 0, 1), (18, .aload_n 0, 1), (19, .getfield 18, 3), (22, .iload_n 2, 1), (23, .iaload, 1), (24, .iload_n 1, 1), (25, .invokevirtual 87, 3), (28, .ifCond .eq 16, 3), (31, .aload_n 0, 1), (32, .aload_n 0, 1), (33, .getfield 18, 3), (36, .iload_n 2, 1), (37, .iaload, 1), (38, .invokevirtual 67, 3), (41, .iconst 1, 1), (42, .iadd, 1), (43, .ireturn, 1), (44, .iinc 2 1, 3), (47, .goto (-45), 3), (50, .bipush (-2), 2), (52, .ireturn, 1)]
theorem DX4_stepsToMove_0 : dAll cX4_stepsToMove lDX4_stepsToMove_0 = true := by decide +kernel
theorem dX4_stepsToMove_0 : decode cX4_stepsToMove 0 = .ok (.iconst 0, 1) := dAt (x := (0, .iconst 0, 1)) DX4_stepsToMove_0 0 rfl
theorem dX4_stepsToMove_1 : decode cX4_stepsToMove 1 = .ok (.istore_n 2, 1) := dAt (x := (1, .istore_n 2, 1)) DX4_stepsToMove_0 1 rfl
theorem dX4_stepsToMove_2 : decode cX4_stepsToMove 2 = .ok (.iload_n 2, 1) := dAt (x := (2, .iload_n 2, 1)) DX4_stepsToMove_0 2 rfl
theorem dX4_stepsToMove_3 : decode cX4_stepsToMove 3 = .ok (.aload_n 0, 1) := dAt (x := (3, .aload_n 0, 1)) DX4_stepsToMove_0 3 rfl
theorem dX4_stepsToMove_4 : decode cX4_stepsToMove 4 = .ok (.getfield 77, 3) := dAt (x := (4, .getfield 77, 3)) DX4_stepsToMove_0 4 rfl
theorem dX4_stepsToMove_7 : decode cX4_stepsToMove 7 = .ok (.if_icmp .ge 43, 3) := dAt (x := (7, .if_icmp .ge 43, 3)) DX4_stepsToMove_0 5 rfl
theorem dX4_stepsToMove_10 : decode cX4_stepsToMove 10 = .ok (.iload_n 2, 1) := dAt (x := (10, .iload_n 2, 1)) DX4_stepsToMove_0 6 rfl
theorem dX4_stepsToMove_11 : decode cX4_stepsToMove 11 = .ok (.sipush 256, 3) := dAt (x := (11, .sipush 256, 3)) DX4_stepsToMove_0 7 rfl
theorem dX4_stepsToMove_14 : decode cX4_stepsToMove 14 = .ok (.if_icmp .ge 36, 3) := dAt (x := (14, .if_icmp .ge 36, 3)) DX4_stepsToMove_0 8 rfl
theorem dX4_stepsToMove_17 : decode cX4_stepsToMove 17 = .ok (.aload_n 0, 1) := dAt (x := (17, .aload_n 0, 1)) DX4_stepsToMove_0 9 rfl
theorem dX4_stepsToMove_18 : decode cX4_stepsToMove 18 = .ok (.aload_n 0, 1) := dAt (x := (18, .aload_n 0, 1)) DX4_stepsToMove_0 10 rfl
theorem dX4_stepsToMove_19 : decode cX4_stepsToMove 19 = .ok (.getfield 18, 3) := dAt (x := (19, .getfield 18, 3)) DX4_stepsToMove_0 11 rfl
theorem dX4_stepsToMove_22 : decode cX4_stepsToMove 22 = .ok (.iload_n 2, 1) := dAt (x := (22, .iload_n 2, 1)) DX4_stepsToMove_0 12 rfl
theorem dX4_stepsToMove_23 : decode cX4_stepsToMove 23 = .ok (.iaload, 1) := dAt (x := (23, .iaload, 1)) DX4_stepsToMove_0 13 rfl
theorem dX4_stepsToMove_24 : decode cX4_stepsToMove 24 = .ok (.iload_n 1, 1) := dAt (x := (24, .iload_n 1, 1)) DX4_stepsToMove_0 14 rfl
theorem dX4_stepsToMove_25 : decode cX4_stepsToMove 25 = .ok (.invokevirtual 87, 3) := dAt (x := (25, .invokevirtual 87, 3)) DX4_stepsToMove_0 15 rfl
theorem dX4_stepsToMove_28 : decode cX4_stepsToMove 28 = .ok (.ifCond .eq 16, 3) := dAt (x := (28, .ifCond .eq 16, 3)) DX4_stepsToMove_0 16 rfl
theorem dX4_stepsToMove_31 : decode cX4_stepsToMove 31 = .ok (.aload_n 0, 1) := dAt (x := (31, .aload_n 0, 1)) DX4_stepsToMove_0 17 rfl
theorem dX4_stepsToMove_32 : decode cX4_stepsToMove 32 = .ok (.aload_n 0, 1) := dAt (x := (32, .aload_n 0, 1)) DX4_stepsToMove_0 18 rfl
theorem dX4_stepsToMove_33 : decode cX4_stepsToMove 33 = .ok (.getfield 18, 3) := dAt (x := (33, .getfield 18, 3)) DX4_stepsToMove_0 19 rfl
theorem dX4_stepsToMove_36 : decode cX4_stepsToMove 36 = .ok (.iload_n 2, 1) := dAt (x := (36, .iload_n 2, 1)) DX4_stepsToMove_0 20 rfl
theorem dX4_stepsToMove_37 : decode cX4_stepsToMove 37 = .ok (.iaload, 1) := dAt (x := (37, .iaload, 1)) DX4_stepsToMove_0 21 rfl
theorem dX4_stepsToMove_38 : decode cX4_stepsToMove 38 = .ok (.invokevirtual 67, 3) := dAt (x := (38, .invokevirtual 67, 3)) DX4_stepsToMove_0 22 rfl
theorem dX4_stepsToMove_41 : decode cX4_stepsToMove 41 = .ok (.iconst 1, 1) := dAt (x := (41, .iconst 1, 1)) DX4_stepsToMove_0 23 rfl
theorem dX4_stepsToMove_42 : decode cX4_stepsToMove 42 = .ok (.iadd, 1) := dAt (x := (42, .iadd, 1)) DX4_stepsToMove_0 24 rfl
theorem dX4_stepsToMove_43 : decode cX4_stepsToMove 43 = .ok (.ireturn, 1) := dAt (x := (43, .ireturn, 1)) DX4_stepsToMove_0 25 rfl
theorem dX4_stepsToMove_44 : decode cX4_stepsToMove 44 = .ok (.iinc 2 1, 3) := dAt (x := (44, .iinc 2 1, 3)) DX4_stepsToMove_0 26 rfl
theorem dX4_stepsToMove_47 : decode cX4_stepsToMove 47 = .ok (.goto (-45), 3) := dAt (x := (47, .goto (-45), 3)) DX4_stepsToMove_0 27 rfl
theorem dX4_stepsToMove_50 : decode cX4_stepsToMove 50 = .ok (.bipush (-2), 2) := dAt (x := (50, .bipush (-2), 2)) DX4_stepsToMove_0 28 rfl
theorem dX4_stepsToMove_52 : decode cX4_stepsToMove 52 = .ok (.ireturn, 1) := dAt (x := (52, .ireturn, 1)) DX4_stepsToMove_0 29 rfl
def lDX4_eased_0 : List (Nat × Instr × Nat) := [(0, .iconst 0, 1), (1, .istore 5, 2), (3, .iload 5, 2), (5, .aload_n 0, 1), (6, .getfield 40, 3), (9, .if_icmp .gt 76, 3), (12, .iconst 0, 1), (13, .istore 6, 2), (15, .iload 6, 2), (17, .aload_n 0, 1), (18, .getfield 47, 3), (21, .if_icmp .ge 58, 3), (24, .iload 6, 2), (26, .iload 4, 2), (28, .iconst (-1), 1), (29, .ixor, 1), (30, .iand, 1), (31, .iload 6, 2), (33, .iload_n 3, 1), (34, .iand, 1), (35, .ior, 1), (36, .ifCond .ne 37, 3), (39, .iload 6, 2), (41, .invokestatic 128, 3), (44, .iload 5, 2), (46, .if_icmp .ne 27, 3), (49, .aload_n 0, 1), (50, .iconst (-1), 1), (51, .iload_n 3, 1), (52, .iload 6, 2), (54, .invokevirtual 53, 3), (57, .aload_n 0, 1), (58, .iload_n 1, 1), (59, .invokevirtual 105, 3), (62, .aload_n 0, 1), (63, .iload_n 2, 1), (64, .invokevirtual 91, 3), (67, .ifCond .eq 6, 3), (70, .iload 6, 2), (72, .ireturn, 1), (73, .iinc 6 1, 3), (76, .goto (-61), 3), (79, .iinc 5 1, 3), (82, .goto (-79), 3), (85, .bipush (-2), 2), (87, .ireturn, 1)]
theorem DX4_eased_0 : dAll cX4_eased lDX4_eased_0 = true := by decide +kernel
theorem dX4_eased_0 : decode cX4_eased 0 = .ok (.iconst 0, 1) := dAt (x := (0, .iconst 0, 1)) DX4_eased_0 0 rfl
theorem dX4_eased_1 : decode cX4_eased 1 = .ok (.istore 5, 2) := dAt (x := (1, .istore 5, 2)) DX4_eased_0 1 rfl
theorem dX4_eased_3 : decode cX4_eased 3 = .ok (.iload 5, 2) := dAt (x := (3, .iload 5, 2)) DX4_eased_0 2 rfl
theorem dX4_eased_5 : decode cX4_eased 5 = .ok (.aload_n 0, 1) := dAt (x := (5, .aload_n 0, 1)) DX4_eased_0 3 rfl
theorem dX4_eased_6 : decode cX4_eased 6 = .ok (.getfield 40, 3) := dAt (x := (6, .getfield 40, 3)) DX4_eased_0 4 rfl
theorem dX4_eased_9 : decode cX4_eased 9 = .ok (.if_icmp .gt 76, 3) := dAt (x := (9, .if_icmp .gt 76, 3)) DX4_eased_0 5 rfl
theorem dX4_eased_12 : decode cX4_eased 12 = .ok (.iconst 0, 1) := dAt (x := (12, .iconst 0, 1)) DX4_eased_0 6 rfl
theorem dX4_eased_13 : decode cX4_eased 13 = .ok (.istore 6, 2) := dAt (x := (13, .istore 6, 2)) DX4_eased_0 7 rfl
theorem dX4_eased_15 : decode cX4_eased 15 = .ok (.iload 6, 2) := dAt (x := (15, .iload 6, 2)) DX4_eased_0 8 rfl
theorem dX4_eased_17 : decode cX4_eased 17 = .ok (.aload_n 0, 1) := dAt (x := (17, .aload_n 0, 1)) DX4_eased_0 9 rfl
theorem dX4_eased_18 : decode cX4_eased 18 = .ok (.getfield 47, 3) := dAt (x := (18, .getfield 47, 3)) DX4_eased_0 10 rfl
theorem dX4_eased_21 : decode cX4_eased 21 = .ok (.if_icmp .ge 58, 3) := dAt (x := (21, .if_icmp .ge 58, 3)) DX4_eased_0 11 rfl
theorem dX4_eased_24 : decode cX4_eased 24 = .ok (.iload 6, 2) := dAt (x := (24, .iload 6, 2)) DX4_eased_0 12 rfl
theorem dX4_eased_26 : decode cX4_eased 26 = .ok (.iload 4, 2) := dAt (x := (26, .iload 4, 2)) DX4_eased_0 13 rfl
theorem dX4_eased_28 : decode cX4_eased 28 = .ok (.iconst (-1), 1) := dAt (x := (28, .iconst (-1), 1)) DX4_eased_0 14 rfl
theorem dX4_eased_29 : decode cX4_eased 29 = .ok (.ixor, 1) := dAt (x := (29, .ixor, 1)) DX4_eased_0 15 rfl
theorem dX4_eased_30 : decode cX4_eased 30 = .ok (.iand, 1) := dAt (x := (30, .iand, 1)) DX4_eased_0 16 rfl
theorem dX4_eased_31 : decode cX4_eased 31 = .ok (.iload 6, 2) := dAt (x := (31, .iload 6, 2)) DX4_eased_0 17 rfl
theorem dX4_eased_33 : decode cX4_eased 33 = .ok (.iload_n 3, 1) := dAt (x := (33, .iload_n 3, 1)) DX4_eased_0 18 rfl
theorem dX4_eased_34 : decode cX4_eased 34 = .ok (.iand, 1) := dAt (x := (34, .iand, 1)) DX4_eased_0 19 rfl
theorem dX4_eased_35 : decode cX4_eased 35 = .ok (.ior, 1) := dAt (x := (35, .ior, 1)) DX4_eased_0 20 rfl
theorem dX4_eased_36 : decode cX4_eased 36 = .ok (.ifCond .ne 37, 3) := dAt (x := (36, .ifCond .ne 37, 3)) DX4_eased_0 21 rfl
theorem dX4_eased_39 : decode cX4_eased 39 = .ok (.iload 6, 2) := dAt (x := (39, .iload 6, 2)) DX4_eased_0 22 rfl
theorem dX4_eased_41 : decode cX4_eased 41 = .ok (.invokestatic 128, 3) := dAt (x := (41, .invokestatic 128, 3)) DX4_eased_0 23 rfl
theorem dX4_eased_44 : decode cX4_eased 44 = .ok (.iload 5, 2) := dAt (x := (44, .iload 5, 2)) DX4_eased_0 24 rfl
theorem dX4_eased_46 : decode cX4_eased 46 = .ok (.if_icmp .ne 27, 3) := dAt (x := (46, .if_icmp .ne 27, 3)) DX4_eased_0 25 rfl
theorem dX4_eased_49 : decode cX4_eased 49 = .ok (.aload_n 0, 1) := dAt (x := (49, .aload_n 0, 1)) DX4_eased_0 26 rfl
theorem dX4_eased_50 : decode cX4_eased 50 = .ok (.iconst (-1), 1) := dAt (x := (50, .iconst (-1), 1)) DX4_eased_0 27 rfl
theorem dX4_eased_51 : decode cX4_eased 51 = .ok (.iload_n 3, 1) := dAt (x := (51, .iload_n 3, 1)) DX4_eased_0 28 rfl
theorem dX4_eased_52 : decode cX4_eased 52 = .ok (.iload 6, 2) := dAt (x := (52, .iload 6, 2)) DX4_eased_0 29 rfl
theorem dX4_eased_54 : decode cX4_eased 54 = .ok (.invokevirtual 53, 3) := dAt (x := (54, .invokevirtual 53, 3)) DX4_eased_0 30 rfl
theorem dX4_eased_57 : decode cX4_eased 57 = .ok (.aload_n 0, 1) := dAt (x := (57, .aload_n 0, 1)) DX4_eased_0 31 rfl
theorem dX4_eased_58 : decode cX4_eased 58 = .ok (.iload_n 1, 1) := dAt (x := (58, .iload_n 1, 1)) DX4_eased_0 32 rfl
theorem dX4_eased_59 : decode cX4_eased 59 = .ok (.invokevirtual 105, 3) := dAt (x := (59, .invokevirtual 105, 3)) DX4_eased_0 33 rfl
theorem dX4_eased_62 : decode cX4_eased 62 = .ok (.aload_n 0, 1) := dAt (x := (62, .aload_n 0, 1)) DX4_eased_0 34 rfl
theorem dX4_eased_63 : decode cX4_eased 63 = .ok (.iload_n 2, 1) := dAt (x := (63, .iload_n 2, 1)) DX4_eased_0 35 rfl
theorem dX4_eased_64 : decode cX4_eased 64 = .ok (.invokevirtual 91, 3) := dAt (x := (64, .invokevirtual 91, 3)) DX4_eased_0 36 rfl
theorem dX4_eased_67 : decode cX4_eased 67 = .ok (.ifCond .eq 6, 3) := dAt (x := (67, .ifCond .eq 6, 3)) DX4_eased_0 37 rfl
theorem dX4_eased_70 : decode cX4_eased 70 = .ok (.iload 6, 2) := dAt (x := (70, .iload 6, 2)) DX4_eased_0 38 rfl
theorem dX4_eased_72 : decode cX4_eased 72 = .ok (.ireturn, 1) := dAt (x := (72, .ireturn, 1)) DX4_eased_0 39 rfl
theorem dX4_eased_73 : decode cX4_eased 73 = .ok (.iinc 6 1, 3) := dAt (x := (73, .iinc 6 1, 3)) DX4_eased_0 40 rfl
theorem dX4_eased_76 : decode cX4_eased 76 = .ok (.goto (-61), 3) := dAt (x := (76, .goto (-61), 3)) DX4_eased_0 41 rfl
theorem dX4_eased_79 : decode cX4_eased 79 = .ok (.iinc 5 1, 3) := dAt (x := (79, .iinc 5 1, 3)) DX4_eased_0 42 rfl
theorem dX4_eased_82 : decode cX4_eased 82 = .ok (.goto (-79), 3) := dAt (x := (82, .goto (-79), 3)) DX4_eased_0 43 rfl
theorem dX4_eased_85 : decode cX4_eased 85 = .ok (.bipush (-2), 2) := dAt (x := (85, .bipush (-2), 2)) DX4_eased_0 44 rfl
theorem dX4_eased_87 : decode cX4_eased 87 = .ok (.ireturn, 1) := dAt (x := (87, .ireturn, 1)) DX4_eased_0 45 rfl
def lDX4_winningLatch_0 : List (Nat × Instr × Nat) := [(0, .bipush (-2), 2), (2, .istore_n 2, 1), (3, .aload_n 0, 1), (4, .iload_n 1, 1), (5, .invokevirtual 63, 3), (8, .ifCond .ne 5, 3), (11, .iload_n 2, 1), (12, .ireturn, 1), (13, .aload_n 0, 1), (14, .getfield 47, 3), (17, .iconst 1, 1), (18, .isub, 1), (19, .istore_n 3, 1), (20, .iload_n 3, 1), (21, .iload_n 1, 1), (22, .if_icmp .lt 94, 3), (25, .bipush (-2), 2), (27, .istore_n 2, 1), (28, .aload_n 0, 1), (29, .getfield 40, 3), (32, .iconst 1, 1), (33, .isub, 1), (34, .istore 4, 2), (36, .iload 4, 2), (38, .ifCond .lt 55, 3), (41, .iload_n 3, 1), (42, .iconst 1, 1), (43, .iload 4, 2), (45, .ishl, 1), (46, .ior, 1), (47, .istore 5, 2), (49, .iload 5, 2), (51, .iload_n 3, 1), (52, .if_icmp .eq 35, 3), (55, .aload_n 0, 1), (56, .iload_n 3, 1), (57, .iload 4, 2), (59, .invokevirtual 87, 3), (62, .ifCond .eq 25, 3), (65, .aload_n 0, 1), (66, .iload 5, 2), (68, .invokevirtual 63, 3), (71, .ifCond .eq 16, 3), (74, .aload_n 0, 1), (75, .getfield 21, 3), (78, .iload 5, 2), (80, .iaload, 1), (81, .ifCond .ne 6, 3), (84, .iload 4, 2), (86, .istore_n 2, 1), (87, .iinc 4 (-1), 3), (90, .goto (-54), 3), (93, .aload_n 0, 1), (94, .getfield 21, 3), (97, .iload_n 3, 1), (98, .iload_n 2, 1), (99, .bipush (-2), 2), (101, .if_icmp .ne 7, 3), (104, .iconst 0, 1), (105, .goto 4, 3)]
theorem DX4_winningLatch_0 : dAll cX4_winningLatch lDX4_winningLatch_0 = true := by decide +kernel
theorem dX4_winningLatch_0 : decode cX4_winningLatch 0 = .ok (.bipush (-2), 2) := dAt (x := (0, .bipush (-2), 2)) DX4_winningLatch_0 0 rfl
theorem dX4_winningLatch_2 : decode cX4_winningLatch 2 = .ok (.istore_n 2, 1) := dAt (x := (2, .istore_n 2, 1)) DX4_winningLatch_0 1 rfl
theorem dX4_winningLatch_3 : decode cX4_winningLatch 3 = .ok (.aload_n 0, 1) := dAt (x := (3, .aload_n 0, 1)) DX4_winningLatch_0 2 rfl
theorem dX4_winningLatch_4 : decode cX4_winningLatch 4 = .ok (.iload_n 1, 1) := dAt (x := (4, .iload_n 1, 1)) DX4_winningLatch_0 3 rfl
theorem dX4_winningLatch_5 : decode cX4_winningLatch 5 = .ok (.invokevirtual 63, 3) := dAt (x := (5, .invokevirtual 63, 3)) DX4_winningLatch_0 4 rfl
theorem dX4_winningLatch_8 : decode cX4_winningLatch 8 = .ok (.ifCond .ne 5, 3) := dAt (x := (8, .ifCond .ne 5, 3)) DX4_winningLatch_0 5 rfl
theorem dX4_winningLatch_11 : decode cX4_winningLatch 11 = .ok (.iload_n 2, 1) := dAt (x := (11, .iload_n 2, 1)) DX4_winningLatch_0 6 rfl
theorem dX4_winningLatch_12 : decode cX4_winningLatch 12 = .ok (.ireturn, 1) := dAt (x := (12, .ireturn, 1)) DX4_winningLatch_0 7 rfl
theorem dX4_winningLatch_13 : decode cX4_winningLatch 13 = .ok (.aload_n 0, 1) := dAt (x := (13, .aload_n 0, 1)) DX4_winningLatch_0 8 rfl
theorem dX4_winningLatch_14 : decode cX4_winningLatch 14 = .ok (.getfield 47, 3) := dAt (x := (14, .getfield 47, 3)) DX4_winningLatch_0 9 rfl
theorem dX4_winningLatch_17 : decode cX4_winningLatch 17 = .ok (.iconst 1, 1) := dAt (x := (17, .iconst 1, 1)) DX4_winningLatch_0 10 rfl
theorem dX4_winningLatch_18 : decode cX4_winningLatch 18 = .ok (.isub, 1) := dAt (x := (18, .isub, 1)) DX4_winningLatch_0 11 rfl
theorem dX4_winningLatch_19 : decode cX4_winningLatch 19 = .ok (.istore_n 3, 1) := dAt (x := (19, .istore_n 3, 1)) DX4_winningLatch_0 12 rfl
theorem dX4_winningLatch_20 : decode cX4_winningLatch 20 = .ok (.iload_n 3, 1) := dAt (x := (20, .iload_n 3, 1)) DX4_winningLatch_0 13 rfl
theorem dX4_winningLatch_21 : decode cX4_winningLatch 21 = .ok (.iload_n 1, 1) := dAt (x := (21, .iload_n 1, 1)) DX4_winningLatch_0 14 rfl
theorem dX4_winningLatch_22 : decode cX4_winningLatch 22 = .ok (.if_icmp .lt 94, 3) := dAt (x := (22, .if_icmp .lt 94, 3)) DX4_winningLatch_0 15 rfl
theorem dX4_winningLatch_25 : decode cX4_winningLatch 25 = .ok (.bipush (-2), 2) := dAt (x := (25, .bipush (-2), 2)) DX4_winningLatch_0 16 rfl
theorem dX4_winningLatch_27 : decode cX4_winningLatch 27 = .ok (.istore_n 2, 1) := dAt (x := (27, .istore_n 2, 1)) DX4_winningLatch_0 17 rfl
theorem dX4_winningLatch_28 : decode cX4_winningLatch 28 = .ok (.aload_n 0, 1) := dAt (x := (28, .aload_n 0, 1)) DX4_winningLatch_0 18 rfl
theorem dX4_winningLatch_29 : decode cX4_winningLatch 29 = .ok (.getfield 40, 3) := dAt (x := (29, .getfield 40, 3)) DX4_winningLatch_0 19 rfl
theorem dX4_winningLatch_32 : decode cX4_winningLatch 32 = .ok (.iconst 1, 1) := dAt (x := (32, .iconst 1, 1)) DX4_winningLatch_0 20 rfl
theorem dX4_winningLatch_33 : decode cX4_winningLatch 33 = .ok (.isub, 1) := dAt (x := (33, .isub, 1)) DX4_winningLatch_0 21 rfl
theorem dX4_winningLatch_34 : decode cX4_winningLatch 34 = .ok (.istore 4, 2) := dAt (x := (34, .istore 4, 2)) DX4_winningLatch_0 22 rfl
theorem dX4_winningLatch_36 : decode cX4_winningLatch 36 = .ok (.iload 4, 2) := dAt (x := (36, .iload 4, 2)) DX4_winningLatch_0 23 rfl
theorem dX4_winningLatch_38 : decode cX4_winningLatch 38 = .ok (.ifCond .lt 55, 3) := dAt (x := (38, .ifCond .lt 55, 3)) DX4_winningLatch_0 24 rfl
theorem dX4_winningLatch_41 : decode cX4_winningLatch 41 = .ok (.iload_n 3, 1) := dAt (x := (41, .iload_n 3, 1)) DX4_winningLatch_0 25 rfl
theorem dX4_winningLatch_42 : decode cX4_winningLatch 42 = .ok (.iconst 1, 1) := dAt (x := (42, .iconst 1, 1)) DX4_winningLatch_0 26 rfl
theorem dX4_winningLatch_43 : decode cX4_winningLatch 43 = .ok (.iload 4, 2) := dAt (x := (43, .iload 4, 2)) DX4_winningLatch_0 27 rfl
theorem dX4_winningLatch_45 : decode cX4_winningLatch 45 = .ok (.ishl, 1) := dAt (x := (45, .ishl, 1)) DX4_winningLatch_0 28 rfl
theorem dX4_winningLatch_46 : decode cX4_winningLatch 46 = .ok (.ior, 1) := dAt (x := (46, .ior, 1)) DX4_winningLatch_0 29 rfl
theorem dX4_winningLatch_47 : decode cX4_winningLatch 47 = .ok (.istore 5, 2) := dAt (x := (47, .istore 5, 2)) DX4_winningLatch_0 30 rfl
theorem dX4_winningLatch_49 : decode cX4_winningLatch 49 = .ok (.iload 5, 2) := dAt (x := (49, .iload 5, 2)) DX4_winningLatch_0 31 rfl
theorem dX4_winningLatch_51 : decode cX4_winningLatch 51 = .ok (.iload_n 3, 1) := dAt (x := (51, .iload_n 3, 1)) DX4_winningLatch_0 32 rfl
theorem dX4_winningLatch_52 : decode cX4_winningLatch 52 = .ok (.if_icmp .eq 35, 3) := dAt (x := (52, .if_icmp .eq 35, 3)) DX4_winningLatch_0 33 rfl
theorem dX4_winningLatch_55 : decode cX4_winningLatch 55 = .ok (.aload_n 0, 1) := dAt (x := (55, .aload_n 0, 1)) DX4_winningLatch_0 34 rfl
theorem dX4_winningLatch_56 : decode cX4_winningLatch 56 = .ok (.iload_n 3, 1) := dAt (x := (56, .iload_n 3, 1)) DX4_winningLatch_0 35 rfl
theorem dX4_winningLatch_57 : decode cX4_winningLatch 57 = .ok (.iload 4, 2) := dAt (x := (57, .iload 4, 2)) DX4_winningLatch_0 36 rfl
theorem dX4_winningLatch_59 : decode cX4_winningLatch 59 = .ok (.invokevirtual 87, 3) := dAt (x := (59, .invokevirtual 87, 3)) DX4_winningLatch_0 37 rfl
theorem dX4_winningLatch_62 : decode cX4_winningLatch 62 = .ok (.ifCond .eq 25, 3) := dAt (x := (62, .ifCond .eq 25, 3)) DX4_winningLatch_0 38 rfl
theorem dX4_winningLatch_65 : decode cX4_winningLatch 65 = .ok (.aload_n 0, 1) := dAt (x := (65, .aload_n 0, 1)) DX4_winningLatch_0 39 rfl
theorem dX4_winningLatch_66 : decode cX4_winningLatch 66 = .ok (.iload 5, 2) := dAt (x := (66, .iload 5, 2)) DX4_winningLatch_0 40 rfl
theorem dX4_winningLatch_68 : decode cX4_winningLatch 68 = .ok (.invokevirtual 63, 3) := dAt (x := (68, .invokevirtual 63, 3)) DX4_winningLatch_0 41 rfl
theorem dX4_winningLatch_71 : decode cX4_winningLatch 71 = .ok (.ifCond .eq 16, 3) := dAt (x := (71, .ifCond .eq 16, 3)) DX4_winningLatch_0 42 rfl
theorem dX4_winningLatch_74 : decode cX4_winningLatch 74 = .ok (.aload_n 0, 1) := dAt (x := (74, .aload_n 0, 1)) DX4_winningLatch_0 43 rfl
theorem dX4_winningLatch_75 : decode cX4_winningLatch 75 = .ok (.getfield 21, 3) := dAt (x := (75, .getfield 21, 3)) DX4_winningLatch_0 44 rfl
theorem dX4_winningLatch_78 : decode cX4_winningLatch 78 = .ok (.iload 5, 2) := dAt (x := (78, .iload 5, 2)) DX4_winningLatch_0 45 rfl
theorem dX4_winningLatch_80 : decode cX4_winningLatch 80 = .ok (.iaload, 1) := dAt (x := (80, .iaload, 1)) DX4_winningLatch_0 46 rfl
theorem dX4_winningLatch_81 : decode cX4_winningLatch 81 = .ok (.ifCond .ne 6, 3) := dAt (x := (81, .ifCond .ne 6, 3)) DX4_winningLatch_0 47 rfl
theorem dX4_winningLatch_84 : decode cX4_winningLatch 84 = .ok (.iload 4, 2) := dAt (x := (84, .iload 4, 2)) DX4_winningLatch_0 48 rfl
theorem dX4_winningLatch_86 : decode cX4_winningLatch 86 = .ok (.istore_n 2, 1) := dAt (x := (86, .istore_n 2, 1)) DX4_winningLatch_0 49 rfl
theorem dX4_winningLatch_87 : decode cX4_winningLatch 87 = .ok (.iinc 4 (-1), 3) := dAt (x := (87, .iinc 4 (-1), 3)) DX4_winningLatch_0 50 rfl
theorem dX4_winningLatch_90 : decode cX4_winningLatch 90 = .ok (.goto (-54), 3) := dAt (x := (90, .goto (-54), 3)) DX4_winningLatch_0 51 rfl
theorem dX4_winningLatch_93 : decode cX4_winningLatch 93 = .ok (.aload_n 0, 1) := dAt (x := (93, .aload_n 0, 1)) DX4_winningLatch_0 52 rfl
theorem dX4_winningLatch_94 : decode cX4_winningLatch 94 = .ok (.getfield 21, 3) := dAt (x := (94, .getfield 21, 3)) DX4_winningLatch_0 53 rfl
theorem dX4_winningLatch_97 : decode cX4_winningLatch 97 = .ok (.iload_n 3, 1) := dAt (x := (97, .iload_n 3, 1)) DX4_winningLatch_0 54 rfl
theorem dX4_winningLatch_98 : decode cX4_winningLatch 98 = .ok (.iload_n 2, 1) := dAt (x := (98, .iload_n 2, 1)) DX4_winningLatch_0 55 rfl
theorem dX4_winningLatch_99 : decode cX4_winningLatch 99 = .ok (.bipush (-2), 2) := dAt (x := (99, .bipush (-2), 2)) DX4_winningLatch_0 56 rfl
theorem dX4_winningLatch_101 : decode cX4_winningLatch 101 = .ok (.if_icmp .ne 7, 3) := dAt (x := (101, .if_icmp .ne 7, 3)) DX4_winningLatch_0 57 rfl
theorem dX4_winningLatch_104 : decode cX4_winningLatch 104 = .ok (.iconst 0, 1) := dAt (x := (104, .iconst 0, 1)) DX4_winningLatch_0 58 rfl
theorem dX4_winningLatch_105 : decode cX4_winningLatch 105 = .ok (.goto 4, 3) := dAt (x := (105, .goto 4, 3)) DX4_winningLatch_0 59 rfl
def lDX4_winningLatch_1 : List (Nat × Instr × Nat) := [(108, .iconst 1, 1), (109, .iastore, 1), (110, .iinc 3 (-1), 3), (113, .goto (-93), 3), (116, .iload_n 2, 1), (117, .ireturn, 1)]
theorem DX4_winningLatch_1 : dAll cX4_winningLatch lDX4_winningLatch_1 = true := by decide +kernel
theorem dX4_winningLatch_108 : decode cX4_winningLatch 108 = .ok (.iconst 1, 1) := dAt (x := (108, .iconst 1, 1)) DX4_winningLatch_1 0 rfl
theorem dX4_winningLatch_109 : decode cX4_winningLatch 109 = .ok (.iastore, 1) := dAt (x := (109, .iastore, 1)) DX4_winningLatch_1 1 rfl
theorem dX4_winningLatch_110 : decode cX4_winningLatch 110 = .ok (.iinc 3 (-1), 3) := dAt (x := (110, .iinc 3 (-1), 3)) DX4_winningLatch_1 2 rfl
theorem dX4_winningLatch_113 : decode cX4_winningLatch 113 = .ok (.goto (-93), 3) := dAt (x := (113, .goto (-93), 3)) DX4_winningLatch_1 3 rfl
theorem dX4_winningLatch_116 : decode cX4_winningLatch 116 = .ok (.iload_n 2, 1) := dAt (x := (116, .iload_n 2, 1)) DX4_winningLatch_1 4 rfl
theorem dX4_winningLatch_117 : decode cX4_winningLatch 117 = .ok (.ireturn, 1) := dAt (x := (117, .ireturn, 1)) DX4_winningLatch_1 5 rfl
def lDX4_drunkTo_0 : List (Nat × Instr × Nat) := [(0, .aload_n 0, 1), (1, .iload_n 1, 1), (2, .invokevirtual 63, 3), (5, .ifCond .eq 11, 3), (8, .aload_n 0, 1), (9, .iload_n 2, 1), (10, .invokevirtual 63, 3), (13, .ifCond .ne 5, 3), (16, .lconst 0, 1), (17, .lreturn, 1), (18, .aload_n 0, 1), (19, .getfield 24, 3), (22, .lconst 0, 1), (23, .invokestatic 97, 3), (26, .aload_n 0, 1), (27, .getfield 24, 3), (30, .iload_n 1, 1), (31, .lconst 1, 1), (32, .lastore, 1), (33, .iconst 0, 1), (34, .istore 4, 2), (36, .iload 4, 2), (38, .iload_n 3, 1), (39, .if_icmp .ge 69, 3), (42, .aload_n 0, 1), (43, .getfield 28, 3), (46, .lconst 0, 1), (47, .invokestatic 97, 3), (50, .iconst 0, 1), (51, .istore 5, 2), (53, .iload 5, 2), (55, .aload_n 0, 1), (56, .getfield 47, 3), (59, .if_icmp .ge 27, 3), (62, .aload_n 0, 1), (63, .getfield 24, 3), (66, .iload 5, 2), (68, .laload, 1), (69, .lconst 0, 1), (70, .lcmp, 1), (71, .ifCond .eq 9, 3), (74, .aload_n 0, 1), (75, .iload 5, 2), (77, .invokevirtual 133, 3), (80, .iinc 5 1, 3), (83, .goto (-30), 3), (86, .aload_n 0, 1), (87, .getfield 28, 3), (90, .iconst 0, 1), (91, .aload_n 0, 1), (92, .getfield 24, 3), (95, .iconst 0, 1), (96, .sipush 256, 3), (99, .invokestatic 109, 3), (102, .iinc 4 1, 3), (105, .goto (-69), 3), (108, .aload_n 0, 1), (109, .getfield 24, 3), (112, .iload_n 2, 1), (113, .laload, 1)]
theorem DX4_drunkTo_0 : dAll cX4_drunkTo lDX4_drunkTo_0 = true := by decide +kernel
theorem dX4_drunkTo_0 : decode cX4_drunkTo 0 = .ok (.aload_n 0, 1) := dAt (x := (0, .aload_n 0, 1)) DX4_drunkTo_0 0 rfl
theorem dX4_drunkTo_1 : decode cX4_drunkTo 1 = .ok (.iload_n 1, 1) := dAt (x := (1, .iload_n 1, 1)) DX4_drunkTo_0 1 rfl
theorem dX4_drunkTo_2 : decode cX4_drunkTo 2 = .ok (.invokevirtual 63, 3) := dAt (x := (2, .invokevirtual 63, 3)) DX4_drunkTo_0 2 rfl
theorem dX4_drunkTo_5 : decode cX4_drunkTo 5 = .ok (.ifCond .eq 11, 3) := dAt (x := (5, .ifCond .eq 11, 3)) DX4_drunkTo_0 3 rfl
theorem dX4_drunkTo_8 : decode cX4_drunkTo 8 = .ok (.aload_n 0, 1) := dAt (x := (8, .aload_n 0, 1)) DX4_drunkTo_0 4 rfl
theorem dX4_drunkTo_9 : decode cX4_drunkTo 9 = .ok (.iload_n 2, 1) := dAt (x := (9, .iload_n 2, 1)) DX4_drunkTo_0 5 rfl
theorem dX4_drunkTo_10 : decode cX4_drunkTo 10 = .ok (.invokevirtual 63, 3) := dAt (x := (10, .invokevirtual 63, 3)) DX4_drunkTo_0 6 rfl
theorem dX4_drunkTo_13 : decode cX4_drunkTo 13 = .ok (.ifCond .ne 5, 3) := dAt (x := (13, .ifCond .ne 5, 3)) DX4_drunkTo_0 7 rfl
theorem dX4_drunkTo_16 : decode cX4_drunkTo 16 = .ok (.lconst 0, 1) := dAt (x := (16, .lconst 0, 1)) DX4_drunkTo_0 8 rfl
theorem dX4_drunkTo_17 : decode cX4_drunkTo 17 = .ok (.lreturn, 1) := dAt (x := (17, .lreturn, 1)) DX4_drunkTo_0 9 rfl
theorem dX4_drunkTo_18 : decode cX4_drunkTo 18 = .ok (.aload_n 0, 1) := dAt (x := (18, .aload_n 0, 1)) DX4_drunkTo_0 10 rfl
theorem dX4_drunkTo_19 : decode cX4_drunkTo 19 = .ok (.getfield 24, 3) := dAt (x := (19, .getfield 24, 3)) DX4_drunkTo_0 11 rfl
theorem dX4_drunkTo_22 : decode cX4_drunkTo 22 = .ok (.lconst 0, 1) := dAt (x := (22, .lconst 0, 1)) DX4_drunkTo_0 12 rfl
theorem dX4_drunkTo_23 : decode cX4_drunkTo 23 = .ok (.invokestatic 97, 3) := dAt (x := (23, .invokestatic 97, 3)) DX4_drunkTo_0 13 rfl
theorem dX4_drunkTo_26 : decode cX4_drunkTo 26 = .ok (.aload_n 0, 1) := dAt (x := (26, .aload_n 0, 1)) DX4_drunkTo_0 14 rfl
theorem dX4_drunkTo_27 : decode cX4_drunkTo 27 = .ok (.getfield 24, 3) := dAt (x := (27, .getfield 24, 3)) DX4_drunkTo_0 15 rfl
theorem dX4_drunkTo_30 : decode cX4_drunkTo 30 = .ok (.iload_n 1, 1) := dAt (x := (30, .iload_n 1, 1)) DX4_drunkTo_0 16 rfl
theorem dX4_drunkTo_31 : decode cX4_drunkTo 31 = .ok (.lconst 1, 1) := dAt (x := (31, .lconst 1, 1)) DX4_drunkTo_0 17 rfl
theorem dX4_drunkTo_32 : decode cX4_drunkTo 32 = .ok (.lastore, 1) := dAt (x := (32, .lastore, 1)) DX4_drunkTo_0 18 rfl
theorem dX4_drunkTo_33 : decode cX4_drunkTo 33 = .ok (.iconst 0, 1) := dAt (x := (33, .iconst 0, 1)) DX4_drunkTo_0 19 rfl
theorem dX4_drunkTo_34 : decode cX4_drunkTo 34 = .ok (.istore 4, 2) := dAt (x := (34, .istore 4, 2)) DX4_drunkTo_0 20 rfl
theorem dX4_drunkTo_36 : decode cX4_drunkTo 36 = .ok (.iload 4, 2) := dAt (x := (36, .iload 4, 2)) DX4_drunkTo_0 21 rfl
theorem dX4_drunkTo_38 : decode cX4_drunkTo 38 = .ok (.iload_n 3, 1) := dAt (x := (38, .iload_n 3, 1)) DX4_drunkTo_0 22 rfl
theorem dX4_drunkTo_39 : decode cX4_drunkTo 39 = .ok (.if_icmp .ge 69, 3) := dAt (x := (39, .if_icmp .ge 69, 3)) DX4_drunkTo_0 23 rfl
theorem dX4_drunkTo_42 : decode cX4_drunkTo 42 = .ok (.aload_n 0, 1) := dAt (x := (42, .aload_n 0, 1)) DX4_drunkTo_0 24 rfl
theorem dX4_drunkTo_43 : decode cX4_drunkTo 43 = .ok (.getfield 28, 3) := dAt (x := (43, .getfield 28, 3)) DX4_drunkTo_0 25 rfl
theorem dX4_drunkTo_46 : decode cX4_drunkTo 46 = .ok (.lconst 0, 1) := dAt (x := (46, .lconst 0, 1)) DX4_drunkTo_0 26 rfl
theorem dX4_drunkTo_47 : decode cX4_drunkTo 47 = .ok (.invokestatic 97, 3) := dAt (x := (47, .invokestatic 97, 3)) DX4_drunkTo_0 27 rfl
theorem dX4_drunkTo_50 : decode cX4_drunkTo 50 = .ok (.iconst 0, 1) := dAt (x := (50, .iconst 0, 1)) DX4_drunkTo_0 28 rfl
theorem dX4_drunkTo_51 : decode cX4_drunkTo 51 = .ok (.istore 5, 2) := dAt (x := (51, .istore 5, 2)) DX4_drunkTo_0 29 rfl
theorem dX4_drunkTo_53 : decode cX4_drunkTo 53 = .ok (.iload 5, 2) := dAt (x := (53, .iload 5, 2)) DX4_drunkTo_0 30 rfl
theorem dX4_drunkTo_55 : decode cX4_drunkTo 55 = .ok (.aload_n 0, 1) := dAt (x := (55, .aload_n 0, 1)) DX4_drunkTo_0 31 rfl
theorem dX4_drunkTo_56 : decode cX4_drunkTo 56 = .ok (.getfield 47, 3) := dAt (x := (56, .getfield 47, 3)) DX4_drunkTo_0 32 rfl
theorem dX4_drunkTo_59 : decode cX4_drunkTo 59 = .ok (.if_icmp .ge 27, 3) := dAt (x := (59, .if_icmp .ge 27, 3)) DX4_drunkTo_0 33 rfl
theorem dX4_drunkTo_62 : decode cX4_drunkTo 62 = .ok (.aload_n 0, 1) := dAt (x := (62, .aload_n 0, 1)) DX4_drunkTo_0 34 rfl
theorem dX4_drunkTo_63 : decode cX4_drunkTo 63 = .ok (.getfield 24, 3) := dAt (x := (63, .getfield 24, 3)) DX4_drunkTo_0 35 rfl
theorem dX4_drunkTo_66 : decode cX4_drunkTo 66 = .ok (.iload 5, 2) := dAt (x := (66, .iload 5, 2)) DX4_drunkTo_0 36 rfl
theorem dX4_drunkTo_68 : decode cX4_drunkTo 68 = .ok (.laload, 1) := dAt (x := (68, .laload, 1)) DX4_drunkTo_0 37 rfl
theorem dX4_drunkTo_69 : decode cX4_drunkTo 69 = .ok (.lconst 0, 1) := dAt (x := (69, .lconst 0, 1)) DX4_drunkTo_0 38 rfl
theorem dX4_drunkTo_70 : decode cX4_drunkTo 70 = .ok (.lcmp, 1) := dAt (x := (70, .lcmp, 1)) DX4_drunkTo_0 39 rfl
theorem dX4_drunkTo_71 : decode cX4_drunkTo 71 = .ok (.ifCond .eq 9, 3) := dAt (x := (71, .ifCond .eq 9, 3)) DX4_drunkTo_0 40 rfl
theorem dX4_drunkTo_74 : decode cX4_drunkTo 74 = .ok (.aload_n 0, 1) := dAt (x := (74, .aload_n 0, 1)) DX4_drunkTo_0 41 rfl
theorem dX4_drunkTo_75 : decode cX4_drunkTo 75 = .ok (.iload 5, 2) := dAt (x := (75, .iload 5, 2)) DX4_drunkTo_0 42 rfl
theorem dX4_drunkTo_77 : decode cX4_drunkTo 77 = .ok (.invokevirtual 133, 3) := dAt (x := (77, .invokevirtual 133, 3)) DX4_drunkTo_0 43 rfl
theorem dX4_drunkTo_80 : decode cX4_drunkTo 80 = .ok (.iinc 5 1, 3) := dAt (x := (80, .iinc 5 1, 3)) DX4_drunkTo_0 44 rfl
theorem dX4_drunkTo_83 : decode cX4_drunkTo 83 = .ok (.goto (-30), 3) := dAt (x := (83, .goto (-30), 3)) DX4_drunkTo_0 45 rfl
theorem dX4_drunkTo_86 : decode cX4_drunkTo 86 = .ok (.aload_n 0, 1) := dAt (x := (86, .aload_n 0, 1)) DX4_drunkTo_0 46 rfl
theorem dX4_drunkTo_87 : decode cX4_drunkTo 87 = .ok (.getfield 28, 3) := dAt (x := (87, .getfield 28, 3)) DX4_drunkTo_0 47 rfl
theorem dX4_drunkTo_90 : decode cX4_drunkTo 90 = .ok (.iconst 0, 1) := dAt (x := (90, .iconst 0, 1)) DX4_drunkTo_0 48 rfl
theorem dX4_drunkTo_91 : decode cX4_drunkTo 91 = .ok (.aload_n 0, 1) := dAt (x := (91, .aload_n 0, 1)) DX4_drunkTo_0 49 rfl
theorem dX4_drunkTo_92 : decode cX4_drunkTo 92 = .ok (.getfield 24, 3) := dAt (x := (92, .getfield 24, 3)) DX4_drunkTo_0 50 rfl
theorem dX4_drunkTo_95 : decode cX4_drunkTo 95 = .ok (.iconst 0, 1) := dAt (x := (95, .iconst 0, 1)) DX4_drunkTo_0 51 rfl
theorem dX4_drunkTo_96 : decode cX4_drunkTo 96 = .ok (.sipush 256, 3) := dAt (x := (96, .sipush 256, 3)) DX4_drunkTo_0 52 rfl
theorem dX4_drunkTo_99 : decode cX4_drunkTo 99 = .ok (.invokestatic 109, 3) := dAt (x := (99, .invokestatic 109, 3)) DX4_drunkTo_0 53 rfl
theorem dX4_drunkTo_102 : decode cX4_drunkTo 102 = .ok (.iinc 4 1, 3) := dAt (x := (102, .iinc 4 1, 3)) DX4_drunkTo_0 54 rfl
theorem dX4_drunkTo_105 : decode cX4_drunkTo 105 = .ok (.goto (-69), 3) := dAt (x := (105, .goto (-69), 3)) DX4_drunkTo_0 55 rfl
theorem dX4_drunkTo_108 : decode cX4_drunkTo 108 = .ok (.aload_n 0, 1) := dAt (x := (108, .aload_n 0, 1)) DX4_drunkTo_0 56 rfl
theorem dX4_drunkTo_109 : decode cX4_drunkTo 109 = .ok (.getfield 24, 3) := dAt (x := (109, .getfield 24, 3)) DX4_drunkTo_0 57 rfl
theorem dX4_drunkTo_112 : decode cX4_drunkTo 112 = .ok (.iload_n 2, 1) := dAt (x := (112, .iload_n 2, 1)) DX4_drunkTo_0 58 rfl
theorem dX4_drunkTo_113 : decode cX4_drunkTo 113 = .ok (.laload, 1) := dAt (x := (113, .laload, 1)) DX4_drunkTo_0 59 rfl
def lDX4_drunkTo_1 : List (Nat × Instr × Nat) := [(114, .lreturn, 1)]
theorem DX4_drunkTo_1 : dAll cX4_drunkTo lDX4_drunkTo_1 = true := by decide +kernel
theorem dX4_drunkTo_114 : decode cX4_drunkTo 114 = .ok (.lreturn, 1) := dAt (x := (114, .lreturn, 1)) DX4_drunkTo_1 0 rfl
def lDX4_spill_0 : List (Nat × Instr × Nat) := [(0, .aload_n 0, 1), (1, .getfield 9, 3), (4, .iload_n 1, 1), (5, .iaload, 1), (6, .invokestatic 128, 3), (9, .istore_n 2, 1), (10, .iload_n 2, 1), (11, .ifCond .ne 23, 3), (14, .aload_n 0, 1), (15, .getfield 28, 3), (18, .iload_n 1, 1), (19, .dup2, 1), (20, .laload, 1), (21, .aload_n 0, 1), (22, .getfield 24, 3), (25, .iload_n 1, 1), (26, .laload, 1), (27, .ldc2_w 136, 3), (30, .lmul, 1), (31, .ladd, 1), (32, .lastore, 1), (33, .return_, 1), (34, .aload_n 0, 1), (35, .getfield 24, 3), (38, .iload_n 1, 1), (39, .laload, 1), (40, .sipush 840, 3), (43, .iload_n 2, 1), (44, .idiv, 1), (45, .i2l, 1), (46, .lmul, 1), (47, .lstore_n 3, 1), (48, .iconst 0, 1), (49, .istore 5, 2), (51, .iload 5, 2), (53, .aload_n 0, 1), (54, .getfield 40, 3), (57, .if_icmp .ge 47, 3), (60, .iload_n 1, 1), (61, .iconst 1, 1), (62, .iload 5, 2), (64, .ishl, 1), (65, .ixor, 1), (66, .istore 6, 2), (68, .aload_n 0, 1), (69, .iload_n 1, 1), (70, .iload 5, 2), (72, .invokevirtual 87, 3), (75, .ifCond .eq 23, 3), (78, .aload_n 0, 1), (79, .iload 6, 2), (81, .invokevirtual 63, 3), (84, .ifCond .eq 14, 3), (87, .aload_n 0, 1), (88, .getfield 28, 3), (91, .iload 6, 2), (93, .dup2, 1), (94, .laload, 1), (95, .lload_n 3, 1), (96, .ladd, 1)]
theorem DX4_spill_0 : dAll cX4_spill lDX4_spill_0 = true := by decide +kernel
theorem dX4_spill_0 : decode cX4_spill 0 = .ok (.aload_n 0, 1) := dAt (x := (0, .aload_n 0, 1)) DX4_spill_0 0 rfl
theorem dX4_spill_1 : decode cX4_spill 1 = .ok (.getfield 9, 3) := dAt (x := (1, .getfield 9, 3)) DX4_spill_0 1 rfl
theorem dX4_spill_4 : decode cX4_spill 4 = .ok (.iload_n 1, 1) := dAt (x := (4, .iload_n 1, 1)) DX4_spill_0 2 rfl
theorem dX4_spill_5 : decode cX4_spill 5 = .ok (.iaload, 1) := dAt (x := (5, .iaload, 1)) DX4_spill_0 3 rfl
theorem dX4_spill_6 : decode cX4_spill 6 = .ok (.invokestatic 128, 3) := dAt (x := (6, .invokestatic 128, 3)) DX4_spill_0 4 rfl
theorem dX4_spill_9 : decode cX4_spill 9 = .ok (.istore_n 2, 1) := dAt (x := (9, .istore_n 2, 1)) DX4_spill_0 5 rfl
theorem dX4_spill_10 : decode cX4_spill 10 = .ok (.iload_n 2, 1) := dAt (x := (10, .iload_n 2, 1)) DX4_spill_0 6 rfl
theorem dX4_spill_11 : decode cX4_spill 11 = .ok (.ifCond .ne 23, 3) := dAt (x := (11, .ifCond .ne 23, 3)) DX4_spill_0 7 rfl
theorem dX4_spill_14 : decode cX4_spill 14 = .ok (.aload_n 0, 1) := dAt (x := (14, .aload_n 0, 1)) DX4_spill_0 8 rfl
theorem dX4_spill_15 : decode cX4_spill 15 = .ok (.getfield 28, 3) := dAt (x := (15, .getfield 28, 3)) DX4_spill_0 9 rfl
theorem dX4_spill_18 : decode cX4_spill 18 = .ok (.iload_n 1, 1) := dAt (x := (18, .iload_n 1, 1)) DX4_spill_0 10 rfl
theorem dX4_spill_19 : decode cX4_spill 19 = .ok (.dup2, 1) := dAt (x := (19, .dup2, 1)) DX4_spill_0 11 rfl
theorem dX4_spill_20 : decode cX4_spill 20 = .ok (.laload, 1) := dAt (x := (20, .laload, 1)) DX4_spill_0 12 rfl
theorem dX4_spill_21 : decode cX4_spill 21 = .ok (.aload_n 0, 1) := dAt (x := (21, .aload_n 0, 1)) DX4_spill_0 13 rfl
theorem dX4_spill_22 : decode cX4_spill 22 = .ok (.getfield 24, 3) := dAt (x := (22, .getfield 24, 3)) DX4_spill_0 14 rfl
theorem dX4_spill_25 : decode cX4_spill 25 = .ok (.iload_n 1, 1) := dAt (x := (25, .iload_n 1, 1)) DX4_spill_0 15 rfl
theorem dX4_spill_26 : decode cX4_spill 26 = .ok (.laload, 1) := dAt (x := (26, .laload, 1)) DX4_spill_0 16 rfl
theorem dX4_spill_27 : decode cX4_spill 27 = .ok (.ldc2_w 136, 3) := dAt (x := (27, .ldc2_w 136, 3)) DX4_spill_0 17 rfl
theorem dX4_spill_30 : decode cX4_spill 30 = .ok (.lmul, 1) := dAt (x := (30, .lmul, 1)) DX4_spill_0 18 rfl
theorem dX4_spill_31 : decode cX4_spill 31 = .ok (.ladd, 1) := dAt (x := (31, .ladd, 1)) DX4_spill_0 19 rfl
theorem dX4_spill_32 : decode cX4_spill 32 = .ok (.lastore, 1) := dAt (x := (32, .lastore, 1)) DX4_spill_0 20 rfl
theorem dX4_spill_33 : decode cX4_spill 33 = .ok (.return_, 1) := dAt (x := (33, .return_, 1)) DX4_spill_0 21 rfl
theorem dX4_spill_34 : decode cX4_spill 34 = .ok (.aload_n 0, 1) := dAt (x := (34, .aload_n 0, 1)) DX4_spill_0 22 rfl
theorem dX4_spill_35 : decode cX4_spill 35 = .ok (.getfield 24, 3) := dAt (x := (35, .getfield 24, 3)) DX4_spill_0 23 rfl
theorem dX4_spill_38 : decode cX4_spill 38 = .ok (.iload_n 1, 1) := dAt (x := (38, .iload_n 1, 1)) DX4_spill_0 24 rfl
theorem dX4_spill_39 : decode cX4_spill 39 = .ok (.laload, 1) := dAt (x := (39, .laload, 1)) DX4_spill_0 25 rfl
theorem dX4_spill_40 : decode cX4_spill 40 = .ok (.sipush 840, 3) := dAt (x := (40, .sipush 840, 3)) DX4_spill_0 26 rfl
theorem dX4_spill_43 : decode cX4_spill 43 = .ok (.iload_n 2, 1) := dAt (x := (43, .iload_n 2, 1)) DX4_spill_0 27 rfl
theorem dX4_spill_44 : decode cX4_spill 44 = .ok (.idiv, 1) := dAt (x := (44, .idiv, 1)) DX4_spill_0 28 rfl
theorem dX4_spill_45 : decode cX4_spill 45 = .ok (.i2l, 1) := dAt (x := (45, .i2l, 1)) DX4_spill_0 29 rfl
theorem dX4_spill_46 : decode cX4_spill 46 = .ok (.lmul, 1) := dAt (x := (46, .lmul, 1)) DX4_spill_0 30 rfl
theorem dX4_spill_47 : decode cX4_spill 47 = .ok (.lstore_n 3, 1) := dAt (x := (47, .lstore_n 3, 1)) DX4_spill_0 31 rfl
theorem dX4_spill_48 : decode cX4_spill 48 = .ok (.iconst 0, 1) := dAt (x := (48, .iconst 0, 1)) DX4_spill_0 32 rfl
theorem dX4_spill_49 : decode cX4_spill 49 = .ok (.istore 5, 2) := dAt (x := (49, .istore 5, 2)) DX4_spill_0 33 rfl
theorem dX4_spill_51 : decode cX4_spill 51 = .ok (.iload 5, 2) := dAt (x := (51, .iload 5, 2)) DX4_spill_0 34 rfl
theorem dX4_spill_53 : decode cX4_spill 53 = .ok (.aload_n 0, 1) := dAt (x := (53, .aload_n 0, 1)) DX4_spill_0 35 rfl
theorem dX4_spill_54 : decode cX4_spill 54 = .ok (.getfield 40, 3) := dAt (x := (54, .getfield 40, 3)) DX4_spill_0 36 rfl
theorem dX4_spill_57 : decode cX4_spill 57 = .ok (.if_icmp .ge 47, 3) := dAt (x := (57, .if_icmp .ge 47, 3)) DX4_spill_0 37 rfl
theorem dX4_spill_60 : decode cX4_spill 60 = .ok (.iload_n 1, 1) := dAt (x := (60, .iload_n 1, 1)) DX4_spill_0 38 rfl
theorem dX4_spill_61 : decode cX4_spill 61 = .ok (.iconst 1, 1) := dAt (x := (61, .iconst 1, 1)) DX4_spill_0 39 rfl
theorem dX4_spill_62 : decode cX4_spill 62 = .ok (.iload 5, 2) := dAt (x := (62, .iload 5, 2)) DX4_spill_0 40 rfl
theorem dX4_spill_64 : decode cX4_spill 64 = .ok (.ishl, 1) := dAt (x := (64, .ishl, 1)) DX4_spill_0 41 rfl
theorem dX4_spill_65 : decode cX4_spill 65 = .ok (.ixor, 1) := dAt (x := (65, .ixor, 1)) DX4_spill_0 42 rfl
theorem dX4_spill_66 : decode cX4_spill 66 = .ok (.istore 6, 2) := dAt (x := (66, .istore 6, 2)) DX4_spill_0 43 rfl
theorem dX4_spill_68 : decode cX4_spill 68 = .ok (.aload_n 0, 1) := dAt (x := (68, .aload_n 0, 1)) DX4_spill_0 44 rfl
theorem dX4_spill_69 : decode cX4_spill 69 = .ok (.iload_n 1, 1) := dAt (x := (69, .iload_n 1, 1)) DX4_spill_0 45 rfl
theorem dX4_spill_70 : decode cX4_spill 70 = .ok (.iload 5, 2) := dAt (x := (70, .iload 5, 2)) DX4_spill_0 46 rfl
theorem dX4_spill_72 : decode cX4_spill 72 = .ok (.invokevirtual 87, 3) := dAt (x := (72, .invokevirtual 87, 3)) DX4_spill_0 47 rfl
theorem dX4_spill_75 : decode cX4_spill 75 = .ok (.ifCond .eq 23, 3) := dAt (x := (75, .ifCond .eq 23, 3)) DX4_spill_0 48 rfl
theorem dX4_spill_78 : decode cX4_spill 78 = .ok (.aload_n 0, 1) := dAt (x := (78, .aload_n 0, 1)) DX4_spill_0 49 rfl
theorem dX4_spill_79 : decode cX4_spill 79 = .ok (.iload 6, 2) := dAt (x := (79, .iload 6, 2)) DX4_spill_0 50 rfl
theorem dX4_spill_81 : decode cX4_spill 81 = .ok (.invokevirtual 63, 3) := dAt (x := (81, .invokevirtual 63, 3)) DX4_spill_0 51 rfl
theorem dX4_spill_84 : decode cX4_spill 84 = .ok (.ifCond .eq 14, 3) := dAt (x := (84, .ifCond .eq 14, 3)) DX4_spill_0 52 rfl
theorem dX4_spill_87 : decode cX4_spill 87 = .ok (.aload_n 0, 1) := dAt (x := (87, .aload_n 0, 1)) DX4_spill_0 53 rfl
theorem dX4_spill_88 : decode cX4_spill 88 = .ok (.getfield 28, 3) := dAt (x := (88, .getfield 28, 3)) DX4_spill_0 54 rfl
theorem dX4_spill_91 : decode cX4_spill 91 = .ok (.iload 6, 2) := dAt (x := (91, .iload 6, 2)) DX4_spill_0 55 rfl
theorem dX4_spill_93 : decode cX4_spill 93 = .ok (.dup2, 1) := dAt (x := (93, .dup2, 1)) DX4_spill_0 56 rfl
theorem dX4_spill_94 : decode cX4_spill 94 = .ok (.laload, 1) := dAt (x := (94, .laload, 1)) DX4_spill_0 57 rfl
theorem dX4_spill_95 : decode cX4_spill 95 = .ok (.lload_n 3, 1) := dAt (x := (95, .lload_n 3, 1)) DX4_spill_0 58 rfl
theorem dX4_spill_96 : decode cX4_spill 96 = .ok (.ladd, 1) := dAt (x := (96, .ladd, 1)) DX4_spill_0 59 rfl
