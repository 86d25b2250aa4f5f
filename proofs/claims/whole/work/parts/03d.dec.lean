def lDX11_fault_0 : List (Nat × Instr × Nat) := [(0, .aload_n 0, 1), (1, .iconst 0, 1), (2, .putfield 160, 3), (5, .iload_n 1, 1), (6, .ifCond .ne 10, 3), (9, .aload_n 0, 1), (10, .getfield 166, 3), (13, .goto 16, 3), (16, .iload_n 1, 1), (17, .iconst 1, 1), (18, .if_icmp .ne 10, 3), (21, .aload_n 0, 1), (22, .getfield 16, 3), (25, .goto 4, 3), (28, .iconst (-1), 1), (29, .ireturn, 1)]
theorem DX11_fault_0 : dAll cX11_fault lDX11_fault_0 = true := by decide +kernel
theorem dX11_fault_0 : decode cX11_fault 0 = .ok (.aload_n 0, 1) := dAt (x := (0, .aload_n 0, 1)) DX11_fault_0 0 rfl
theorem dX11_fault_1 : decode cX11_fault 1 = .ok (.iconst 0, 1) := dAt (x := (1, .iconst 0, 1)) DX11_fault_0 1 rfl
theorem dX11_fault_2 : decode cX11_fault 2 = .ok (.putfield 160, 3) := dAt (x := (2, .putfield 160, 3)) DX11_fault_0 2 rfl
theorem dX11_fault_5 : decode cX11_fault 5 = .ok (.iload_n 1, 1) := dAt (x := (5, .iload_n 1, 1)) DX11_fault_0 3 rfl
theorem dX11_fault_6 : decode cX11_fault 6 = .ok (.ifCond .ne 10, 3) := dAt (x := (6, .ifCond .ne 10, 3)) DX11_fault_0 4 rfl
theorem dX11_fault_9 : decode cX11_fault 9 = .ok (.aload_n 0, 1) := dAt (x := (9, .aload_n 0, 1)) DX11_fault_0 5 rfl
theorem dX11_fault_10 : decode cX11_fault 10 = .ok (.getfield 166, 3) := dAt (x := (10, .getfield 166, 3)) DX11_fault_0 6 rfl
theorem dX11_fault_13 : decode cX11_fault 13 = .ok (.goto 16, 3) := dAt (x := (13, .goto 16, 3)) DX11_fault_0 7 rfl
theorem dX11_fault_16 : decode cX11_fault 16 = .ok (.iload_n 1, 1) := dAt (x := (16, .iload_n 1, 1)) DX11_fault_0 8 rfl
theorem dX11_fault_17 : decode cX11_fault 17 = .ok (.iconst 1, 1) := dAt (x := (17, .iconst 1, 1)) DX11_fault_0 9 rfl
theorem dX11_fault_18 : decode cX11_fault 18 = .ok (.if_icmp .ne 10, 3) := dAt (x := (18, .if_icmp .ne 10, 3)) DX11_fault_0 10 rfl
theorem dX11_fault_21 : decode cX11_fault 21 = .ok (.aload_n 0, 1) := dAt (x := (21, .aload_n 0, 1)) DX11_fault_0 11 rfl
theorem dX11_fault_22 : decode cX11_fault 22 = .ok (.getfield 16, 3) := dAt (x := (22, .getfield 16, 3)) DX11_fault_0 12 rfl
theorem dX11_fault_25 : decode cX11_fault 25 = .ok (.goto 4, 3) := dAt (x := (25, .goto 4, 3)) DX11_fault_0 13 rfl
theorem dX11_fault_28 : decode cX11_fault 28 = .ok (.iconst (-1), 1) := dAt (x := (28, .iconst (-1), 1)) DX11_fault_0 14 rfl
theorem dX11_fault_29 : decode cX11_fault 29 = .ok (.ireturn, 1) := dAt (x := (29, .ireturn, 1)) DX11_fault_0 15 rfl
def lDX11_named_0 : List (Nat × Instr × Nat) := [(0, .aload_n 0, 1), (1, .iconst 0, 1), (2, .putfield 160, 3), (5, .aload_n 0, 1), (6, .getfield 27, 3), (9, .iconst 0, 1), (10, .aload_n 0, 1), (11, .getfield 240, 3), (14, .iload_n 1, 1), (15, .invokestatic 265, 3), (18, .ireturn, 1)]
theorem DX11_named_0 : dAll cX11_named lDX11_named_0 = true := by decide +kernel
theorem dX11_named_0 : decode cX11_named 0 = .ok (.aload_n 0, 1) := dAt (x := (0, .aload_n 0, 1)) DX11_named_0 0 rfl
theorem dX11_named_1 : decode cX11_named 1 = .ok (.iconst 0, 1) := dAt (x := (1, .iconst 0, 1)) DX11_named_0 1 rfl
theorem dX11_named_2 : decode cX11_named 2 = .ok (.putfield 160, 3) := dAt (x := (2, .putfield 160, 3)) DX11_named_0 2 rfl
theorem dX11_named_5 : decode cX11_named 5 = .ok (.aload_n 0, 1) := dAt (x := (5, .aload_n 0, 1)) DX11_named_0 3 rfl
theorem dX11_named_6 : decode cX11_named 6 = .ok (.getfield 27, 3) := dAt (x := (6, .getfield 27, 3)) DX11_named_0 4 rfl
theorem dX11_named_9 : decode cX11_named 9 = .ok (.iconst 0, 1) := dAt (x := (9, .iconst 0, 1)) DX11_named_0 5 rfl
theorem dX11_named_10 : decode cX11_named 10 = .ok (.aload_n 0, 1) := dAt (x := (10, .aload_n 0, 1)) DX11_named_0 6 rfl
theorem dX11_named_11 : decode cX11_named 11 = .ok (.getfield 240, 3) := dAt (x := (11, .getfield 240, 3)) DX11_named_0 7 rfl
theorem dX11_named_14 : decode cX11_named 14 = .ok (.iload_n 1, 1) := dAt (x := (14, .iload_n 1, 1)) DX11_named_0 8 rfl
theorem dX11_named_15 : decode cX11_named 15 = .ok (.invokestatic 265, 3) := dAt (x := (15, .invokestatic 265, 3)) DX11_named_0 9 rfl
theorem dX11_named_18 : decode cX11_named 18 = .ok (.ireturn, 1) := dAt (x := (18, .ireturn, 1)) DX11_named_0 10 rfl
def lDX11_standing_0 : List (Nat × Instr × Nat) := [(0, .iload_n 0, 1), (1, .bipush 13, 2), (3, .if_icmp .lt 8, 3), (6, .bipush 6, 2), (8, .goto 50, 3), (11, .iload_n 0, 1), (12, .bipush 11, 2), (14, .if_icmp .lt 7, 3), (17, .iconst 5, 1), (18, .goto 40, 3), (21, .iload_n 0, 1), (22, .iconst 5, 1), (23, .if_icmp .lt 7, 3), (26, .iconst 4, 1), (27, .goto 31, 3), (30, .iload_n 0, 1), (31, .iconst 2, 1), (32, .if_icmp .ne 7, 3), (35, .iconst 3, 1), (36, .goto 22, 3), (39, .iload_n 0, 1), (40, .iconst 3, 1), (41, .if_icmp .ne 7, 3), (44, .iconst 2, 1), (45, .goto 13, 3), (48, .iload_n 0, 1), (49, .iconst 4, 1), (50, .if_icmp .ne 7, 3), (53, .iconst 1, 1), (54, .goto 4, 3), (57, .iconst 0, 1), (58, .ireturn, 1)]
theorem DX11_standing_0 : dAll cX11_standing lDX11_standing_0 = true := by decide +kernel
theorem dX11_standing_0 : decode cX11_standing 0 = .ok (.iload_n 0, 1) := dAt (x := (0, .iload_n 0, 1)) DX11_standing_0 0 rfl
theorem dX11_standing_1 : decode cX11_standing 1 = .ok (.bipush 13, 2) := dAt (x := (1, .bipush 13, 2)) DX11_standing_0 1 rfl
theorem dX11_standing_3 : decode cX11_standing 3 = .ok (.if_icmp .lt 8, 3) := dAt (x := (3, .if_icmp .lt 8, 3)) DX11_standing_0 2 rfl
theorem dX11_standing_6 : decode cX11_standing 6 = .ok (.bipush 6, 2) := dAt (x := (6, .bipush 6, 2)) DX11_standing_0 3 rfl
theorem dX11_standing_8 : decode cX11_standing 8 = .ok (.goto 50, 3) := dAt (x := (8, .goto 50, 3)) DX11_standing_0 4 rfl
theorem dX11_standing_11 : decode cX11_standing 11 = .ok (.iload_n 0, 1) := dAt (x := (11, .iload_n 0, 1)) DX11_standing_0 5 rfl
theorem dX11_standing_12 : decode cX11_standing 12 = .ok (.bipush 11, 2) := dAt (x := (12, .bipush 11, 2)) DX11_standing_0 6 rfl
theorem dX11_standing_14 : decode cX11_standing 14 = .ok (.if_icmp .lt 7, 3) := dAt (x := (14, .if_icmp .lt 7, 3)) DX11_standing_0 7 rfl
theorem dX11_standing_17 : decode cX11_standing 17 = .ok (.iconst 5, 1) := dAt (x := (17, .iconst 5, 1)) DX11_standing_0 8 rfl
theorem dX11_standing_18 : decode cX11_standing 18 = .ok (.goto 40, 3) := dAt (x := (18, .goto 40, 3)) DX11_standing_0 9 rfl
theorem dX11_standing_21 : decode cX11_standing 21 = .ok (.iload_n 0, 1) := dAt (x := (21, .iload_n 0, 1)) DX11_standing_0 10 rfl
theorem dX11_standing_22 : decode cX11_standing 22 = .ok (.iconst 5, 1) := dAt (x := (22, .iconst 5, 1)) DX11_standing_0 11 rfl
theorem dX11_standing_23 : decode cX11_standing 23 = .ok (.if_icmp .lt 7, 3) := dAt (x := (23, .if_icmp .lt 7, 3)) DX11_standing_0 12 rfl
theorem dX11_standing_26 : decode cX11_standing 26 = .ok (.iconst 4, 1) := dAt (x := (26, .iconst 4, 1)) DX11_standing_0 13 rfl
theorem dX11_standing_27 : decode cX11_standing 27 = .ok (.goto 31, 3) := dAt (x := (27, .goto 31, 3)) DX11_standing_0 14 rfl
theorem dX11_standing_30 : decode cX11_standing 30 = .ok (.iload_n 0, 1) := dAt (x := (30, .iload_n 0, 1)) DX11_standing_0 15 rfl
theorem dX11_standing_31 : decode cX11_standing 31 = .ok (.iconst 2, 1) := dAt (x := (31, .iconst 2, 1)) DX11_standing_0 16 rfl
theorem dX11_standing_32 : decode cX11_standing 32 = .ok (.if_icmp .ne 7, 3) := dAt (x := (32, .if_icmp .ne 7, 3)) DX11_standing_0 17 rfl
theorem dX11_standing_35 : decode cX11_standing 35 = .ok (.iconst 3, 1) := dAt (x := (35, .iconst 3, 1)) DX11_standing_0 18 rfl
theorem dX11_standing_36 : decode cX11_standing 36 = .ok (.goto 22, 3) := dAt (x := (36, .goto 22, 3)) DX11_standing_0 19 rfl
theorem dX11_standing_39 : decode cX11_standing 39 = .ok (.iload_n 0, 1) := dAt (x := (39, .iload_n 0, 1)) DX11_standing_0 20 rfl
theorem dX11_standing_40 : decode cX11_standing 40 = .ok (.iconst 3, 1) := dAt (x := (40, .iconst 3, 1)) DX11_standing_0 21 rfl
theorem dX11_standing_41 : decode cX11_standing 41 = .ok (.if_icmp .ne 7, 3) := dAt (x := (41, .if_icmp .ne 7, 3)) DX11_standing_0 22 rfl
theorem dX11_standing_44 : decode cX11_standing 44 = .ok (.iconst 2, 1) := dAt (x := (44, .iconst 2, 1)) DX11_standing_0 23 rfl
theorem dX11_standing_45 : decode cX11_standing 45 = .ok (.goto 13, 3) := dAt (x := (45, .goto 13, 3)) DX11_standing_0 24 rfl
theorem dX11_standing_48 : decode cX11_standing 48 = .ok (.iload_n 0, 1) := dAt (x := (48, .iload_n 0, 1)) DX11_standing_0 25 rfl
theorem dX11_standing_49 : decode cX11_standing 49 = .ok (.iconst 4, 1) := dAt (x := (49, .iconst 4, 1)) DX11_standing_0 26 rfl
theorem dX11_standing_50 : decode cX11_standing 50 = .ok (.if_icmp .ne 7, 3) := dAt (x := (50, .if_icmp .ne 7, 3)) DX11_standing_0 27 rfl
theorem dX11_standing_53 : decode cX11_standing 53 = .ok (.iconst 1, 1) := dAt (x := (53, .iconst 1, 1)) DX11_standing_0 28 rfl
theorem dX11_standing_54 : decode cX11_standing 54 = .ok (.goto 4, 3) := dAt (x := (54, .goto 4, 3)) DX11_standing_0 29 rfl
theorem dX11_standing_57 : decode cX11_standing 57 = .ok (.iconst 0, 1) := dAt (x := (57, .iconst 0, 1)) DX11_standing_0 30 rfl
theorem dX11_standing_58 : decode cX11_standing 58 = .ok (.ireturn, 1) := dAt (x := (58, .ireturn, 1)) DX11_standing_0 31 rfl
def lDX11_grown_0 : List (Nat × Instr × Nat) := [(0, .aload_n 0, 1), (1, .getfield 66, 3), (4, .bipush 64, 2), (6, .aload_n 0, 1), (7, .getfield 231, 3), (10, .iadd, 1), (11, .iload_n 1, 1), (12, .iastore, 1), (13, .aload_n 0, 1), (14, .getfield 69, 3), (17, .bipush 64, 2), (19, .aload_n 0, 1), (20, .getfield 231, 3), (23, .iadd, 1), (24, .iload_n 2, 1), (25, .iastore, 1), (26, .aload_n 0, 1), (27, .getfield 72, 3), (30, .bipush 64, 2), (32, .aload_n 0, 1), (33, .getfield 231, 3), (36, .iadd, 1), (37, .iload_n 3, 1), (38, .iastore, 1), (39, .aload_n 0, 1), (40, .getfield 78, 3), (43, .aload_n 0, 1), (44, .getfield 297, 3), (47, .aload_n 0, 1), (48, .getfield 231, 3), (51, .iastore, 1), (52, .aload_n 0, 1), (53, .dup, 1), (54, .getfield 297, 3), (57, .iconst 1, 1), (58, .iadd, 1), (59, .putfield 297, 3), (62, .aload_n 0, 1), (63, .dup, 1), (64, .getfield 231, 3), (67, .iconst 1, 1), (68, .iadd, 1), (69, .putfield 231, 3), (72, .return_, 1)]
theorem DX11_grown_0 : dAll cX11_grown lDX11_grown_0 = true := by decide +kernel
theorem dX11_grown_0 : decode cX11_grown 0 = .ok (.aload_n 0, 1) := dAt (x := (0, .aload_n 0, 1)) DX11_grown_0 0 rfl
theorem dX11_grown_1 : decode cX11_grown 1 = .ok (.getfield 66, 3) := dAt (x := (1, .getfield 66, 3)) DX11_grown_0 1 rfl
theorem dX11_grown_4 : decode cX11_grown 4 = .ok (.bipush 64, 2) := dAt (x := (4, .bipush 64, 2)) DX11_grown_0 2 rfl
theorem dX11_grown_6 : decode cX11_grown 6 = .ok (.aload_n 0, 1) := dAt (x := (6, .aload_n 0, 1)) DX11_grown_0 3 rfl
theorem dX11_grown_7 : decode cX11_grown 7 = .ok (.getfield 231, 3) := dAt (x := (7, .getfield 231, 3)) DX11_grown_0 4 rfl
theorem dX11_grown_10 : decode cX11_grown 10 = .ok (.iadd, 1) := dAt (x := (10, .iadd, 1)) DX11_grown_0 5 rfl
theorem dX11_grown_11 : decode cX11_grown 11 = .ok (.iload_n 1, 1) := dAt (x := (11, .iload_n 1, 1)) DX11_grown_0 6 rfl
theorem dX11_grown_12 : decode cX11_grown 12 = .ok (.iastore, 1) := dAt (x := (12, .iastore, 1)) DX11_grown_0 7 rfl
theorem dX11_grown_13 : decode cX11_grown 13 = .ok (.aload_n 0, 1) := dAt (x := (13, .aload_n 0, 1)) DX11_grown_0 8 rfl
theorem dX11_grown_14 : decode cX11_grown 14 = .ok (.getfield 69, 3) := dAt (x := (14, .getfield 69, 3)) DX11_grown_0 9 rfl
theorem dX11_grown_17 : decode cX11_grown 17 = .ok (.bipush 64, 2) := dAt (x := (17, .bipush 64, 2)) DX11_grown_0 10 rfl
theorem dX11_grown_19 : decode cX11_grown 19 = .ok (.aload_n 0, 1) := dAt (x := (19, .aload_n 0, 1)) DX11_grown_0 11 rfl
theorem dX11_grown_20 : decode cX11_grown 20 = .ok (.getfield 231, 3) := dAt (x := (20, .getfield 231, 3)) DX11_grown_0 12 rfl
theorem dX11_grown_23 : decode cX11_grown 23 = .ok (.iadd, 1) := dAt (x := (23, .iadd, 1)) DX11_grown_0 13 rfl
theorem dX11_grown_24 : decode cX11_grown 24 = .ok (.iload_n 2, 1) := dAt (x := (24, .iload_n 2, 1)) DX11_grown_0 14 rfl
theorem dX11_grown_25 : decode cX11_grown 25 = .ok (.iastore, 1) := dAt (x := (25, .iastore, 1)) DX11_grown_0 15 rfl
theorem dX11_grown_26 : decode cX11_grown 26 = .ok (.aload_n 0, 1) := dAt (x := (26, .aload_n 0, 1)) DX11_grown_0 16 rfl
theorem dX11_grown_27 : decode cX11_grown 27 = .ok (.getfield 72, 3) := dAt (x := (27, .getfield 72, 3)) DX11_grown_0 17 rfl
theorem dX11_grown_30 : decode cX11_grown 30 = .ok (.bipush 64, 2) := dAt (x := (30, .bipush 64, 2)) DX11_grown_0 18 rfl
theorem dX11_grown_32 : decode cX11_grown 32 = .ok (.aload_n 0, 1) := dAt (x := (32, .aload_n 0, 1)) DX11_grown_0 19 rfl
theorem dX11_grown_33 : decode cX11_grown 33 = .ok (.getfield 231, 3) := dAt (x := (33, .getfield 231, 3)) DX11_grown_0 20 rfl
theorem dX11_grown_36 : decode cX11_grown 36 = .ok (.iadd, 1) := dAt (x := (36, .iadd, 1)) DX11_grown_0 21 rfl
theorem dX11_grown_37 : decode cX11_grown 37 = .ok (.iload_n 3, 1) := dAt (x := (37, .iload_n 3, 1)) DX11_grown_0 22 rfl
theorem dX11_grown_38 : decode cX11_grown 38 = .ok (.iastore, 1) := dAt (x := (38, .iastore, 1)) DX11_grown_0 23 rfl
theorem dX11_grown_39 : decode cX11_grown 39 = .ok (.aload_n 0, 1) := dAt (x := (39, .aload_n 0, 1)) DX11_grown_0 24 rfl
theorem dX11_grown_40 : decode cX11_grown 40 = .ok (.getfield 78, 3) := dAt (x := (40, .getfield 78, 3)) DX11_grown_0 25 rfl
theorem dX11_grown_43 : decode cX11_grown 43 = .ok (.aload_n 0, 1) := dAt (x := (43, .aload_n 0, 1)) DX11_grown_0 26 rfl
theorem dX11_grown_44 : decode cX11_grown 44 = .ok (.getfield 297, 3) := dAt (x := (44, .getfield 297, 3)) DX11_grown_0 27 rfl
theorem dX11_grown_47 : decode cX11_grown 47 = .ok (.aload_n 0, 1) := dAt (x := (47, .aload_n 0, 1)) DX11_grown_0 28 rfl
theorem dX11_grown_48 : decode cX11_grown 48 = .ok (.getfield 231, 3) := dAt (x := (48, .getfield 231, 3)) DX11_grown_0 29 rfl
theorem dX11_grown_51 : decode cX11_grown 51 = .ok (.iastore, 1) := dAt (x := (51, .iastore, 1)) DX11_grown_0 30 rfl
theorem dX11_grown_52 : decode cX11_grown 52 = .ok (.aload_n 0, 1) := dAt (x := (52, .aload_n 0, 1)) DX11_grown_0 31 rfl
theorem dX11_grown_53 : decode cX11_grown 53 = .ok (.dup, 1) := dAt (x := (53, .dup, 1)) DX11_grown_0 32 rfl
theorem dX11_grown_54 : decode cX11_grown 54 = .ok (.getfield 297, 3) := dAt (x := (54, .getfield 297, 3)) DX11_grown_0 33 rfl
theorem dX11_grown_57 : decode cX11_grown 57 = .ok (.iconst 1, 1) := dAt (x := (57, .iconst 1, 1)) DX11_grown_0 34 rfl
theorem dX11_grown_58 : decode cX11_grown 58 = .ok (.iadd, 1) := dAt (x := (58, .iadd, 1)) DX11_grown_0 35 rfl
theorem dX11_grown_59 : decode cX11_grown 59 = .ok (.putfield 297, 3) := dAt (x := (59, .putfield 297, 3)) DX11_grown_0 36 rfl
theorem dX11_grown_62 : decode cX11_grown 62 = .ok (.aload_n 0, 1) := dAt (x := (62, .aload_n 0, 1)) DX11_grown_0 37 rfl
theorem dX11_grown_63 : decode cX11_grown 63 = .ok (.dup, 1) := dAt (x := (63, .dup, 1)) DX11_grown_0 38 rfl
theorem dX11_grown_64 : decode cX11_grown 64 = .ok (.getfield 231, 3) := dAt (x := (64, .getfield 231, 3)) DX11_grown_0 39 rfl
theorem dX11_grown_67 : decode cX11_grown 67 = .ok (.iconst 1, 1) := dAt (x := (67, .iconst 1, 1)) DX11_grown_0 40 rfl
theorem dX11_grown_68 : decode cX11_grown 68 = .ok (.iadd, 1) := dAt (x := (68, .iadd, 1)) DX11_grown_0 41 rfl
theorem dX11_grown_69 : decode cX11_grown 69 = .ok (.putfield 231, 3) := dAt (x := (69, .putfield 231, 3)) DX11_grown_0 42 rfl
theorem dX11_grown_72 : decode cX11_grown 72 = .ok (.return_, 1) := dAt (x := (72, .return_, 1)) DX11_grown_0 43 rfl
def lDX11_dropHeld_0 : List (Nat × Instr × Nat) := [(0, .aload_n 0, 1), (1, .dup, 1), (2, .getfield 297, 3), (5, .iconst 1, 1), (6, .isub, 1), (7, .putfield 297, 3), (10, .aload_n 0, 1), (11, .getfield 78, 3), (14, .aload_n 0, 1), (15, .getfield 297, 3), (18, .iaload, 1), (19, .ireturn, 1)]
theorem DX11_dropHeld_0 : dAll cX11_dropHeld lDX11_dropHeld_0 = true := by decide +kernel
theorem dX11_dropHeld_0 : decode cX11_dropHeld 0 = .ok (.aload_n 0, 1) := dAt (x := (0, .aload_n 0, 1)) DX11_dropHeld_0 0 rfl
theorem dX11_dropHeld_1 : decode cX11_dropHeld 1 = .ok (.dup, 1) := dAt (x := (1, .dup, 1)) DX11_dropHeld_0 1 rfl
theorem dX11_dropHeld_2 : decode cX11_dropHeld 2 = .ok (.getfield 297, 3) := dAt (x := (2, .getfield 297, 3)) DX11_dropHeld_0 2 rfl
theorem dX11_dropHeld_5 : decode cX11_dropHeld 5 = .ok (.iconst 1, 1) := dAt (x := (5, .iconst 1, 1)) DX11_dropHeld_0 3 rfl
theorem dX11_dropHeld_6 : decode cX11_dropHeld 6 = .ok (.isub, 1) := dAt (x := (6, .isub, 1)) DX11_dropHeld_0 4 rfl
theorem dX11_dropHeld_7 : decode cX11_dropHeld 7 = .ok (.putfield 297, 3) := dAt (x := (7, .putfield 297, 3)) DX11_dropHeld_0 5 rfl
theorem dX11_dropHeld_10 : decode cX11_dropHeld 10 = .ok (.aload_n 0, 1) := dAt (x := (10, .aload_n 0, 1)) DX11_dropHeld_0 6 rfl
theorem dX11_dropHeld_11 : decode cX11_dropHeld 11 = .ok (.getfield 78, 3) := dAt (x := (11, .getfield 78, 3)) DX11_dropHeld_0 7 rfl
theorem dX11_dropHeld_14 : decode cX11_dropHeld 14 = .ok (.aload_n 0, 1) := dAt (x := (14, .aload_n 0, 1)) DX11_dropHeld_0 8 rfl
theorem dX11_dropHeld_15 : decode cX11_dropHeld 15 = .ok (.getfield 297, 3) := dAt (x := (15, .getfield 297, 3)) DX11_dropHeld_0 9 rfl
theorem dX11_dropHeld_18 : decode cX11_dropHeld 18 = .ok (.iaload, 1) := dAt (x := (18, .iaload, 1)) DX11_dropHeld_0 10 rfl
theorem dX11_dropHeld_19 : decode cX11_dropHeld 19 = .ok (.ireturn, 1) := dAt (x := (19, .ireturn, 1)) DX11_dropHeld_0 11 rfl
def lDX11_bind_0 : List (Nat × Instr × Nat) := [(0, .aload_n 0, 1), (1, .getfield 300, 3), (4, .ifCond .le 72, 3), (7, .aload_n 0, 1), (8, .getfield 75, 3), (11, .aload_n 0, 1), (12, .getfield 300, 3), (15, .iconst 1, 1), (16, .isub, 1), (17, .iaload, 1), (18, .invokestatic 303, 3), (21, .iload_n 1, 1), (22, .if_icmp .lt 54, 3), (25, .aload_n 0, 1), (26, .dup, 1), (27, .getfield 300, 3), (30, .iconst 1, 1), (31, .isub, 1), (32, .putfield 300, 3), (35, .aload_n 0, 1), (36, .getfield 75, 3), (39, .aload_n 0, 1), (40, .getfield 300, 3), (43, .iaload, 1), (44, .istore_n 2, 1), (45, .iload_n 2, 1), (46, .iconst 2, 1), (47, .if_icmp .ne 7, 3), (50, .iconst (-1), 1), (51, .goto 7, 3), (54, .aload_n 0, 1), (55, .invokevirtual 307, 3), (58, .istore_n 3, 1), (59, .aload_n 0, 1), (60, .invokevirtual 307, 3), (63, .istore 4, 2), (65, .aload_n 0, 1), (66, .iload_n 2, 1), (67, .iload 4, 2), (69, .iload_n 3, 1), (70, .invokevirtual 311, 3), (73, .goto (-73), 3), (76, .return_, 1)]
theorem DX11_bind_0 : dAll cX11_bind lDX11_bind_0 = true := by decide +kernel
theorem dX11_bind_0 : decode cX11_bind 0 = .ok (.aload_n 0, 1) := dAt (x := (0, .aload_n 0, 1)) DX11_bind_0 0 rfl
theorem dX11_bind_1 : decode cX11_bind 1 = .ok (.getfield 300, 3) := dAt (x := (1, .getfield 300, 3)) DX11_bind_0 1 rfl
theorem dX11_bind_4 : decode cX11_bind 4 = .ok (.ifCond .le 72, 3) := dAt (x := (4, .ifCond .le 72, 3)) DX11_bind_0 2 rfl
theorem dX11_bind_7 : decode cX11_bind 7 = .ok (.aload_n 0, 1) := dAt (x := (7, .aload_n 0, 1)) DX11_bind_0 3 rfl
theorem dX11_bind_8 : decode cX11_bind 8 = .ok (.getfield 75, 3) := dAt (x := (8, .getfield 75, 3)) DX11_bind_0 4 rfl
theorem dX11_bind_11 : decode cX11_bind 11 = .ok (.aload_n 0, 1) := dAt (x := (11, .aload_n 0, 1)) DX11_bind_0 5 rfl
theorem dX11_bind_12 : decode cX11_bind 12 = .ok (.getfield 300, 3) := dAt (x := (12, .getfield 300, 3)) DX11_bind_0 6 rfl
theorem dX11_bind_15 : decode cX11_bind 15 = .ok (.iconst 1, 1) := dAt (x := (15, .iconst 1, 1)) DX11_bind_0 7 rfl
theorem dX11_bind_16 : decode cX11_bind 16 = .ok (.isub, 1) := dAt (x := (16, .isub, 1)) DX11_bind_0 8 rfl
theorem dX11_bind_17 : decode cX11_bind 17 = .ok (.iaload, 1) := dAt (x := (17, .iaload, 1)) DX11_bind_0 9 rfl
theorem dX11_bind_18 : decode cX11_bind 18 = .ok (.invokestatic 303, 3) := dAt (x := (18, .invokestatic 303, 3)) DX11_bind_0 10 rfl
theorem dX11_bind_21 : decode cX11_bind 21 = .ok (.iload_n 1, 1) := dAt (x := (21, .iload_n 1, 1)) DX11_bind_0 11 rfl
theorem dX11_bind_22 : decode cX11_bind 22 = .ok (.if_icmp .lt 54, 3) := dAt (x := (22, .if_icmp .lt 54, 3)) DX11_bind_0 12 rfl
theorem dX11_bind_25 : decode cX11_bind 25 = .ok (.aload_n 0, 1) := dAt (x := (25, .aload_n 0, 1)) DX11_bind_0 13 rfl
theorem dX11_bind_26 : decode cX11_bind 26 = .ok (.dup, 1) := dAt (x := (26, .dup, 1)) DX11_bind_0 14 rfl
theorem dX11_bind_27 : decode cX11_bind 27 = .ok (.getfield 300, 3) := dAt (x := (27, .getfield 300, 3)) DX11_bind_0 15 rfl
theorem dX11_bind_30 : decode cX11_bind 30 = .ok (.iconst 1, 1) := dAt (x := (30, .iconst 1, 1)) DX11_bind_0 16 rfl
theorem dX11_bind_31 : decode cX11_bind 31 = .ok (.isub, 1) := dAt (x := (31, .isub, 1)) DX11_bind_0 17 rfl
theorem dX11_bind_32 : decode cX11_bind 32 = .ok (.putfield 300, 3) := dAt (x := (32, .putfield 300, 3)) DX11_bind_0 18 rfl
theorem dX11_bind_35 : decode cX11_bind 35 = .ok (.aload_n 0, 1) := dAt (x := (35, .aload_n 0, 1)) DX11_bind_0 19 rfl
theorem dX11_bind_36 : decode cX11_bind 36 = .ok (.getfield 75, 3) := dAt (x := (36, .getfield 75, 3)) DX11_bind_0 20 rfl
theorem dX11_bind_39 : decode cX11_bind 39 = .ok (.aload_n 0, 1) := dAt (x := (39, .aload_n 0, 1)) DX11_bind_0 21 rfl
theorem dX11_bind_40 : decode cX11_bind 40 = .ok (.getfield 300, 3) := dAt (x := (40, .getfield 300, 3)) DX11_bind_0 22 rfl
theorem dX11_bind_43 : decode cX11_bind 43 = .ok (.iaload, 1) := dAt (x := (43, .iaload, 1)) DX11_bind_0 23 rfl
theorem dX11_bind_44 : decode cX11_bind 44 = .ok (.istore_n 2, 1) := dAt (x := (44, .istore_n 2, 1)) DX11_bind_0 24 rfl
theorem dX11_bind_45 : decode cX11_bind 45 = .ok (.iload_n 2, 1) := dAt (x := (45, .iload_n 2, 1)) DX11_bind_0 25 rfl
theorem dX11_bind_46 : decode cX11_bind 46 = .ok (.iconst 2, 1) := dAt (x := (46, .iconst 2, 1)) DX11_bind_0 26 rfl
theorem dX11_bind_47 : decode cX11_bind 47 = .ok (.if_icmp .ne 7, 3) := dAt (x := (47, .if_icmp .ne 7, 3)) DX11_bind_0 27 rfl
theorem dX11_bind_50 : decode cX11_bind 50 = .ok (.iconst (-1), 1) := dAt (x := (50, .iconst (-1), 1)) DX11_bind_0 28 rfl
theorem dX11_bind_51 : decode cX11_bind 51 = .ok (.goto 7, 3) := dAt (x := (51, .goto 7, 3)) DX11_bind_0 29 rfl
theorem dX11_bind_54 : decode cX11_bind 54 = .ok (.aload_n 0, 1) := dAt (x := (54, .aload_n 0, 1)) DX11_bind_0 30 rfl
theorem dX11_bind_55 : decode cX11_bind 55 = .ok (.invokevirtual 307, 3) := dAt (x := (55, .invokevirtual 307, 3)) DX11_bind_0 31 rfl
theorem dX11_bind_58 : decode cX11_bind 58 = .ok (.istore_n 3, 1) := dAt (x := (58, .istore_n 3, 1)) DX11_bind_0 32 rfl
theorem dX11_bind_59 : decode cX11_bind 59 = .ok (.aload_n 0, 1) := dAt (x := (59, .aload_n 0, 1)) DX11_bind_0 33 rfl
theorem dX11_bind_60 : decode cX11_bind 60 = .ok (.invokevirtual 307, 3) := dAt (x := (60, .invokevirtual 307, 3)) DX11_bind_0 34 rfl
theorem dX11_bind_63 : decode cX11_bind 63 = .ok (.istore 4, 2) := dAt (x := (63, .istore 4, 2)) DX11_bind_0 35 rfl
theorem dX11_bind_65 : decode cX11_bind 65 = .ok (.aload_n 0, 1) := dAt (x := (65, .aload_n 0, 1)) DX11_bind_0 36 rfl
theorem dX11_bind_66 : decode cX11_bind 66 = .ok (.iload_n 2, 1) := dAt (x := (66, .iload_n 2, 1)) DX11_bind_0 37 rfl
theorem dX11_bind_67 : decode cX11_bind 67 = .ok (.iload 4, 2) := dAt (x := (67, .iload 4, 2)) DX11_bind_0 38 rfl
theorem dX11_bind_69 : decode cX11_bind 69 = .ok (.iload_n 3, 1) := dAt (x := (69, .iload_n 3, 1)) DX11_bind_0 39 rfl
theorem dX11_bind_70 : decode cX11_bind 70 = .ok (.invokevirtual 311, 3) := dAt (x := (70, .invokevirtual 311, 3)) DX11_bind_0 40 rfl
theorem dX11_bind_73 : decode cX11_bind 73 = .ok (.goto (-73), 3) := dAt (x := (73, .goto (-73), 3)) DX11_bind_0 41 rfl
theorem dX11_bind_76 : decode cX11_bind 76 = .ok (.return_, 1) := dAt (x := (76, .return_, 1)) DX11_bind_0 42 rfl
def lDX11_isCounted_0 : List (Nat × Instr × Nat) := [(0, .aload_n 0, 1), (1, .getfield 237, 3), (4, .bipush 64, 2), (6, .if_icmp .ne 9, 3), (9, .aload_n 0, 1), (10, .iconst 2, 1), (11, .invokevirtual 202, 3), (14, .ireturn, 1), (15, .aload_n 0, 1), (16, .dup, 1), (17, .getfield 237, 3), (20, .iconst 1, 1), (21, .iadd, 1), (22, .putfield 237, 3), (25, .iconst 1, 1), (26, .ireturn, 1)]
theorem DX11_isCounted_0 : dAll cX11_isCounted lDX11_isCounted_0 = true := by decide +kernel
theorem dX11_isCounted_0 : decode cX11_isCounted 0 = .ok (.aload_n 0, 1) := dAt (x := (0, .aload_n 0, 1)) DX11_isCounted_0 0 rfl
theorem dX11_isCounted_1 : decode cX11_isCounted 1 = .ok (.getfield 237, 3) := dAt (x := (1, .getfield 237, 3)) DX11_isCounted_0 1 rfl
theorem dX11_isCounted_4 : decode cX11_isCounted 4 = .ok (.bipush 64, 2) := dAt (x := (4, .bipush 64, 2)) DX11_isCounted_0 2 rfl
theorem dX11_isCounted_6 : decode cX11_isCounted 6 = .ok (.if_icmp .ne 9, 3) := dAt (x := (6, .if_icmp .ne 9, 3)) DX11_isCounted_0 3 rfl
theorem dX11_isCounted_9 : decode cX11_isCounted 9 = .ok (.aload_n 0, 1) := dAt (x := (9, .aload_n 0, 1)) DX11_isCounted_0 4 rfl
theorem dX11_isCounted_10 : decode cX11_isCounted 10 = .ok (.iconst 2, 1) := dAt (x := (10, .iconst 2, 1)) DX11_isCounted_0 5 rfl
theorem dX11_isCounted_11 : decode cX11_isCounted 11 = .ok (.invokevirtual 202, 3) := dAt (x := (11, .invokevirtual 202, 3)) DX11_isCounted_0 6 rfl
theorem dX11_isCounted_14 : decode cX11_isCounted 14 = .ok (.ireturn, 1) := dAt (x := (14, .ireturn, 1)) DX11_isCounted_0 7 rfl
theorem dX11_isCounted_15 : decode cX11_isCounted 15 = .ok (.aload_n 0, 1) := dAt (x := (15, .aload_n 0, 1)) DX11_isCounted_0 8 rfl
theorem dX11_isCounted_16 : decode cX11_isCounted 16 = .ok (.dup, 1) := dAt (x := (16, .dup, 1)) DX11_isCounted_0 9 rfl
theorem dX11_isCounted_17 : decode cX11_isCounted 17 = .ok (.getfield 237, 3) := dAt (x := (17, .getfield 237, 3)) DX11_isCounted_0 10 rfl
theorem dX11_isCounted_20 : decode cX11_isCounted 20 = .ok (.iconst 1, 1) := dAt (x := (20, .iconst 1, 1)) DX11_isCounted_0 11 rfl
theorem dX11_isCounted_21 : decode cX11_isCounted 21 = .ok (.iadd, 1) := dAt (x := (21, .iadd, 1)) DX11_isCounted_0 12 rfl
theorem dX11_isCounted_22 : decode cX11_isCounted 22 = .ok (.putfield 237, 3) := dAt (x := (22, .putfield 237, 3)) DX11_isCounted_0 13 rfl
theorem dX11_isCounted_25 : decode cX11_isCounted 25 = .ok (.iconst 1, 1) := dAt (x := (25, .iconst 1, 1)) DX11_isCounted_0 14 rfl
theorem dX11_isCounted_26 : decode cX11_isCounted 26 = .ok (.ireturn, 1) := dAt (x := (26, .ireturn, 1)) DX11_isCounted_0 15 rfl
def lDX11_waitsFor_0 : List (Nat × Instr × Nat) := [(0, .aload_n 0, 1), (1, .getfield 75, 3), (4, .aload_n 0, 1), (5, .getfield 300, 3), (8, .iload_n 1, 1), (9, .iastore, 1), (10, .aload_n 0, 1), (11, .dup, 1), (12, .getfield 300, 3), (15, .iconst 1, 1), (16, .iadd, 1), (17, .putfield 300, 3), (20, .return_, 1)]
theorem DX11_waitsFor_0 : dAll cX11_waitsFor lDX11_waitsFor_0 = true := by decide +kernel
theorem dX11_waitsFor_0 : decode cX11_waitsFor 0 = .ok (.aload_n 0, 1) := dAt (x := (0, .aload_n 0, 1)) DX11_waitsFor_0 0 rfl
theorem dX11_waitsFor_1 : decode cX11_waitsFor 1 = .ok (.getfield 75, 3) := dAt (x := (1, .getfield 75, 3)) DX11_waitsFor_0 1 rfl
theorem dX11_waitsFor_4 : decode cX11_waitsFor 4 = .ok (.aload_n 0, 1) := dAt (x := (4, .aload_n 0, 1)) DX11_waitsFor_0 2 rfl
theorem dX11_waitsFor_5 : decode cX11_waitsFor 5 = .ok (.getfield 300, 3) := dAt (x := (5, .getfield 300, 3)) DX11_waitsFor_0 3 rfl
theorem dX11_waitsFor_8 : decode cX11_waitsFor 8 = .ok (.iload_n 1, 1) := dAt (x := (8, .iload_n 1, 1)) DX11_waitsFor_0 4 rfl
theorem dX11_waitsFor_9 : decode cX11_waitsFor 9 = .ok (.iastore, 1) := dAt (x := (9, .iastore, 1)) DX11_waitsFor_0 5 rfl
theorem dX11_waitsFor_10 : decode cX11_waitsFor 10 = .ok (.aload_n 0, 1) := dAt (x := (10, .aload_n 0, 1)) DX11_waitsFor_0 6 rfl
theorem dX11_waitsFor_11 : decode cX11_waitsFor 11 = .ok (.dup, 1) := dAt (x := (11, .dup, 1)) DX11_waitsFor_0 7 rfl
theorem dX11_waitsFor_12 : decode cX11_waitsFor 12 = .ok (.getfield 300, 3) := dAt (x := (12, .getfield 300, 3)) DX11_waitsFor_0 8 rfl
theorem dX11_waitsFor_15 : decode cX11_waitsFor 15 = .ok (.iconst 1, 1) := dAt (x := (15, .iconst 1, 1)) DX11_waitsFor_0 9 rfl
theorem dX11_waitsFor_16 : decode cX11_waitsFor 16 = .ok (.iadd, 1) := dAt (x := (16, .iadd, 1)) DX11_waitsFor_0 10 rfl
theorem dX11_waitsFor_17 : decode cX11_waitsFor 17 = .ok (.putfield 300, 3) := dAt (x := (17, .putfield 300, 3)) DX11_waitsFor_0 11 rfl
theorem dX11_waitsFor_20 : decode cX11_waitsFor 20 = .ok (.return_, 1) := dAt (x := (20, .return_, 1)) DX11_waitsFor_0 12 rfl
def lDX11_nameMet_0 : List (Nat × Instr × Nat) := [(0, .aload_n 0, 1), (1, .getfield 178, 3), (4, .iconst 1, 1), (5, .if_icmp .ne 22, 3), (8, .aload_n 0, 1), (9, .getfield 189, 3), (12, .bipush 17, 2), (14, .if_icmp .lt 13, 3), (17, .aload_n 0, 1), (18, .getfield 189, 3), (21, .bipush 17, 2), (23, .isub, 1), (24, .goto 4, 3), (27, .iconst (-1), 1), (28, .ireturn, 1)]
theorem DX11_nameMet_0 : dAll cX11_nameMet lDX11_nameMet_0 = true := by decide +kernel
theorem dX11_nameMet_0 : decode cX11_nameMet 0 = .ok (.aload_n 0, 1) := dAt (x := (0, .aload_n 0, 1)) DX11_nameMet_0 0 rfl
theorem dX11_nameMet_1 : decode cX11_nameMet 1 = .ok (.getfield 178, 3) := dAt (x := (1, .getfield 178, 3)) DX11_nameMet_0 1 rfl
theorem dX11_nameMet_4 : decode cX11_nameMet 4 = .ok (.iconst 1, 1) := dAt (x := (4, .iconst 1, 1)) DX11_nameMet_0 2 rfl
theorem dX11_nameMet_5 : decode cX11_nameMet 5 = .ok (.if_icmp .ne 22, 3) := dAt (x := (5, .if_icmp .ne 22, 3)) DX11_nameMet_0 3 rfl
theorem dX11_nameMet_8 : decode cX11_nameMet 8 = .ok (.aload_n 0, 1) := dAt (x := (8, .aload_n 0, 1)) DX11_nameMet_0 4 rfl
theorem dX11_nameMet_9 : decode cX11_nameMet 9 = .ok (.getfield 189, 3) := dAt (x := (9, .getfield 189, 3)) DX11_nameMet_0 5 rfl
theorem dX11_nameMet_12 : decode cX11_nameMet 12 = .ok (.bipush 17, 2) := dAt (x := (12, .bipush 17, 2)) DX11_nameMet_0 6 rfl
theorem dX11_nameMet_14 : decode cX11_nameMet 14 = .ok (.if_icmp .lt 13, 3) := dAt (x := (14, .if_icmp .lt 13, 3)) DX11_nameMet_0 7 rfl
theorem dX11_nameMet_17 : decode cX11_nameMet 17 = .ok (.aload_n 0, 1) := dAt (x := (17, .aload_n 0, 1)) DX11_nameMet_0 8 rfl
theorem dX11_nameMet_18 : decode cX11_nameMet 18 = .ok (.getfield 189, 3) := dAt (x := (18, .getfield 189, 3)) DX11_nameMet_0 9 rfl
theorem dX11_nameMet_21 : decode cX11_nameMet 21 = .ok (.bipush 17, 2) := dAt (x := (21, .bipush 17, 2)) DX11_nameMet_0 10 rfl
theorem dX11_nameMet_23 : decode cX11_nameMet 23 = .ok (.isub, 1) := dAt (x := (23, .isub, 1)) DX11_nameMet_0 11 rfl
theorem dX11_nameMet_24 : decode cX11_nameMet 24 = .ok (.goto 4, 3) := dAt (x := (24, .goto 4, 3)) DX11_nameMet_0 12 rfl
theorem dX11_nameMet_27 : decode cX11_nameMet 27 = .ok (.iconst (-1), 1) := dAt (x := (27, .iconst (-1), 1)) DX11_nameMet_0 13 rfl
theorem dX11_nameMet_28 : decode cX11_nameMet 28 = .ok (.ireturn, 1) := dAt (x := (28, .ireturn, 1)) DX11_nameMet_0 14 rfl
def lDX11_leafRead_0 : List (Nat × Instr × Nat) := [(0, .aload_n 0, 1), (1, .bipush 40, 2), (3, .invokevirtual 215, 3), (6, .ifCond .eq 44, 3), (9, .aload_n 0, 1), (10, .getfield 315, 3), (13, .bipush 8, 2), (15, .if_icmp .ne 9, 3), (18, .aload_n 0, 1), (19, .iconst 2, 1), (20, .invokevirtual 202, 3), (23, .ireturn, 1), (24, .aload_n 0, 1), (25, .dup, 1), (26, .getfield 315, 3), (29, .iconst 1, 1), (30, .iadd, 1), (31, .putfield 315, 3), (34, .aload_n 0, 1), (35, .iconst 0, 1), (36, .invokevirtual 318, 3), (39, .aload_n 0, 1), (40, .iconst 1, 1), (41, .putfield 322, 3), (44, .aload_n 0, 1), (45, .invokevirtual 212, 3), (48, .iconst 1, 1), (49, .ireturn, 1), (50, .aload_n 0, 1), (51, .bipush 16, 2), (53, .invokevirtual 326, 3), (56, .ifCond .eq 30, 3), (59, .aload_n 0, 1), (60, .getfield 322, 3), (63, .ifCond .eq 23, 3), (66, .aload_n 0, 1), (67, .invokevirtual 329, 3), (70, .ifCond .ne 5, 3), (73, .iconst 0, 1), (74, .ireturn, 1), (75, .aload_n 0, 1), (76, .iconst 2, 1), (77, .invokevirtual 318, 3), (80, .aload_n 0, 1), (81, .invokevirtual 212, 3), (84, .iconst 1, 1), (85, .ireturn, 1), (86, .aload_n 0, 1), (87, .invokevirtual 332, 3), (90, .istore_n 1, 1), (91, .iload_n 1, 1), (92, .ifCond .ge 17, 3), (95, .aload_n 0, 1), (96, .getfield 178, 3), (99, .iconst 3, 1), (100, .if_icmp .eq 9, 3), (103, .aload_n 0, 1), (104, .iconst 1, 1), (105, .invokevirtual 202, 3), (108, .ireturn, 1)]
theorem DX11_leafRead_0 : dAll cX11_leafRead lDX11_leafRead_0 = true := by decide +kernel
theorem dX11_leafRead_0 : decode cX11_leafRead 0 = .ok (.aload_n 0, 1) := dAt (x := (0, .aload_n 0, 1)) DX11_leafRead_0 0 rfl
theorem dX11_leafRead_1 : decode cX11_leafRead 1 = .ok (.bipush 40, 2) := dAt (x := (1, .bipush 40, 2)) DX11_leafRead_0 1 rfl
theorem dX11_leafRead_3 : decode cX11_leafRead 3 = .ok (.invokevirtual 215, 3) := dAt (x := (3, .invokevirtual 215, 3)) DX11_leafRead_0 2 rfl
theorem dX11_leafRead_6 : decode cX11_leafRead 6 = .ok (.ifCond .eq 44, 3) := dAt (x := (6, .ifCond .eq 44, 3)) DX11_leafRead_0 3 rfl
theorem dX11_leafRead_9 : decode cX11_leafRead 9 = .ok (.aload_n 0, 1) := dAt (x := (9, .aload_n 0, 1)) DX11_leafRead_0 4 rfl
theorem dX11_leafRead_10 : decode cX11_leafRead 10 = .ok (.getfield 315, 3) := dAt (x := (10, .getfield 315, 3)) DX11_leafRead_0 5 rfl
theorem dX11_leafRead_13 : decode cX11_leafRead 13 = .ok (.bipush 8, 2) := dAt (x := (13, .bipush 8, 2)) DX11_leafRead_0 6 rfl
theorem dX11_leafRead_15 : decode cX11_leafRead 15 = .ok (.if_icmp .ne 9, 3) := dAt (x := (15, .if_icmp .ne 9, 3)) DX11_leafRead_0 7 rfl
theorem dX11_leafRead_18 : decode cX11_leafRead 18 = .ok (.aload_n 0, 1) := dAt (x := (18, .aload_n 0, 1)) DX11_leafRead_0 8 rfl
theorem dX11_leafRead_19 : decode cX11_leafRead 19 = .ok (.iconst 2, 1) := dAt (x := (19, .iconst 2, 1)) DX11_leafRead_0 9 rfl
theorem dX11_leafRead_20 : decode cX11_leafRead 20 = .ok (.invokevirtual 202, 3) := dAt (x := (20, .invokevirtual 202, 3)) DX11_leafRead_0 10 rfl
theorem dX11_leafRead_23 : decode cX11_leafRead 23 = .ok (.ireturn, 1) := dAt (x := (23, .ireturn, 1)) DX11_leafRead_0 11 rfl
theorem dX11_leafRead_24 : decode cX11_leafRead 24 = .ok (.aload_n 0, 1) := dAt (x := (24, .aload_n 0, 1)) DX11_leafRead_0 12 rfl
theorem dX11_leafRead_25 : decode cX11_leafRead 25 = .ok (.dup, 1) := dAt (x := (25, .dup, 1)) DX11_leafRead_0 13 rfl
theorem dX11_leafRead_26 : decode cX11_leafRead 26 = .ok (.getfield 315, 3) := dAt (x := (26, .getfield 315, 3)) DX11_leafRead_0 14 rfl
theorem dX11_leafRead_29 : decode cX11_leafRead 29 = .ok (.iconst 1, 1) := dAt (x := (29, .iconst 1, 1)) DX11_leafRead_0 15 rfl
theorem dX11_leafRead_30 : decode cX11_leafRead 30 = .ok (.iadd, 1) := dAt (x := (30, .iadd, 1)) DX11_leafRead_0 16 rfl
theorem dX11_leafRead_31 : decode cX11_leafRead 31 = .ok (.putfield 315, 3) := dAt (x := (31, .putfield 315, 3)) DX11_leafRead_0 17 rfl
theorem dX11_leafRead_34 : decode cX11_leafRead 34 = .ok (.aload_n 0, 1) := dAt (x := (34, .aload_n 0, 1)) DX11_leafRead_0 18 rfl
theorem dX11_leafRead_35 : decode cX11_leafRead 35 = .ok (.iconst 0, 1) := dAt (x := (35, .iconst 0, 1)) DX11_leafRead_0 19 rfl
theorem dX11_leafRead_36 : decode cX11_leafRead 36 = .ok (.invokevirtual 318, 3) := dAt (x := (36, .invokevirtual 318, 3)) DX11_leafRead_0 20 rfl
theorem dX11_leafRead_39 : decode cX11_leafRead 39 = .ok (.aload_n 0, 1) := dAt (x := (39, .aload_n 0, 1)) DX11_leafRead_0 21 rfl
theorem dX11_leafRead_40 : decode cX11_leafRead 40 = .ok (.iconst 1, 1) := dAt (x := (40, .iconst 1, 1)) DX11_leafRead_0 22 rfl
theorem dX11_leafRead_41 : decode cX11_leafRead 41 = .ok (.putfield 322, 3) := dAt (x := (41, .putfield 322, 3)) DX11_leafRead_0 23 rfl
theorem dX11_leafRead_44 : decode cX11_leafRead 44 = .ok (.aload_n 0, 1) := dAt (x := (44, .aload_n 0, 1)) DX11_leafRead_0 24 rfl
theorem dX11_leafRead_45 : decode cX11_leafRead 45 = .ok (.invokevirtual 212, 3) := dAt (x := (45, .invokevirtual 212, 3)) DX11_leafRead_0 25 rfl
theorem dX11_leafRead_48 : decode cX11_leafRead 48 = .ok (.iconst 1, 1) := dAt (x := (48, .iconst 1, 1)) DX11_leafRead_0 26 rfl
theorem dX11_leafRead_49 : decode cX11_leafRead 49 = .ok (.ireturn, 1) := dAt (x := (49, .ireturn, 1)) DX11_leafRead_0 27 rfl
theorem dX11_leafRead_50 : decode cX11_leafRead 50 = .ok (.aload_n 0, 1) := dAt (x := (50, .aload_n 0, 1)) DX11_leafRead_0 28 rfl
theorem dX11_leafRead_51 : decode cX11_leafRead 51 = .ok (.bipush 16, 2) := dAt (x := (51, .bipush 16, 2)) DX11_leafRead_0 29 rfl
theorem dX11_leafRead_53 : decode cX11_leafRead 53 = .ok (.invokevirtual 326, 3) := dAt (x := (53, .invokevirtual 326, 3)) DX11_leafRead_0 30 rfl
theorem dX11_leafRead_56 : decode cX11_leafRead 56 = .ok (.ifCond .eq 30, 3) := dAt (x := (56, .ifCond .eq 30, 3)) DX11_leafRead_0 31 rfl
theorem dX11_leafRead_59 : decode cX11_leafRead 59 = .ok (.aload_n 0, 1) := dAt (x := (59, .aload_n 0, 1)) DX11_leafRead_0 32 rfl
theorem dX11_leafRead_60 : decode cX11_leafRead 60 = .ok (.getfield 322, 3) := dAt (x := (60, .getfield 322, 3)) DX11_leafRead_0 33 rfl
theorem dX11_leafRead_63 : decode cX11_leafRead 63 = .ok (.ifCond .eq 23, 3) := dAt (x := (63, .ifCond .eq 23, 3)) DX11_leafRead_0 34 rfl
theorem dX11_leafRead_66 : decode cX11_leafRead 66 = .ok (.aload_n 0, 1) := dAt (x := (66, .aload_n 0, 1)) DX11_leafRead_0 35 rfl
theorem dX11_leafRead_67 : decode cX11_leafRead 67 = .ok (.invokevirtual 329, 3) := dAt (x := (67, .invokevirtual 329, 3)) DX11_leafRead_0 36 rfl
theorem dX11_leafRead_70 : decode cX11_leafRead 70 = .ok (.ifCond .ne 5, 3) := dAt (x := (70, .ifCond .ne 5, 3)) DX11_leafRead_0 37 rfl
theorem dX11_leafRead_73 : decode cX11_leafRead 73 = .ok (.iconst 0, 1) := dAt (x := (73, .iconst 0, 1)) DX11_leafRead_0 38 rfl
theorem dX11_leafRead_74 : decode cX11_leafRead 74 = .ok (.ireturn, 1) := dAt (x := (74, .ireturn, 1)) DX11_leafRead_0 39 rfl
theorem dX11_leafRead_75 : decode cX11_leafRead 75 = .ok (.aload_n 0, 1) := dAt (x := (75, .aload_n 0, 1)) DX11_leafRead_0 40 rfl
theorem dX11_leafRead_76 : decode cX11_leafRead 76 = .ok (.iconst 2, 1) := dAt (x := (76, .iconst 2, 1)) DX11_leafRead_0 41 rfl
theorem dX11_leafRead_77 : decode cX11_leafRead 77 = .ok (.invokevirtual 318, 3) := dAt (x := (77, .invokevirtual 318, 3)) DX11_leafRead_0 42 rfl
theorem dX11_leafRead_80 : decode cX11_leafRead 80 = .ok (.aload_n 0, 1) := dAt (x := (80, .aload_n 0, 1)) DX11_leafRead_0 43 rfl
theorem dX11_leafRead_81 : decode cX11_leafRead 81 = .ok (.invokevirtual 212, 3) := dAt (x := (81, .invokevirtual 212, 3)) DX11_leafRead_0 44 rfl
theorem dX11_leafRead_84 : decode cX11_leafRead 84 = .ok (.iconst 1, 1) := dAt (x := (84, .iconst 1, 1)) DX11_leafRead_0 45 rfl
theorem dX11_leafRead_85 : decode cX11_leafRead 85 = .ok (.ireturn, 1) := dAt (x := (85, .ireturn, 1)) DX11_leafRead_0 46 rfl
theorem dX11_leafRead_86 : decode cX11_leafRead 86 = .ok (.aload_n 0, 1) := dAt (x := (86, .aload_n 0, 1)) DX11_leafRead_0 47 rfl
theorem dX11_leafRead_87 : decode cX11_leafRead 87 = .ok (.invokevirtual 332, 3) := dAt (x := (87, .invokevirtual 332, 3)) DX11_leafRead_0 48 rfl
theorem dX11_leafRead_90 : decode cX11_leafRead 90 = .ok (.istore_n 1, 1) := dAt (x := (90, .istore_n 1, 1)) DX11_leafRead_0 49 rfl
theorem dX11_leafRead_91 : decode cX11_leafRead 91 = .ok (.iload_n 1, 1) := dAt (x := (91, .iload_n 1, 1)) DX11_leafRead_0 50 rfl
theorem dX11_leafRead_92 : decode cX11_leafRead 92 = .ok (.ifCond .ge 17, 3) := dAt (x := (92, .ifCond .ge 17, 3)) DX11_leafRead_0 51 rfl
theorem dX11_leafRead_95 : decode cX11_leafRead 95 = .ok (.aload_n 0, 1) := dAt (x := (95, .aload_n 0, 1)) DX11_leafRead_0 52 rfl
theorem dX11_leafRead_96 : decode cX11_leafRead 96 = .ok (.getfield 178, 3) := dAt (x := (96, .getfield 178, 3)) DX11_leafRead_0 53 rfl
theorem dX11_leafRead_99 : decode cX11_leafRead 99 = .ok (.iconst 3, 1) := dAt (x := (99, .iconst 3, 1)) DX11_leafRead_0 54 rfl
theorem dX11_leafRead_100 : decode cX11_leafRead 100 = .ok (.if_icmp .eq 9, 3) := dAt (x := (100, .if_icmp .eq 9, 3)) DX11_leafRead_0 55 rfl
theorem dX11_leafRead_103 : decode cX11_leafRead 103 = .ok (.aload_n 0, 1) := dAt (x := (103, .aload_n 0, 1)) DX11_leafRead_0 56 rfl
theorem dX11_leafRead_104 : decode cX11_leafRead 104 = .ok (.iconst 1, 1) := dAt (x := (104, .iconst 1, 1)) DX11_leafRead_0 57 rfl
theorem dX11_leafRead_105 : decode cX11_leafRead 105 = .ok (.invokevirtual 202, 3) := dAt (x := (105, .invokevirtual 202, 3)) DX11_leafRead_0 58 rfl
theorem dX11_leafRead_108 : decode cX11_leafRead 108 = .ok (.ireturn, 1) := dAt (x := (108, .ireturn, 1)) DX11_leafRead_0 59 rfl
def lDX11_leafRead_1 : List (Nat × Instr × Nat) := [(109, .iload_n 1, 1), (110, .ifCond .ge 19, 3), (113, .aload_n 0, 1), (114, .getfield 189, 3), (117, .sipush 9999, 3), (120, .if_icmp .le 9, 3), (123, .aload_n 0, 1), (124, .iconst 2, 1), (125, .invokevirtual 202, 3), (128, .ireturn, 1), (129, .aload_n 0, 1), (130, .invokevirtual 329, 3), (133, .ifCond .ne 5, 3), (136, .iconst 0, 1), (137, .ireturn, 1), (138, .aload_n 0, 1), (139, .iload_n 1, 1), (140, .ifCond .lt 7, 3), (143, .iconst 1, 1), (144, .goto 4, 3), (147, .iconst 0, 1), (148, .iload_n 1, 1), (149, .ifCond .lt 7, 3), (152, .iload_n 1, 1), (153, .goto 7, 3), (156, .aload_n 0, 1), (157, .getfield 189, 3), (160, .iconst 0, 1), (161, .invokevirtual 311, 3), (164, .aload_n 0, 1), (165, .iconst 0, 1), (166, .putfield 335, 3), (169, .aload_n 0, 1), (170, .invokevirtual 212, 3), (173, .iconst 1, 1), (174, .ireturn, 1)]
theorem DX11_leafRead_1 : dAll cX11_leafRead lDX11_leafRead_1 = true := by decide +kernel
theorem dX11_leafRead_109 : decode cX11_leafRead 109 = .ok (.iload_n 1, 1) := dAt (x := (109, .iload_n 1, 1)) DX11_leafRead_1 0 rfl
theorem dX11_leafRead_110 : decode cX11_leafRead 110 = .ok (.ifCond .ge 19, 3) := dAt (x := (110, .ifCond .ge 19, 3)) DX11_leafRead_1 1 rfl
theorem dX11_leafRead_113 : decode cX11_leafRead 113 = .ok (.aload_n 0, 1) := dAt (x := (113, .aload_n 0, 1)) DX11_leafRead_1 2 rfl
theorem dX11_leafRead_114 : decode cX11_leafRead 114 = .ok (.getfield 189, 3) := dAt (x := (114, .getfield 189, 3)) DX11_leafRead_1 3 rfl
theorem dX11_leafRead_117 : decode cX11_leafRead 117 = .ok (.sipush 9999, 3) := dAt (x := (117, .sipush 9999, 3)) DX11_leafRead_1 4 rfl
theorem dX11_leafRead_120 : decode cX11_leafRead 120 = .ok (.if_icmp .le 9, 3) := dAt (x := (120, .if_icmp .le 9, 3)) DX11_leafRead_1 5 rfl
theorem dX11_leafRead_123 : decode cX11_leafRead 123 = .ok (.aload_n 0, 1) := dAt (x := (123, .aload_n 0, 1)) DX11_leafRead_1 6 rfl
theorem dX11_leafRead_124 : decode cX11_leafRead 124 = .ok (.iconst 2, 1) := dAt (x := (124, .iconst 2, 1)) DX11_leafRead_1 7 rfl
theorem dX11_leafRead_125 : decode cX11_leafRead 125 = .ok (.invokevirtual 202, 3) := dAt (x := (125, .invokevirtual 202, 3)) DX11_leafRead_1 8 rfl
theorem dX11_leafRead_128 : decode cX11_leafRead 128 = .ok (.ireturn, 1) := dAt (x := (128, .ireturn, 1)) DX11_leafRead_1 9 rfl
theorem dX11_leafRead_129 : decode cX11_leafRead 129 = .ok (.aload_n 0, 1) := dAt (x := (129, .aload_n 0, 1)) DX11_leafRead_1 10 rfl
theorem dX11_leafRead_130 : decode cX11_leafRead 130 = .ok (.invokevirtual 329, 3) := dAt (x := (130, .invokevirtual 329, 3)) DX11_leafRead_1 11 rfl
theorem dX11_leafRead_133 : decode cX11_leafRead 133 = .ok (.ifCond .ne 5, 3) := dAt (x := (133, .ifCond .ne 5, 3)) DX11_leafRead_1 12 rfl
theorem dX11_leafRead_136 : decode cX11_leafRead 136 = .ok (.iconst 0, 1) := dAt (x := (136, .iconst 0, 1)) DX11_leafRead_1 13 rfl
theorem dX11_leafRead_137 : decode cX11_leafRead 137 = .ok (.ireturn, 1) := dAt (x := (137, .ireturn, 1)) DX11_leafRead_1 14 rfl
theorem dX11_leafRead_138 : decode cX11_leafRead 138 = .ok (.aload_n 0, 1) := dAt (x := (138, .aload_n 0, 1)) DX11_leafRead_1 15 rfl
theorem dX11_leafRead_139 : decode cX11_leafRead 139 = .ok (.iload_n 1, 1) := dAt (x := (139, .iload_n 1, 1)) DX11_leafRead_1 16 rfl
theorem dX11_leafRead_140 : decode cX11_leafRead 140 = .ok (.ifCond .lt 7, 3) := dAt (x := (140, .ifCond .lt 7, 3)) DX11_leafRead_1 17 rfl
theorem dX11_leafRead_143 : decode cX11_leafRead 143 = .ok (.iconst 1, 1) := dAt (x := (143, .iconst 1, 1)) DX11_leafRead_1 18 rfl
theorem dX11_leafRead_144 : decode cX11_leafRead 144 = .ok (.goto 4, 3) := dAt (x := (144, .goto 4, 3)) DX11_leafRead_1 19 rfl
theorem dX11_leafRead_147 : decode cX11_leafRead 147 = .ok (.iconst 0, 1) := dAt (x := (147, .iconst 0, 1)) DX11_leafRead_1 20 rfl
theorem dX11_leafRead_148 : decode cX11_leafRead 148 = .ok (.iload_n 1, 1) := dAt (x := (148, .iload_n 1, 1)) DX11_leafRead_1 21 rfl
theorem dX11_leafRead_149 : decode cX11_leafRead 149 = .ok (.ifCond .lt 7, 3) := dAt (x := (149, .ifCond .lt 7, 3)) DX11_leafRead_1 22 rfl
theorem dX11_leafRead_152 : decode cX11_leafRead 152 = .ok (.iload_n 1, 1) := dAt (x := (152, .iload_n 1, 1)) DX11_leafRead_1 23 rfl
theorem dX11_leafRead_153 : decode cX11_leafRead 153 = .ok (.goto 7, 3) := dAt (x := (153, .goto 7, 3)) DX11_leafRead_1 24 rfl
theorem dX11_leafRead_156 : decode cX11_leafRead 156 = .ok (.aload_n 0, 1) := dAt (x := (156, .aload_n 0, 1)) DX11_leafRead_1 25 rfl
theorem dX11_leafRead_157 : decode cX11_leafRead 157 = .ok (.getfield 189, 3) := dAt (x := (157, .getfield 189, 3)) DX11_leafRead_1 26 rfl
theorem dX11_leafRead_160 : decode cX11_leafRead 160 = .ok (.iconst 0, 1) := dAt (x := (160, .iconst 0, 1)) DX11_leafRead_1 27 rfl
theorem dX11_leafRead_161 : decode cX11_leafRead 161 = .ok (.invokevirtual 311, 3) := dAt (x := (161, .invokevirtual 311, 3)) DX11_leafRead_1 28 rfl
theorem dX11_leafRead_164 : decode cX11_leafRead 164 = .ok (.aload_n 0, 1) := dAt (x := (164, .aload_n 0, 1)) DX11_leafRead_1 29 rfl
theorem dX11_leafRead_165 : decode cX11_leafRead 165 = .ok (.iconst 0, 1) := dAt (x := (165, .iconst 0, 1)) DX11_leafRead_1 30 rfl
theorem dX11_leafRead_166 : decode cX11_leafRead 166 = .ok (.putfield 335, 3) := dAt (x := (166, .putfield 335, 3)) DX11_leafRead_1 31 rfl
theorem dX11_leafRead_169 : decode cX11_leafRead 169 = .ok (.aload_n 0, 1) := dAt (x := (169, .aload_n 0, 1)) DX11_leafRead_1 32 rfl
theorem dX11_leafRead_170 : decode cX11_leafRead 170 = .ok (.invokevirtual 212, 3) := dAt (x := (170, .invokevirtual 212, 3)) DX11_leafRead_1 33 rfl
theorem dX11_leafRead_173 : decode cX11_leafRead 173 = .ok (.iconst 1, 1) := dAt (x := (173, .iconst 1, 1)) DX11_leafRead_1 34 rfl
theorem dX11_leafRead_174 : decode cX11_leafRead 174 = .ok (.ireturn, 1) := dAt (x := (174, .ireturn, 1)) DX11_leafRead_1 35 rfl
def lDX11_signs_0 : List (Nat × Instr × Nat) := [(0, .aload_n 0, 1), (1, .bipush 41, 2), (3, .invokevirtual 215, 3), (6, .ifCond .eq 41, 3), (9, .aload_n 0, 1), (10, .getfield 315, 3), (13, .ifCond .le 34, 3), (16, .aload_n 0, 1), (17, .iconst 1, 1), (18, .invokevirtual 338, 3), (21, .aload_n 0, 1), (22, .dup, 1), (23, .getfield 300, 3), (26, .iconst 1, 1), (27, .isub, 1), (28, .putfield 300, 3), (31, .aload_n 0, 1), (32, .dup, 1), (33, .getfield 315, 3), (36, .iconst 1, 1), (37, .isub, 1), (38, .putfield 315, 3), (41, .aload_n 0, 1), (42, .invokevirtual 212, 3), (45, .iconst 1, 1), (46, .ireturn, 1), (47, .aload_n 0, 1), (48, .bipush 14, 2), (50, .invokevirtual 326, 3), (53, .ifCond .eq 7, 3), (56, .iconst 3, 1), (57, .goto 90, 3), (60, .aload_n 0, 1), (61, .bipush 15, 2), (63, .invokevirtual 326, 3), (66, .ifCond .eq 7, 3), (69, .iconst 4, 1), (70, .goto 77, 3), (73, .aload_n 0, 1), (74, .getfield 178, 3), (77, .iconst 5, 1), (78, .if_icmp .ne 12, 3), (81, .iconst 5, 1), (82, .aload_n 0, 1), (83, .getfield 189, 3), (86, .iadd, 1), (87, .goto 60, 3), (90, .aload_n 0, 1), (91, .bipush 43, 2), (93, .invokevirtual 215, 3), (96, .ifCond .eq 8, 3), (99, .bipush 11, 2), (101, .goto 46, 3), (104, .aload_n 0, 1), (105, .bipush 45, 2), (107, .invokevirtual 215, 3), (110, .ifCond .eq 8, 3), (113, .bipush 12, 2), (115, .goto 32, 3), (118, .aload_n 0, 1)]
theorem DX11_signs_0 : dAll cX11_signs lDX11_signs_0 = true := by decide +kernel
theorem dX11_signs_0 : decode cX11_signs 0 = .ok (.aload_n 0, 1) := dAt (x := (0, .aload_n 0, 1)) DX11_signs_0 0 rfl
theorem dX11_signs_1 : decode cX11_signs 1 = .ok (.bipush 41, 2) := dAt (x := (1, .bipush 41, 2)) DX11_signs_0 1 rfl
theorem dX11_signs_3 : decode cX11_signs 3 = .ok (.invokevirtual 215, 3) := dAt (x := (3, .invokevirtual 215, 3)) DX11_signs_0 2 rfl
theorem dX11_signs_6 : decode cX11_signs 6 = .ok (.ifCond .eq 41, 3) := dAt (x := (6, .ifCond .eq 41, 3)) DX11_signs_0 3 rfl
theorem dX11_signs_9 : decode cX11_signs 9 = .ok (.aload_n 0, 1) := dAt (x := (9, .aload_n 0, 1)) DX11_signs_0 4 rfl
theorem dX11_signs_10 : decode cX11_signs 10 = .ok (.getfield 315, 3) := dAt (x := (10, .getfield 315, 3)) DX11_signs_0 5 rfl
theorem dX11_signs_13 : decode cX11_signs 13 = .ok (.ifCond .le 34, 3) := dAt (x := (13, .ifCond .le 34, 3)) DX11_signs_0 6 rfl
theorem dX11_signs_16 : decode cX11_signs 16 = .ok (.aload_n 0, 1) := dAt (x := (16, .aload_n 0, 1)) DX11_signs_0 7 rfl
theorem dX11_signs_17 : decode cX11_signs 17 = .ok (.iconst 1, 1) := dAt (x := (17, .iconst 1, 1)) DX11_signs_0 8 rfl
theorem dX11_signs_18 : decode cX11_signs 18 = .ok (.invokevirtual 338, 3) := dAt (x := (18, .invokevirtual 338, 3)) DX11_signs_0 9 rfl
theorem dX11_signs_21 : decode cX11_signs 21 = .ok (.aload_n 0, 1) := dAt (x := (21, .aload_n 0, 1)) DX11_signs_0 10 rfl
theorem dX11_signs_22 : decode cX11_signs 22 = .ok (.dup, 1) := dAt (x := (22, .dup, 1)) DX11_signs_0 11 rfl
theorem dX11_signs_23 : decode cX11_signs 23 = .ok (.getfield 300, 3) := dAt (x := (23, .getfield 300, 3)) DX11_signs_0 12 rfl
theorem dX11_signs_26 : decode cX11_signs 26 = .ok (.iconst 1, 1) := dAt (x := (26, .iconst 1, 1)) DX11_signs_0 13 rfl
theorem dX11_signs_27 : decode cX11_signs 27 = .ok (.isub, 1) := dAt (x := (27, .isub, 1)) DX11_signs_0 14 rfl
theorem dX11_signs_28 : decode cX11_signs 28 = .ok (.putfield 300, 3) := dAt (x := (28, .putfield 300, 3)) DX11_signs_0 15 rfl
theorem dX11_signs_31 : decode cX11_signs 31 = .ok (.aload_n 0, 1) := dAt (x := (31, .aload_n 0, 1)) DX11_signs_0 16 rfl
theorem dX11_signs_32 : decode cX11_signs 32 = .ok (.dup, 1) := dAt (x := (32, .dup, 1)) DX11_signs_0 17 rfl
theorem dX11_signs_33 : decode cX11_signs 33 = .ok (.getfield 315, 3) := dAt (x := (33, .getfield 315, 3)) DX11_signs_0 18 rfl
theorem dX11_signs_36 : decode cX11_signs 36 = .ok (.iconst 1, 1) := dAt (x := (36, .iconst 1, 1)) DX11_signs_0 19 rfl
theorem dX11_signs_37 : decode cX11_signs 37 = .ok (.isub, 1) := dAt (x := (37, .isub, 1)) DX11_signs_0 20 rfl
theorem dX11_signs_38 : decode cX11_signs 38 = .ok (.putfield 315, 3) := dAt (x := (38, .putfield 315, 3)) DX11_signs_0 21 rfl
theorem dX11_signs_41 : decode cX11_signs 41 = .ok (.aload_n 0, 1) := dAt (x := (41, .aload_n 0, 1)) DX11_signs_0 22 rfl
theorem dX11_signs_42 : decode cX11_signs 42 = .ok (.invokevirtual 212, 3) := dAt (x := (42, .invokevirtual 212, 3)) DX11_signs_0 23 rfl
theorem dX11_signs_45 : decode cX11_signs 45 = .ok (.iconst 1, 1) := dAt (x := (45, .iconst 1, 1)) DX11_signs_0 24 rfl
theorem dX11_signs_46 : decode cX11_signs 46 = .ok (.ireturn, 1) := dAt (x := (46, .ireturn, 1)) DX11_signs_0 25 rfl
theorem dX11_signs_47 : decode cX11_signs 47 = .ok (.aload_n 0, 1) := dAt (x := (47, .aload_n 0, 1)) DX11_signs_0 26 rfl
theorem dX11_signs_48 : decode cX11_signs 48 = .ok (.bipush 14, 2) := dAt (x := (48, .bipush 14, 2)) DX11_signs_0 27 rfl
theorem dX11_signs_50 : decode cX11_signs 50 = .ok (.invokevirtual 326, 3) := dAt (x := (50, .invokevirtual 326, 3)) DX11_signs_0 28 rfl
theorem dX11_signs_53 : decode cX11_signs 53 = .ok (.ifCond .eq 7, 3) := dAt (x := (53, .ifCond .eq 7, 3)) DX11_signs_0 29 rfl
theorem dX11_signs_56 : decode cX11_signs 56 = .ok (.iconst 3, 1) := dAt (x := (56, .iconst 3, 1)) DX11_signs_0 30 rfl
theorem dX11_signs_57 : decode cX11_signs 57 = .ok (.goto 90, 3) := dAt (x := (57, .goto 90, 3)) DX11_signs_0 31 rfl
theorem dX11_signs_60 : decode cX11_signs 60 = .ok (.aload_n 0, 1) := dAt (x := (60, .aload_n 0, 1)) DX11_signs_0 32 rfl
theorem dX11_signs_61 : decode cX11_signs 61 = .ok (.bipush 15, 2) := dAt (x := (61, .bipush 15, 2)) DX11_signs_0 33 rfl
theorem dX11_signs_63 : decode cX11_signs 63 = .ok (.invokevirtual 326, 3) := dAt (x := (63, .invokevirtual 326, 3)) DX11_signs_0 34 rfl
theorem dX11_signs_66 : decode cX11_signs 66 = .ok (.ifCond .eq 7, 3) := dAt (x := (66, .ifCond .eq 7, 3)) DX11_signs_0 35 rfl
theorem dX11_signs_69 : decode cX11_signs 69 = .ok (.iconst 4, 1) := dAt (x := (69, .iconst 4, 1)) DX11_signs_0 36 rfl
theorem dX11_signs_70 : decode cX11_signs 70 = .ok (.goto 77, 3) := dAt (x := (70, .goto 77, 3)) DX11_signs_0 37 rfl
theorem dX11_signs_73 : decode cX11_signs 73 = .ok (.aload_n 0, 1) := dAt (x := (73, .aload_n 0, 1)) DX11_signs_0 38 rfl
theorem dX11_signs_74 : decode cX11_signs 74 = .ok (.getfield 178, 3) := dAt (x := (74, .getfield 178, 3)) DX11_signs_0 39 rfl
theorem dX11_signs_77 : decode cX11_signs 77 = .ok (.iconst 5, 1) := dAt (x := (77, .iconst 5, 1)) DX11_signs_0 40 rfl
theorem dX11_signs_78 : decode cX11_signs 78 = .ok (.if_icmp .ne 12, 3) := dAt (x := (78, .if_icmp .ne 12, 3)) DX11_signs_0 41 rfl
theorem dX11_signs_81 : decode cX11_signs 81 = .ok (.iconst 5, 1) := dAt (x := (81, .iconst 5, 1)) DX11_signs_0 42 rfl
theorem dX11_signs_82 : decode cX11_signs 82 = .ok (.aload_n 0, 1) := dAt (x := (82, .aload_n 0, 1)) DX11_signs_0 43 rfl
theorem dX11_signs_83 : decode cX11_signs 83 = .ok (.getfield 189, 3) := dAt (x := (83, .getfield 189, 3)) DX11_signs_0 44 rfl
theorem dX11_signs_86 : decode cX11_signs 86 = .ok (.iadd, 1) := dAt (x := (86, .iadd, 1)) DX11_signs_0 45 rfl
theorem dX11_signs_87 : decode cX11_signs 87 = .ok (.goto 60, 3) := dAt (x := (87, .goto 60, 3)) DX11_signs_0 46 rfl
theorem dX11_signs_90 : decode cX11_signs 90 = .ok (.aload_n 0, 1) := dAt (x := (90, .aload_n 0, 1)) DX11_signs_0 47 rfl
theorem dX11_signs_91 : decode cX11_signs 91 = .ok (.bipush 43, 2) := dAt (x := (91, .bipush 43, 2)) DX11_signs_0 48 rfl
theorem dX11_signs_93 : decode cX11_signs 93 = .ok (.invokevirtual 215, 3) := dAt (x := (93, .invokevirtual 215, 3)) DX11_signs_0 49 rfl
theorem dX11_signs_96 : decode cX11_signs 96 = .ok (.ifCond .eq 8, 3) := dAt (x := (96, .ifCond .eq 8, 3)) DX11_signs_0 50 rfl
theorem dX11_signs_99 : decode cX11_signs 99 = .ok (.bipush 11, 2) := dAt (x := (99, .bipush 11, 2)) DX11_signs_0 51 rfl
theorem dX11_signs_101 : decode cX11_signs 101 = .ok (.goto 46, 3) := dAt (x := (101, .goto 46, 3)) DX11_signs_0 52 rfl
theorem dX11_signs_104 : decode cX11_signs 104 = .ok (.aload_n 0, 1) := dAt (x := (104, .aload_n 0, 1)) DX11_signs_0 53 rfl
theorem dX11_signs_105 : decode cX11_signs 105 = .ok (.bipush 45, 2) := dAt (x := (105, .bipush 45, 2)) DX11_signs_0 54 rfl
theorem dX11_signs_107 : decode cX11_signs 107 = .ok (.invokevirtual 215, 3) := dAt (x := (107, .invokevirtual 215, 3)) DX11_signs_0 55 rfl
theorem dX11_signs_110 : decode cX11_signs 110 = .ok (.ifCond .eq 8, 3) := dAt (x := (110, .ifCond .eq 8, 3)) DX11_signs_0 56 rfl
theorem dX11_signs_113 : decode cX11_signs 113 = .ok (.bipush 12, 2) := dAt (x := (113, .bipush 12, 2)) DX11_signs_0 57 rfl
theorem dX11_signs_115 : decode cX11_signs 115 = .ok (.goto 32, 3) := dAt (x := (115, .goto 32, 3)) DX11_signs_0 58 rfl
theorem dX11_signs_118 : decode cX11_signs 118 = .ok (.aload_n 0, 1) := dAt (x := (118, .aload_n 0, 1)) DX11_signs_0 59 rfl
def lDX11_signs_1 : List (Nat × Instr × Nat) := [(119, .bipush 42, 2), (121, .invokevirtual 215, 3), (124, .ifCond .eq 8, 3), (127, .bipush 13, 2), (129, .goto 18, 3), (132, .aload_n 0, 1), (133, .bipush 47, 2), (135, .invokevirtual 215, 3), (138, .ifCond .eq 8, 3), (141, .bipush 14, 2), (143, .goto 4, 3), (146, .iconst 0, 1), (147, .istore_n 1, 1), (148, .iload_n 1, 1), (149, .ifCond .ne 9, 3), (152, .aload_n 0, 1), (153, .iconst 1, 1), (154, .invokevirtual 202, 3), (157, .ireturn, 1), (158, .aload_n 0, 1), (159, .iload_n 1, 1), (160, .invokestatic 303, 3), (163, .iconst 4, 1), (164, .if_icmp .ne 7, 3), (167, .iconst 5, 1), (168, .goto 7, 3), (171, .iload_n 1, 1), (172, .invokestatic 303, 3), (175, .invokevirtual 338, 3), (178, .iload_n 1, 1), (179, .invokestatic 303, 3), (182, .iconst 4, 1), (183, .if_icmp .ne 34, 3), (186, .aload_n 0, 1), (187, .getfield 300, 3), (190, .ifCond .le 27, 3), (193, .aload_n 0, 1), (194, .getfield 75, 3), (197, .aload_n 0, 1), (198, .getfield 300, 3), (201, .iconst 1, 1), (202, .isub, 1), (203, .iaload, 1), (204, .invokestatic 303, 3), (207, .iconst 4, 1), (208, .if_icmp .ne 9, 3), (211, .aload_n 0, 1), (212, .iconst 1, 1), (213, .invokevirtual 202, 3), (216, .ireturn, 1), (217, .aload_n 0, 1), (218, .invokevirtual 329, 3), (221, .ifCond .ne 5, 3), (224, .iconst 0, 1), (225, .ireturn, 1), (226, .aload_n 0, 1), (227, .iload_n 1, 1), (228, .invokevirtual 318, 3), (231, .aload_n 0, 1), (232, .iconst 1, 1)]
theorem DX11_signs_1 : dAll cX11_signs lDX11_signs_1 = true := by decide +kernel
theorem dX11_signs_119 : decode cX11_signs 119 = .ok (.bipush 42, 2) := dAt (x := (119, .bipush 42, 2)) DX11_signs_1 0 rfl
theorem dX11_signs_121 : decode cX11_signs 121 = .ok (.invokevirtual 215, 3) := dAt (x := (121, .invokevirtual 215, 3)) DX11_signs_1 1 rfl
theorem dX11_signs_124 : decode cX11_signs 124 = .ok (.ifCond .eq 8, 3) := dAt (x := (124, .ifCond .eq 8, 3)) DX11_signs_1 2 rfl
theorem dX11_signs_127 : decode cX11_signs 127 = .ok (.bipush 13, 2) := dAt (x := (127, .bipush 13, 2)) DX11_signs_1 3 rfl
theorem dX11_signs_129 : decode cX11_signs 129 = .ok (.goto 18, 3) := dAt (x := (129, .goto 18, 3)) DX11_signs_1 4 rfl
theorem dX11_signs_132 : decode cX11_signs 132 = .ok (.aload_n 0, 1) := dAt (x := (132, .aload_n 0, 1)) DX11_signs_1 5 rfl
theorem dX11_signs_133 : decode cX11_signs 133 = .ok (.bipush 47, 2) := dAt (x := (133, .bipush 47, 2)) DX11_signs_1 6 rfl
theorem dX11_signs_135 : decode cX11_signs 135 = .ok (.invokevirtual 215, 3) := dAt (x := (135, .invokevirtual 215, 3)) DX11_signs_1 7 rfl
theorem dX11_signs_138 : decode cX11_signs 138 = .ok (.ifCond .eq 8, 3) := dAt (x := (138, .ifCond .eq 8, 3)) DX11_signs_1 8 rfl
theorem dX11_signs_141 : decode cX11_signs 141 = .ok (.bipush 14, 2) := dAt (x := (141, .bipush 14, 2)) DX11_signs_1 9 rfl
theorem dX11_signs_143 : decode cX11_signs 143 = .ok (.goto 4, 3) := dAt (x := (143, .goto 4, 3)) DX11_signs_1 10 rfl
theorem dX11_signs_146 : decode cX11_signs 146 = .ok (.iconst 0, 1) := dAt (x := (146, .iconst 0, 1)) DX11_signs_1 11 rfl
theorem dX11_signs_147 : decode cX11_signs 147 = .ok (.istore_n 1, 1) := dAt (x := (147, .istore_n 1, 1)) DX11_signs_1 12 rfl
theorem dX11_signs_148 : decode cX11_signs 148 = .ok (.iload_n 1, 1) := dAt (x := (148, .iload_n 1, 1)) DX11_signs_1 13 rfl
theorem dX11_signs_149 : decode cX11_signs 149 = .ok (.ifCond .ne 9, 3) := dAt (x := (149, .ifCond .ne 9, 3)) DX11_signs_1 14 rfl
theorem dX11_signs_152 : decode cX11_signs 152 = .ok (.aload_n 0, 1) := dAt (x := (152, .aload_n 0, 1)) DX11_signs_1 15 rfl
theorem dX11_signs_153 : decode cX11_signs 153 = .ok (.iconst 1, 1) := dAt (x := (153, .iconst 1, 1)) DX11_signs_1 16 rfl
theorem dX11_signs_154 : decode cX11_signs 154 = .ok (.invokevirtual 202, 3) := dAt (x := (154, .invokevirtual 202, 3)) DX11_signs_1 17 rfl
theorem dX11_signs_157 : decode cX11_signs 157 = .ok (.ireturn, 1) := dAt (x := (157, .ireturn, 1)) DX11_signs_1 18 rfl
theorem dX11_signs_158 : decode cX11_signs 158 = .ok (.aload_n 0, 1) := dAt (x := (158, .aload_n 0, 1)) DX11_signs_1 19 rfl
theorem dX11_signs_159 : decode cX11_signs 159 = .ok (.iload_n 1, 1) := dAt (x := (159, .iload_n 1, 1)) DX11_signs_1 20 rfl
theorem dX11_signs_160 : decode cX11_signs 160 = .ok (.invokestatic 303, 3) := dAt (x := (160, .invokestatic 303, 3)) DX11_signs_1 21 rfl
theorem dX11_signs_163 : decode cX11_signs 163 = .ok (.iconst 4, 1) := dAt (x := (163, .iconst 4, 1)) DX11_signs_1 22 rfl
theorem dX11_signs_164 : decode cX11_signs 164 = .ok (.if_icmp .ne 7, 3) := dAt (x := (164, .if_icmp .ne 7, 3)) DX11_signs_1 23 rfl
theorem dX11_signs_167 : decode cX11_signs 167 = .ok (.iconst 5, 1) := dAt (x := (167, .iconst 5, 1)) DX11_signs_1 24 rfl
theorem dX11_signs_168 : decode cX11_signs 168 = .ok (.goto 7, 3) := dAt (x := (168, .goto 7, 3)) DX11_signs_1 25 rfl
theorem dX11_signs_171 : decode cX11_signs 171 = .ok (.iload_n 1, 1) := dAt (x := (171, .iload_n 1, 1)) DX11_signs_1 26 rfl
theorem dX11_signs_172 : decode cX11_signs 172 = .ok (.invokestatic 303, 3) := dAt (x := (172, .invokestatic 303, 3)) DX11_signs_1 27 rfl
theorem dX11_signs_175 : decode cX11_signs 175 = .ok (.invokevirtual 338, 3) := dAt (x := (175, .invokevirtual 338, 3)) DX11_signs_1 28 rfl
theorem dX11_signs_178 : decode cX11_signs 178 = .ok (.iload_n 1, 1) := dAt (x := (178, .iload_n 1, 1)) DX11_signs_1 29 rfl
theorem dX11_signs_179 : decode cX11_signs 179 = .ok (.invokestatic 303, 3) := dAt (x := (179, .invokestatic 303, 3)) DX11_signs_1 30 rfl
theorem dX11_signs_182 : decode cX11_signs 182 = .ok (.iconst 4, 1) := dAt (x := (182, .iconst 4, 1)) DX11_signs_1 31 rfl
theorem dX11_signs_183 : decode cX11_signs 183 = .ok (.if_icmp .ne 34, 3) := dAt (x := (183, .if_icmp .ne 34, 3)) DX11_signs_1 32 rfl
theorem dX11_signs_186 : decode cX11_signs 186 = .ok (.aload_n 0, 1) := dAt (x := (186, .aload_n 0, 1)) DX11_signs_1 33 rfl
theorem dX11_signs_187 : decode cX11_signs 187 = .ok (.getfield 300, 3) := dAt (x := (187, .getfield 300, 3)) DX11_signs_1 34 rfl
theorem dX11_signs_190 : decode cX11_signs 190 = .ok (.ifCond .le 27, 3) := dAt (x := (190, .ifCond .le 27, 3)) DX11_signs_1 35 rfl
theorem dX11_signs_193 : decode cX11_signs 193 = .ok (.aload_n 0, 1) := dAt (x := (193, .aload_n 0, 1)) DX11_signs_1 36 rfl
theorem dX11_signs_194 : decode cX11_signs 194 = .ok (.getfield 75, 3) := dAt (x := (194, .getfield 75, 3)) DX11_signs_1 37 rfl
theorem dX11_signs_197 : decode cX11_signs 197 = .ok (.aload_n 0, 1) := dAt (x := (197, .aload_n 0, 1)) DX11_signs_1 38 rfl
theorem dX11_signs_198 : decode cX11_signs 198 = .ok (.getfield 300, 3) := dAt (x := (198, .getfield 300, 3)) DX11_signs_1 39 rfl
theorem dX11_signs_201 : decode cX11_signs 201 = .ok (.iconst 1, 1) := dAt (x := (201, .iconst 1, 1)) DX11_signs_1 40 rfl
theorem dX11_signs_202 : decode cX11_signs 202 = .ok (.isub, 1) := dAt (x := (202, .isub, 1)) DX11_signs_1 41 rfl
theorem dX11_signs_203 : decode cX11_signs 203 = .ok (.iaload, 1) := dAt (x := (203, .iaload, 1)) DX11_signs_1 42 rfl
theorem dX11_signs_204 : decode cX11_signs 204 = .ok (.invokestatic 303, 3) := dAt (x := (204, .invokestatic 303, 3)) DX11_signs_1 43 rfl
theorem dX11_signs_207 : decode cX11_signs 207 = .ok (.iconst 4, 1) := dAt (x := (207, .iconst 4, 1)) DX11_signs_1 44 rfl
theorem dX11_signs_208 : decode cX11_signs 208 = .ok (.if_icmp .ne 9, 3) := dAt (x := (208, .if_icmp .ne 9, 3)) DX11_signs_1 45 rfl
theorem dX11_signs_211 : decode cX11_signs 211 = .ok (.aload_n 0, 1) := dAt (x := (211, .aload_n 0, 1)) DX11_signs_1 46 rfl
theorem dX11_signs_212 : decode cX11_signs 212 = .ok (.iconst 1, 1) := dAt (x := (212, .iconst 1, 1)) DX11_signs_1 47 rfl
theorem dX11_signs_213 : decode cX11_signs 213 = .ok (.invokevirtual 202, 3) := dAt (x := (213, .invokevirtual 202, 3)) DX11_signs_1 48 rfl
theorem dX11_signs_216 : decode cX11_signs 216 = .ok (.ireturn, 1) := dAt (x := (216, .ireturn, 1)) DX11_signs_1 49 rfl
theorem dX11_signs_217 : decode cX11_signs 217 = .ok (.aload_n 0, 1) := dAt (x := (217, .aload_n 0, 1)) DX11_signs_1 50 rfl
theorem dX11_signs_218 : decode cX11_signs 218 = .ok (.invokevirtual 329, 3) := dAt (x := (218, .invokevirtual 329, 3)) DX11_signs_1 51 rfl
theorem dX11_signs_221 : decode cX11_signs 221 = .ok (.ifCond .ne 5, 3) := dAt (x := (221, .ifCond .ne 5, 3)) DX11_signs_1 52 rfl
theorem dX11_signs_224 : decode cX11_signs 224 = .ok (.iconst 0, 1) := dAt (x := (224, .iconst 0, 1)) DX11_signs_1 53 rfl
theorem dX11_signs_225 : decode cX11_signs 225 = .ok (.ireturn, 1) := dAt (x := (225, .ireturn, 1)) DX11_signs_1 54 rfl
theorem dX11_signs_226 : decode cX11_signs 226 = .ok (.aload_n 0, 1) := dAt (x := (226, .aload_n 0, 1)) DX11_signs_1 55 rfl
theorem dX11_signs_227 : decode cX11_signs 227 = .ok (.iload_n 1, 1) := dAt (x := (227, .iload_n 1, 1)) DX11_signs_1 56 rfl
theorem dX11_signs_228 : decode cX11_signs 228 = .ok (.invokevirtual 318, 3) := dAt (x := (228, .invokevirtual 318, 3)) DX11_signs_1 57 rfl
theorem dX11_signs_231 : decode cX11_signs 231 = .ok (.aload_n 0, 1) := dAt (x := (231, .aload_n 0, 1)) DX11_signs_1 58 rfl
theorem dX11_signs_232 : decode cX11_signs 232 = .ok (.iconst 1, 1) := dAt (x := (232, .iconst 1, 1)) DX11_signs_1 59 rfl
def lDX11_signs_2 : List (Nat × Instr × Nat) := [(233, .putfield 335, 3), (236, .aload_n 0, 1), (237, .iload_n 1, 1), (238, .invokestatic 303, 3), (241, .iconst 3, 1), (242, .if_icmp .ge 7, 3), (245, .iconst 1, 1), (246, .goto 4, 3), (249, .iconst 0, 1), (250, .putfield 322, 3), (253, .aload_n 0, 1), (254, .invokevirtual 212, 3), (257, .iconst 1, 1), (258, .ireturn, 1)]
theorem DX11_signs_2 : dAll cX11_signs lDX11_signs_2 = true := by decide +kernel
theorem dX11_signs_233 : decode cX11_signs 233 = .ok (.putfield 335, 3) := dAt (x := (233, .putfield 335, 3)) DX11_signs_2 0 rfl
theorem dX11_signs_236 : decode cX11_signs 236 = .ok (.aload_n 0, 1) := dAt (x := (236, .aload_n 0, 1)) DX11_signs_2 1 rfl
theorem dX11_signs_237 : decode cX11_signs 237 = .ok (.iload_n 1, 1) := dAt (x := (237, .iload_n 1, 1)) DX11_signs_2 2 rfl
theorem dX11_signs_238 : decode cX11_signs 238 = .ok (.invokestatic 303, 3) := dAt (x := (238, .invokestatic 303, 3)) DX11_signs_2 3 rfl
theorem dX11_signs_241 : decode cX11_signs 241 = .ok (.iconst 3, 1) := dAt (x := (241, .iconst 3, 1)) DX11_signs_2 4 rfl
theorem dX11_signs_242 : decode cX11_signs 242 = .ok (.if_icmp .ge 7, 3) := dAt (x := (242, .if_icmp .ge 7, 3)) DX11_signs_2 5 rfl
theorem dX11_signs_245 : decode cX11_signs 245 = .ok (.iconst 1, 1) := dAt (x := (245, .iconst 1, 1)) DX11_signs_2 6 rfl
theorem dX11_signs_246 : decode cX11_signs 246 = .ok (.goto 4, 3) := dAt (x := (246, .goto 4, 3)) DX11_signs_2 7 rfl
theorem dX11_signs_249 : decode cX11_signs 249 = .ok (.iconst 0, 1) := dAt (x := (249, .iconst 0, 1)) DX11_signs_2 8 rfl
theorem dX11_signs_250 : decode cX11_signs 250 = .ok (.putfield 322, 3) := dAt (x := (250, .putfield 322, 3)) DX11_signs_2 9 rfl
theorem dX11_signs_253 : decode cX11_signs 253 = .ok (.aload_n 0, 1) := dAt (x := (253, .aload_n 0, 1)) DX11_signs_2 10 rfl
theorem dX11_signs_254 : decode cX11_signs 254 = .ok (.invokevirtual 212, 3) := dAt (x := (254, .invokevirtual 212, 3)) DX11_signs_2 11 rfl
theorem dX11_signs_257 : decode cX11_signs 257 = .ok (.iconst 1, 1) := dAt (x := (257, .iconst 1, 1)) DX11_signs_2 12 rfl
theorem dX11_signs_258 : decode cX11_signs 258 = .ok (.ireturn, 1) := dAt (x := (258, .ireturn, 1)) DX11_signs_2 13 rfl
def lDX11_sumRead_0 : List (Nat × Instr × Nat) := [(0, .aload_n 0, 1), (1, .iconst 0, 1), (2, .putfield 300, 3), (5, .aload_n 0, 1), (6, .iconst 0, 1), (7, .putfield 297, 3), (10, .aload_n 0, 1), (11, .iconst 0, 1), (12, .putfield 315, 3), (15, .aload_n 0, 1), (16, .iconst 1, 1), (17, .putfield 335, 3), (20, .aload_n 0, 1), (21, .iconst 1, 1), (22, .putfield 322, 3), (25, .aload_n 0, 1), (26, .bipush 59, 2), (28, .invokevirtual 215, 3), (31, .ifCond .eq 17, 3), (34, .aload_n 0, 1), (35, .getfield 335, 3), (38, .ifCond .ne 10, 3), (41, .aload_n 0, 1), (42, .getfield 315, 3), (45, .ifCond .le 29, 3), (48, .aload_n 0, 1), (49, .getfield 335, 3), (52, .ifCond .eq 13, 3), (55, .aload_n 0, 1), (56, .invokevirtual 341, 3), (59, .ifCond .eq 13, 3), (62, .goto (-37), 3), (65, .aload_n 0, 1), (66, .invokevirtual 344, 3), (69, .ifCond .ne (-44), 3), (72, .iconst 0, 1), (73, .ireturn, 1), (74, .aload_n 0, 1), (75, .iconst 1, 1), (76, .invokevirtual 338, 3), (79, .iconst 1, 1), (80, .ireturn, 1)]
theorem DX11_sumRead_0 : dAll cX11_sumRead lDX11_sumRead_0 = true := by decide +kernel
theorem dX11_sumRead_0 : decode cX11_sumRead 0 = .ok (.aload_n 0, 1) := dAt (x := (0, .aload_n 0, 1)) DX11_sumRead_0 0 rfl
theorem dX11_sumRead_1 : decode cX11_sumRead 1 = .ok (.iconst 0, 1) := dAt (x := (1, .iconst 0, 1)) DX11_sumRead_0 1 rfl
theorem dX11_sumRead_2 : decode cX11_sumRead 2 = .ok (.putfield 300, 3) := dAt (x := (2, .putfield 300, 3)) DX11_sumRead_0 2 rfl
theorem dX11_sumRead_5 : decode cX11_sumRead 5 = .ok (.aload_n 0, 1) := dAt (x := (5, .aload_n 0, 1)) DX11_sumRead_0 3 rfl
theorem dX11_sumRead_6 : decode cX11_sumRead 6 = .ok (.iconst 0, 1) := dAt (x := (6, .iconst 0, 1)) DX11_sumRead_0 4 rfl
theorem dX11_sumRead_7 : decode cX11_sumRead 7 = .ok (.putfield 297, 3) := dAt (x := (7, .putfield 297, 3)) DX11_sumRead_0 5 rfl
theorem dX11_sumRead_10 : decode cX11_sumRead 10 = .ok (.aload_n 0, 1) := dAt (x := (10, .aload_n 0, 1)) DX11_sumRead_0 6 rfl
theorem dX11_sumRead_11 : decode cX11_sumRead 11 = .ok (.iconst 0, 1) := dAt (x := (11, .iconst 0, 1)) DX11_sumRead_0 7 rfl
theorem dX11_sumRead_12 : decode cX11_sumRead 12 = .ok (.putfield 315, 3) := dAt (x := (12, .putfield 315, 3)) DX11_sumRead_0 8 rfl
theorem dX11_sumRead_15 : decode cX11_sumRead 15 = .ok (.aload_n 0, 1) := dAt (x := (15, .aload_n 0, 1)) DX11_sumRead_0 9 rfl
theorem dX11_sumRead_16 : decode cX11_sumRead 16 = .ok (.iconst 1, 1) := dAt (x := (16, .iconst 1, 1)) DX11_sumRead_0 10 rfl
theorem dX11_sumRead_17 : decode cX11_sumRead 17 = .ok (.putfield 335, 3) := dAt (x := (17, .putfield 335, 3)) DX11_sumRead_0 11 rfl
theorem dX11_sumRead_20 : decode cX11_sumRead 20 = .ok (.aload_n 0, 1) := dAt (x := (20, .aload_n 0, 1)) DX11_sumRead_0 12 rfl
theorem dX11_sumRead_21 : decode cX11_sumRead 21 = .ok (.iconst 1, 1) := dAt (x := (21, .iconst 1, 1)) DX11_sumRead_0 13 rfl
theorem dX11_sumRead_22 : decode cX11_sumRead 22 = .ok (.putfield 322, 3) := dAt (x := (22, .putfield 322, 3)) DX11_sumRead_0 14 rfl
theorem dX11_sumRead_25 : decode cX11_sumRead 25 = .ok (.aload_n 0, 1) := dAt (x := (25, .aload_n 0, 1)) DX11_sumRead_0 15 rfl
theorem dX11_sumRead_26 : decode cX11_sumRead 26 = .ok (.bipush 59, 2) := dAt (x := (26, .bipush 59, 2)) DX11_sumRead_0 16 rfl
theorem dX11_sumRead_28 : decode cX11_sumRead 28 = .ok (.invokevirtual 215, 3) := dAt (x := (28, .invokevirtual 215, 3)) DX11_sumRead_0 17 rfl
theorem dX11_sumRead_31 : decode cX11_sumRead 31 = .ok (.ifCond .eq 17, 3) := dAt (x := (31, .ifCond .eq 17, 3)) DX11_sumRead_0 18 rfl
theorem dX11_sumRead_34 : decode cX11_sumRead 34 = .ok (.aload_n 0, 1) := dAt (x := (34, .aload_n 0, 1)) DX11_sumRead_0 19 rfl
theorem dX11_sumRead_35 : decode cX11_sumRead 35 = .ok (.getfield 335, 3) := dAt (x := (35, .getfield 335, 3)) DX11_sumRead_0 20 rfl
theorem dX11_sumRead_38 : decode cX11_sumRead 38 = .ok (.ifCond .ne 10, 3) := dAt (x := (38, .ifCond .ne 10, 3)) DX11_sumRead_0 21 rfl
theorem dX11_sumRead_41 : decode cX11_sumRead 41 = .ok (.aload_n 0, 1) := dAt (x := (41, .aload_n 0, 1)) DX11_sumRead_0 22 rfl
theorem dX11_sumRead_42 : decode cX11_sumRead 42 = .ok (.getfield 315, 3) := dAt (x := (42, .getfield 315, 3)) DX11_sumRead_0 23 rfl
theorem dX11_sumRead_45 : decode cX11_sumRead 45 = .ok (.ifCond .le 29, 3) := dAt (x := (45, .ifCond .le 29, 3)) DX11_sumRead_0 24 rfl
theorem dX11_sumRead_48 : decode cX11_sumRead 48 = .ok (.aload_n 0, 1) := dAt (x := (48, .aload_n 0, 1)) DX11_sumRead_0 25 rfl
theorem dX11_sumRead_49 : decode cX11_sumRead 49 = .ok (.getfield 335, 3) := dAt (x := (49, .getfield 335, 3)) DX11_sumRead_0 26 rfl
theorem dX11_sumRead_52 : decode cX11_sumRead 52 = .ok (.ifCond .eq 13, 3) := dAt (x := (52, .ifCond .eq 13, 3)) DX11_sumRead_0 27 rfl
theorem dX11_sumRead_55 : decode cX11_sumRead 55 = .ok (.aload_n 0, 1) := dAt (x := (55, .aload_n 0, 1)) DX11_sumRead_0 28 rfl
theorem dX11_sumRead_56 : decode cX11_sumRead 56 = .ok (.invokevirtual 341, 3) := dAt (x := (56, .invokevirtual 341, 3)) DX11_sumRead_0 29 rfl
theorem dX11_sumRead_59 : decode cX11_sumRead 59 = .ok (.ifCond .eq 13, 3) := dAt (x := (59, .ifCond .eq 13, 3)) DX11_sumRead_0 30 rfl
theorem dX11_sumRead_62 : decode cX11_sumRead 62 = .ok (.goto (-37), 3) := dAt (x := (62, .goto (-37), 3)) DX11_sumRead_0 31 rfl
theorem dX11_sumRead_65 : decode cX11_sumRead 65 = .ok (.aload_n 0, 1) := dAt (x := (65, .aload_n 0, 1)) DX11_sumRead_0 32 rfl
theorem dX11_sumRead_66 : decode cX11_sumRead 66 = .ok (.invokevirtual 344, 3) := dAt (x := (66, .invokevirtual 344, 3)) DX11_sumRead_0 33 rfl
theorem dX11_sumRead_69 : decode cX11_sumRead 69 = .ok (.ifCond .ne (-44), 3) := dAt (x := (69, .ifCond .ne (-44), 3)) DX11_sumRead_0 34 rfl
theorem dX11_sumRead_72 : decode cX11_sumRead 72 = .ok (.iconst 0, 1) := dAt (x := (72, .iconst 0, 1)) DX11_sumRead_0 35 rfl
theorem dX11_sumRead_73 : decode cX11_sumRead 73 = .ok (.ireturn, 1) := dAt (x := (73, .ireturn, 1)) DX11_sumRead_0 36 rfl
theorem dX11_sumRead_74 : decode cX11_sumRead 74 = .ok (.aload_n 0, 1) := dAt (x := (74, .aload_n 0, 1)) DX11_sumRead_0 37 rfl
theorem dX11_sumRead_75 : decode cX11_sumRead 75 = .ok (.iconst 1, 1) := dAt (x := (75, .iconst 1, 1)) DX11_sumRead_0 38 rfl
theorem dX11_sumRead_76 : decode cX11_sumRead 76 = .ok (.invokevirtual 338, 3) := dAt (x := (76, .invokevirtual 338, 3)) DX11_sumRead_0 39 rfl
theorem dX11_sumRead_79 : decode cX11_sumRead 79 = .ok (.iconst 1, 1) := dAt (x := (79, .iconst 1, 1)) DX11_sumRead_0 40 rfl
theorem dX11_sumRead_80 : decode cX11_sumRead 80 = .ok (.ireturn, 1) := dAt (x := (80, .ireturn, 1)) DX11_sumRead_0 41 rfl
def lDX11_bounded_0 : List (Nat × Instr × Nat) := [(0, .aload_n 0, 1), (1, .aload_n 0, 1), (2, .getfield 347, 3), (5, .ifCond .ne 19, 3), (8, .lload_n 1, 1), (9, .ldc2_w 350, 3), (12, .lcmp, 1), (13, .ifCond .gt 11, 3), (16, .lload_n 1, 1), (17, .ldc2_w 352, 3), (20, .lcmp, 1), (21, .ifCond .ge 7, 3), (24, .iconst 1, 1), (25, .goto 4, 3), (28, .iconst 0, 1), (29, .putfield 347, 3), (32, .aload_n 0, 1), (33, .getfield 347, 3), (36, .ifCond .eq 7, 3), (39, .lconst 0, 1), (40, .goto 4, 3), (43, .lload_n 1, 1), (44, .lreturn, 1)]
theorem DX11_bounded_0 : dAll cX11_bounded lDX11_bounded_0 = true := by decide +kernel
theorem dX11_bounded_0 : decode cX11_bounded 0 = .ok (.aload_n 0, 1) := dAt (x := (0, .aload_n 0, 1)) DX11_bounded_0 0 rfl
theorem dX11_bounded_1 : decode cX11_bounded 1 = .ok (.aload_n 0, 1) := dAt (x := (1, .aload_n 0, 1)) DX11_bounded_0 1 rfl
theorem dX11_bounded_2 : decode cX11_bounded 2 = .ok (.getfield 347, 3) := dAt (x := (2, .getfield 347, 3)) DX11_bounded_0 2 rfl
theorem dX11_bounded_5 : decode cX11_bounded 5 = .ok (.ifCond .ne 19, 3) := dAt (x := (5, .ifCond .ne 19, 3)) DX11_bounded_0 3 rfl
theorem dX11_bounded_8 : decode cX11_bounded 8 = .ok (.lload_n 1, 1) := dAt (x := (8, .lload_n 1, 1)) DX11_bounded_0 4 rfl
theorem dX11_bounded_9 : decode cX11_bounded 9 = .ok (.ldc2_w 350, 3) := dAt (x := (9, .ldc2_w 350, 3)) DX11_bounded_0 5 rfl
theorem dX11_bounded_12 : decode cX11_bounded 12 = .ok (.lcmp, 1) := dAt (x := (12, .lcmp, 1)) DX11_bounded_0 6 rfl
theorem dX11_bounded_13 : decode cX11_bounded 13 = .ok (.ifCond .gt 11, 3) := dAt (x := (13, .ifCond .gt 11, 3)) DX11_bounded_0 7 rfl
theorem dX11_bounded_16 : decode cX11_bounded 16 = .ok (.lload_n 1, 1) := dAt (x := (16, .lload_n 1, 1)) DX11_bounded_0 8 rfl
theorem dX11_bounded_17 : decode cX11_bounded 17 = .ok (.ldc2_w 352, 3) := dAt (x := (17, .ldc2_w 352, 3)) DX11_bounded_0 9 rfl
theorem dX11_bounded_20 : decode cX11_bounded 20 = .ok (.lcmp, 1) := dAt (x := (20, .lcmp, 1)) DX11_bounded_0 10 rfl
theorem dX11_bounded_21 : decode cX11_bounded 21 = .ok (.ifCond .ge 7, 3) := dAt (x := (21, .ifCond .ge 7, 3)) DX11_bounded_0 11 rfl
theorem dX11_bounded_24 : decode cX11_bounded 24 = .ok (.iconst 1, 1) := dAt (x := (24, .iconst 1, 1)) DX11_bounded_0 12 rfl
theorem dX11_bounded_25 : decode cX11_bounded 25 = .ok (.goto 4, 3) := dAt (x := (25, .goto 4, 3)) DX11_bounded_0 13 rfl
theorem dX11_bounded_28 : decode cX11_bounded 28 = .ok (.iconst 0, 1) := dAt (x := (28, .iconst 0, 1)) DX11_bounded_0 14 rfl
theorem dX11_bounded_29 : decode cX11_bounded 29 = .ok (.putfield 347, 3) := dAt (x := (29, .putfield 347, 3)) DX11_bounded_0 15 rfl
theorem dX11_bounded_32 : decode cX11_bounded 32 = .ok (.aload_n 0, 1) := dAt (x := (32, .aload_n 0, 1)) DX11_bounded_0 16 rfl
theorem dX11_bounded_33 : decode cX11_bounded 33 = .ok (.getfield 347, 3) := dAt (x := (33, .getfield 347, 3)) DX11_bounded_0 17 rfl
theorem dX11_bounded_36 : decode cX11_bounded 36 = .ok (.ifCond .eq 7, 3) := dAt (x := (36, .ifCond .eq 7, 3)) DX11_bounded_0 18 rfl
theorem dX11_bounded_39 : decode cX11_bounded 39 = .ok (.lconst 0, 1) := dAt (x := (39, .lconst 0, 1)) DX11_bounded_0 19 rfl
theorem dX11_bounded_40 : decode cX11_bounded 40 = .ok (.goto 4, 3) := dAt (x := (40, .goto 4, 3)) DX11_bounded_0 20 rfl
theorem dX11_bounded_43 : decode cX11_bounded 43 = .ok (.lload_n 1, 1) := dAt (x := (43, .lload_n 1, 1)) DX11_bounded_0 21 rfl
theorem dX11_bounded_44 : decode cX11_bounded 44 = .ok (.lreturn, 1) := dAt (x := (44, .lreturn, 1)) DX11_bounded_0 22 rfl
def lDX11_compares_0 : List (Nat × Instr × Nat) := [(0, .iload_n 0, 1), (1, .tableswitch 95 5 9 #[35, 47, 59, 71, 83], 35), (36, .lload_n 1, 1), (37, .lload_n 3, 1), (38, .lcmp, 1), (39, .ifCond .ge 7, 3), (42, .iconst 1, 1), (43, .goto 4, 3), (46, .iconst 0, 1), (47, .ireturn, 1), (48, .lload_n 1, 1), (49, .lload_n 3, 1), (50, .lcmp, 1), (51, .ifCond .gt 7, 3), (54, .iconst 1, 1), (55, .goto 4, 3), (58, .iconst 0, 1), (59, .ireturn, 1), (60, .lload_n 1, 1), (61, .lload_n 3, 1), (62, .lcmp, 1), (63, .ifCond .ne 7, 3), (66, .iconst 1, 1), (67, .goto 4, 3), (70, .iconst 0, 1), (71, .ireturn, 1), (72, .lload_n 1, 1), (73, .lload_n 3, 1), (74, .lcmp, 1), (75, .ifCond .eq 7, 3), (78, .iconst 1, 1), (79, .goto 4, 3), (82, .iconst 0, 1), (83, .ireturn, 1), (84, .lload_n 1, 1), (85, .lload_n 3, 1), (86, .lcmp, 1), (87, .ifCond .lt 7, 3), (90, .iconst 1, 1), (91, .goto 4, 3), (94, .iconst 0, 1), (95, .ireturn, 1), (96, .lload_n 1, 1), (97, .lload_n 3, 1), (98, .lcmp, 1), (99, .ifCond .le 7, 3), (102, .iconst 1, 1), (103, .goto 4, 3), (106, .iconst 0, 1), (107, .ireturn, 1)]
theorem DX11_compares_0 : dAll cX11_compares lDX11_compares_0 = true := by decide +kernel
theorem dX11_compares_0 : decode cX11_compares 0 = .ok (.iload_n 0, 1) := dAt (x := (0, .iload_n 0, 1)) DX11_compares_0 0 rfl
theorem dX11_compares_1 : decode cX11_compares 1 = .ok (.tableswitch 95 5 9 #[35, 47, 59, 71, 83], 35) := dAt (x := (1, .tableswitch 95 5 9 #[35, 47, 59, 71, 83], 35)) DX11_compares_0 1 rfl
theorem dX11_compares_36 : decode cX11_compares 36 = .ok (.lload_n 1, 1) := dAt (x := (36, .lload_n 1, 1)) DX11_compares_0 2 rfl
theorem dX11_compares_37 : decode cX11_compares 37 = .ok (.lload_n 3, 1) := dAt (x := (37, .lload_n 3, 1)) DX11_compares_0 3 rfl
theorem dX11_compares_38 : decode cX11_compares 38 = .ok (.lcmp, 1) := dAt (x := (38, .lcmp, 1)) DX11_compares_0 4 rfl
theorem dX11_compares_39 : decode cX11_compares 39 = .ok (.ifCond .ge 7, 3) := dAt (x := (39, .ifCond .ge 7, 3)) DX11_compares_0 5 rfl
theorem dX11_compares_42 : decode cX11_compares 42 = .ok (.iconst 1, 1) := dAt (x := (42, .iconst 1, 1)) DX11_compares_0 6 rfl
theorem dX11_compares_43 : decode cX11_compares 43 = .ok (.goto 4, 3) := dAt (x := (43, .goto 4, 3)) DX11_compares_0 7 rfl
theorem dX11_compares_46 : decode cX11_compares 46 = .ok (.iconst 0, 1) := dAt (x := (46, .iconst 0, 1)) DX11_compares_0 8 rfl
theorem dX11_compares_47 : decode cX11_compares 47 = .ok (.ireturn, 1) := dAt (x := (47, .ireturn, 1)) DX11_compares_0 9 rfl
theorem dX11_compares_48 : decode cX11_compares 48 = .ok (.lload_n 1, 1) := dAt (x := (48, .lload_n 1, 1)) DX11_compares_0 10 rfl
theorem dX11_compares_49 : decode cX11_compares 49 = .ok (.lload_n 3, 1) := dAt (x := (49, .lload_n 3, 1)) DX11_compares_0 11 rfl
theorem dX11_compares_50 : decode cX11_compares 50 = .ok (.lcmp, 1) := dAt (x := (50, .lcmp, 1)) DX11_compares_0 12 rfl
theorem dX11_compares_51 : decode cX11_compares 51 = .ok (.ifCond .gt 7, 3) := dAt (x := (51, .ifCond .gt 7, 3)) DX11_compares_0 13 rfl
theorem dX11_compares_54 : decode cX11_compares 54 = .ok (.iconst 1, 1) := dAt (x := (54, .iconst 1, 1)) DX11_compares_0 14 rfl
theorem dX11_compares_55 : decode cX11_compares 55 = .ok (.goto 4, 3) := dAt (x := (55, .goto 4, 3)) DX11_compares_0 15 rfl
theorem dX11_compares_58 : decode cX11_compares 58 = .ok (.iconst 0, 1) := dAt (x := (58, .iconst 0, 1)) DX11_compares_0 16 rfl
theorem dX11_compares_59 : decode cX11_compares 59 = .ok (.ireturn, 1) := dAt (x := (59, .ireturn, 1)) DX11_compares_0 17 rfl
theorem dX11_compares_60 : decode cX11_compares 60 = .ok (.lload_n 1, 1) := dAt (x := (60, .lload_n 1, 1)) DX11_compares_0 18 rfl
theorem dX11_compares_61 : decode cX11_compares 61 = .ok (.lload_n 3, 1) := dAt (x := (61, .lload_n 3, 1)) DX11_compares_0 19 rfl
theorem dX11_compares_62 : decode cX11_compares 62 = .ok (.lcmp, 1) := dAt (x := (62, .lcmp, 1)) DX11_compares_0 20 rfl
theorem dX11_compares_63 : decode cX11_compares 63 = .ok (.ifCond .ne 7, 3) := dAt (x := (63, .ifCond .ne 7, 3)) DX11_compares_0 21 rfl
theorem dX11_compares_66 : decode cX11_compares 66 = .ok (.iconst 1, 1) := dAt (x := (66, .iconst 1, 1)) DX11_compares_0 22 rfl
theorem dX11_compares_67 : decode cX11_compares 67 = .ok (.goto 4, 3) := dAt (x := (67, .goto 4, 3)) DX11_compares_0 23 rfl
theorem dX11_compares_70 : decode cX11_compares 70 = .ok (.iconst 0, 1) := dAt (x := (70, .iconst 0, 1)) DX11_compares_0 24 rfl
theorem dX11_compares_71 : decode cX11_compares 71 = .ok (.ireturn, 1) := dAt (x := (71, .ireturn, 1)) DX11_compares_0 25 rfl
theorem dX11_compares_72 : decode cX11_compares 72 = .ok (.lload_n 1, 1) := dAt (x := (72, .lload_n 1, 1)) DX11_compares_0 26 rfl
theorem dX11_compares_73 : decode cX11_compares 73 = .ok (.lload_n 3, 1) := dAt (x := (73, .lload_n 3, 1)) DX11_compares_0 27 rfl
theorem dX11_compares_74 : decode cX11_compares 74 = .ok (.lcmp, 1) := dAt (x := (74, .lcmp, 1)) DX11_compares_0 28 rfl
theorem dX11_compares_75 : decode cX11_compares 75 = .ok (.ifCond .eq 7, 3) := dAt (x := (75, .ifCond .eq 7, 3)) DX11_compares_0 29 rfl
theorem dX11_compares_78 : decode cX11_compares 78 = .ok (.iconst 1, 1) := dAt (x := (78, .iconst 1, 1)) DX11_compares_0 30 rfl
theorem dX11_compares_79 : decode cX11_compares 79 = .ok (.goto 4, 3) := dAt (x := (79, .goto 4, 3)) DX11_compares_0 31 rfl
theorem dX11_compares_82 : decode cX11_compares 82 = .ok (.iconst 0, 1) := dAt (x := (82, .iconst 0, 1)) DX11_compares_0 32 rfl
theorem dX11_compares_83 : decode cX11_compares 83 = .ok (.ireturn, 1) := dAt (x := (83, .ireturn, 1)) DX11_compares_0 33 rfl
theorem dX11_compares_84 : decode cX11_compares 84 = .ok (.lload_n 1, 1) := dAt (x := (84, .lload_n 1, 1)) DX11_compares_0 34 rfl
theorem dX11_compares_85 : decode cX11_compares 85 = .ok (.lload_n 3, 1) := dAt (x := (85, .lload_n 3, 1)) DX11_compares_0 35 rfl
theorem dX11_compares_86 : decode cX11_compares 86 = .ok (.lcmp, 1) := dAt (x := (86, .lcmp, 1)) DX11_compares_0 36 rfl
theorem dX11_compares_87 : decode cX11_compares 87 = .ok (.ifCond .lt 7, 3) := dAt (x := (87, .ifCond .lt 7, 3)) DX11_compares_0 37 rfl
theorem dX11_compares_90 : decode cX11_compares 90 = .ok (.iconst 1, 1) := dAt (x := (90, .iconst 1, 1)) DX11_compares_0 38 rfl
theorem dX11_compares_91 : decode cX11_compares 91 = .ok (.goto 4, 3) := dAt (x := (91, .goto 4, 3)) DX11_compares_0 39 rfl
theorem dX11_compares_94 : decode cX11_compares 94 = .ok (.iconst 0, 1) := dAt (x := (94, .iconst 0, 1)) DX11_compares_0 40 rfl
theorem dX11_compares_95 : decode cX11_compares 95 = .ok (.ireturn, 1) := dAt (x := (95, .ireturn, 1)) DX11_compares_0 41 rfl
theorem dX11_compares_96 : decode cX11_compares 96 = .ok (.lload_n 1, 1) := dAt (x := (96, .lload_n 1, 1)) DX11_compares_0 42 rfl
theorem dX11_compares_97 : decode cX11_compares 97 = .ok (.lload_n 3, 1) := dAt (x := (97, .lload_n 3, 1)) DX11_compares_0 43 rfl
theorem dX11_compares_98 : decode cX11_compares 98 = .ok (.lcmp, 1) := dAt (x := (98, .lcmp, 1)) DX11_compares_0 44 rfl
theorem dX11_compares_99 : decode cX11_compares 99 = .ok (.ifCond .le 7, 3) := dAt (x := (99, .ifCond .le 7, 3)) DX11_compares_0 45 rfl
theorem dX11_compares_102 : decode cX11_compares 102 = .ok (.iconst 1, 1) := dAt (x := (102, .iconst 1, 1)) DX11_compares_0 46 rfl
theorem dX11_compares_103 : decode cX11_compares 103 = .ok (.goto 4, 3) := dAt (x := (103, .goto 4, 3)) DX11_compares_0 47 rfl
theorem dX11_compares_106 : decode cX11_compares 106 = .ok (.iconst 0, 1) := dAt (x := (106, .iconst 0, 1)) DX11_compares_0 48 rfl
theorem dX11_compares_107 : decode cX11_compares 107 = .ok (.ireturn, 1) := dAt (x := (107, .ireturn, 1)) DX11_compares_0 49 rfl
def lDX11_times_0 : List (Nat × Instr × Nat) := [(0, .lload_n 1, 1), (1, .lconst 0, 1), (2, .lcmp, 1), (3, .ifCond .eq 45, 3), (6, .lload_n 3, 1), (7, .lconst 0, 1), (8, .lcmp, 1), (9, .ifCond .eq 39, 3), (12, .lload_n 3, 1), (13, .lconst 0, 1), (14, .lcmp, 1), (15, .ifCond .ge 8, 3), (18, .lload_n 3, 1), (19, .lneg, 1), (20, .goto 4, 3), (23, .lload_n 3, 1), (24, .ldc2_w 350, 3), (27, .lload_n 1, 1), (28, .lconst 0, 1), (29, .lcmp, 1), (30, .ifCond .ge 8, 3), (33, .lload_n 1, 1), (34, .lneg, 1), (35, .goto 4, 3), (38, .lload_n 1, 1), (39, .ldiv, 1), (40, .lcmp, 1), (41, .ifCond .le 7, 3), (44, .iconst 1, 1), (45, .goto 4, 3), (48, .iconst 0, 1), (49, .istore 5, 2), (51, .aload_n 0, 1), (52, .aload_n 0, 1), (53, .getfield 347, 3), (56, .ifCond .ne 8, 3), (59, .iload 5, 2), (61, .ifCond .eq 7, 3), (64, .iconst 1, 1), (65, .goto 4, 3), (68, .iconst 0, 1), (69, .putfield 347, 3), (72, .aload_n 0, 1), (73, .getfield 347, 3), (76, .ifCond .eq 7, 3), (79, .lconst 0, 1), (80, .goto 6, 3), (83, .lload_n 1, 1), (84, .lload_n 3, 1), (85, .lmul, 1), (86, .lreturn, 1)]
theorem DX11_times_0 : dAll cX11_times lDX11_times_0 = true := by decide +kernel
theorem dX11_times_0 : decode cX11_times 0 = .ok (.lload_n 1, 1) := dAt (x := (0, .lload_n 1, 1)) DX11_times_0 0 rfl
theorem dX11_times_1 : decode cX11_times 1 = .ok (.lconst 0, 1) := dAt (x := (1, .lconst 0, 1)) DX11_times_0 1 rfl
theorem dX11_times_2 : decode cX11_times 2 = .ok (.lcmp, 1) := dAt (x := (2, .lcmp, 1)) DX11_times_0 2 rfl
theorem dX11_times_3 : decode cX11_times 3 = .ok (.ifCond .eq 45, 3) := dAt (x := (3, .ifCond .eq 45, 3)) DX11_times_0 3 rfl
theorem dX11_times_6 : decode cX11_times 6 = .ok (.lload_n 3, 1) := dAt (x := (6, .lload_n 3, 1)) DX11_times_0 4 rfl
theorem dX11_times_7 : decode cX11_times 7 = .ok (.lconst 0, 1) := dAt (x := (7, .lconst 0, 1)) DX11_times_0 5 rfl
theorem dX11_times_8 : decode cX11_times 8 = .ok (.lcmp, 1) := dAt (x := (8, .lcmp, 1)) DX11_times_0 6 rfl
theorem dX11_times_9 : decode cX11_times 9 = .ok (.ifCond .eq 39, 3) := dAt (x := (9, .ifCond .eq 39, 3)) DX11_times_0 7 rfl
theorem dX11_times_12 : decode cX11_times 12 = .ok (.lload_n 3, 1) := dAt (x := (12, .lload_n 3, 1)) DX11_times_0 8 rfl
theorem dX11_times_13 : decode cX11_times 13 = .ok (.lconst 0, 1) := dAt (x := (13, .lconst 0, 1)) DX11_times_0 9 rfl
theorem dX11_times_14 : decode cX11_times 14 = .ok (.lcmp, 1) := dAt (x := (14, .lcmp, 1)) DX11_times_0 10 rfl
theorem dX11_times_15 : decode cX11_times 15 = .ok (.ifCond .ge 8, 3) := dAt (x := (15, .ifCond .ge 8, 3)) DX11_times_0 11 rfl
theorem dX11_times_18 : decode cX11_times 18 = .ok (.lload_n 3, 1) := dAt (x := (18, .lload_n 3, 1)) DX11_times_0 12 rfl
theorem dX11_times_19 : decode cX11_times 19 = .ok (.lneg, 1) := dAt (x := (19, .lneg, 1)) DX11_times_0 13 rfl
theorem dX11_times_20 : decode cX11_times 20 = .ok (.goto 4, 3) := dAt (x := (20, .goto 4, 3)) DX11_times_0 14 rfl
theorem dX11_times_23 : decode cX11_times 23 = .ok (.lload_n 3, 1) := dAt (x := (23, .lload_n 3, 1)) DX11_times_0 15 rfl
theorem dX11_times_24 : decode cX11_times 24 = .ok (.ldc2_w 350, 3) := dAt (x := (24, .ldc2_w 350, 3)) DX11_times_0 16 rfl
theorem dX11_times_27 : decode cX11_times 27 = .ok (.lload_n 1, 1) := dAt (x := (27, .lload_n 1, 1)) DX11_times_0 17 rfl
theorem dX11_times_28 : decode cX11_times 28 = .ok (.lconst 0, 1) := dAt (x := (28, .lconst 0, 1)) DX11_times_0 18 rfl
theorem dX11_times_29 : decode cX11_times 29 = .ok (.lcmp, 1) := dAt (x := (29, .lcmp, 1)) DX11_times_0 19 rfl
theorem dX11_times_30 : decode cX11_times 30 = .ok (.ifCond .ge 8, 3) := dAt (x := (30, .ifCond .ge 8, 3)) DX11_times_0 20 rfl
theorem dX11_times_33 : decode cX11_times 33 = .ok (.lload_n 1, 1) := dAt (x := (33, .lload_n 1, 1)) DX11_times_0 21 rfl
theorem dX11_times_34 : decode cX11_times 34 = .ok (.lneg, 1) := dAt (x := (34, .lneg, 1)) DX11_times_0 22 rfl
theorem dX11_times_35 : decode cX11_times 35 = .ok (.goto 4, 3) := dAt (x := (35, .goto 4, 3)) DX11_times_0 23 rfl
theorem dX11_times_38 : decode cX11_times 38 = .ok (.lload_n 1, 1) := dAt (x := (38, .lload_n 1, 1)) DX11_times_0 24 rfl
theorem dX11_times_39 : decode cX11_times 39 = .ok (.ldiv, 1) := dAt (x := (39, .ldiv, 1)) DX11_times_0 25 rfl
theorem dX11_times_40 : decode cX11_times 40 = .ok (.lcmp, 1) := dAt (x := (40, .lcmp, 1)) DX11_times_0 26 rfl
theorem dX11_times_41 : decode cX11_times 41 = .ok (.ifCond .le 7, 3) := dAt (x := (41, .ifCond .le 7, 3)) DX11_times_0 27 rfl
theorem dX11_times_44 : decode cX11_times 44 = .ok (.iconst 1, 1) := dAt (x := (44, .iconst 1, 1)) DX11_times_0 28 rfl
theorem dX11_times_45 : decode cX11_times 45 = .ok (.goto 4, 3) := dAt (x := (45, .goto 4, 3)) DX11_times_0 29 rfl
theorem dX11_times_48 : decode cX11_times 48 = .ok (.iconst 0, 1) := dAt (x := (48, .iconst 0, 1)) DX11_times_0 30 rfl
theorem dX11_times_49 : decode cX11_times 49 = .ok (.istore 5, 2) := dAt (x := (49, .istore 5, 2)) DX11_times_0 31 rfl
theorem dX11_times_51 : decode cX11_times 51 = .ok (.aload_n 0, 1) := dAt (x := (51, .aload_n 0, 1)) DX11_times_0 32 rfl
theorem dX11_times_52 : decode cX11_times 52 = .ok (.aload_n 0, 1) := dAt (x := (52, .aload_n 0, 1)) DX11_times_0 33 rfl
theorem dX11_times_53 : decode cX11_times 53 = .ok (.getfield 347, 3) := dAt (x := (53, .getfield 347, 3)) DX11_times_0 34 rfl
theorem dX11_times_56 : decode cX11_times 56 = .ok (.ifCond .ne 8, 3) := dAt (x := (56, .ifCond .ne 8, 3)) DX11_times_0 35 rfl
theorem dX11_times_59 : decode cX11_times 59 = .ok (.iload 5, 2) := dAt (x := (59, .iload 5, 2)) DX11_times_0 36 rfl
theorem dX11_times_61 : decode cX11_times 61 = .ok (.ifCond .eq 7, 3) := dAt (x := (61, .ifCond .eq 7, 3)) DX11_times_0 37 rfl
theorem dX11_times_64 : decode cX11_times 64 = .ok (.iconst 1, 1) := dAt (x := (64, .iconst 1, 1)) DX11_times_0 38 rfl
theorem dX11_times_65 : decode cX11_times 65 = .ok (.goto 4, 3) := dAt (x := (65, .goto 4, 3)) DX11_times_0 39 rfl
theorem dX11_times_68 : decode cX11_times 68 = .ok (.iconst 0, 1) := dAt (x := (68, .iconst 0, 1)) DX11_times_0 40 rfl
theorem dX11_times_69 : decode cX11_times 69 = .ok (.putfield 347, 3) := dAt (x := (69, .putfield 347, 3)) DX11_times_0 41 rfl
theorem dX11_times_72 : decode cX11_times 72 = .ok (.aload_n 0, 1) := dAt (x := (72, .aload_n 0, 1)) DX11_times_0 42 rfl
theorem dX11_times_73 : decode cX11_times 73 = .ok (.getfield 347, 3) := dAt (x := (73, .getfield 347, 3)) DX11_times_0 43 rfl
theorem dX11_times_76 : decode cX11_times 76 = .ok (.ifCond .eq 7, 3) := dAt (x := (76, .ifCond .eq 7, 3)) DX11_times_0 44 rfl
theorem dX11_times_79 : decode cX11_times 79 = .ok (.lconst 0, 1) := dAt (x := (79, .lconst 0, 1)) DX11_times_0 45 rfl
theorem dX11_times_80 : decode cX11_times 80 = .ok (.goto 6, 3) := dAt (x := (80, .goto 6, 3)) DX11_times_0 46 rfl
theorem dX11_times_83 : decode cX11_times 83 = .ok (.lload_n 1, 1) := dAt (x := (83, .lload_n 1, 1)) DX11_times_0 47 rfl
theorem dX11_times_84 : decode cX11_times 84 = .ok (.lload_n 3, 1) := dAt (x := (84, .lload_n 3, 1)) DX11_times_0 48 rfl
theorem dX11_times_85 : decode cX11_times 85 = .ok (.lmul, 1) := dAt (x := (85, .lmul, 1)) DX11_times_0 49 rfl
theorem dX11_times_86 : decode cX11_times 86 = .ok (.lreturn, 1) := dAt (x := (86, .lreturn, 1)) DX11_times_0 50 rfl
def lDX11_valueOf_0 : List (Nat × Instr × Nat) := [(0, .aload_n 0, 1), (1, .getfield 66, 3), (4, .iload_n 1, 1), (5, .iaload, 1), (6, .ifCond .ne 11, 3), (9, .aload_n 0, 1), (10, .getfield 69, 3), (13, .iload_n 1, 1), (14, .iaload, 1), (15, .i2l, 1), (16, .lreturn, 1), (17, .aload_n 0, 1), (18, .getfield 66, 3), (21, .iload_n 1, 1), (22, .iaload, 1), (23, .iconst 1, 1), (24, .if_icmp .ne 15, 3), (27, .aload_n 0, 1), (28, .getfield 81, 3), (31, .aload_n 0, 1), (32, .getfield 69, 3), (35, .iload_n 1, 1), (36, .iaload, 1), (37, .laload, 1), (38, .lreturn, 1), (39, .aload_n 0, 1), (40, .getfield 85, 3), (43, .aload_n 0, 1), (44, .getfield 69, 3), (47, .iload_n 1, 1), (48, .iaload, 1), (49, .laload, 1), (50, .lstore_n 2, 1), (51, .aload_n 0, 1), (52, .getfield 66, 3), (55, .iload_n 1, 1), (56, .iaload, 1), (57, .iconst 2, 1), (58, .if_icmp .ne 15, 3), (61, .lload_n 2, 1), (62, .lconst 0, 1), (63, .lcmp, 1), (64, .ifCond .ne 7, 3), (67, .lconst 1, 1), (68, .goto 4, 3), (71, .lconst 0, 1), (72, .lreturn, 1), (73, .aload_n 0, 1), (74, .getfield 85, 3), (77, .aload_n 0, 1), (78, .getfield 72, 3), (81, .iload_n 1, 1), (82, .iaload, 1), (83, .laload, 1), (84, .lstore 4, 2), (86, .aload_n 0, 1), (87, .getfield 66, 3), (90, .iload_n 1, 1), (91, .iaload, 1), (92, .tableswitch 167 3 14 #[64, 83, 167, 167, 167, 167, 167, 167, 102, 111, 120, 128], 64)]
theorem DX11_valueOf_0 : dAll cX11_valueOf lDX11_valueOf_0 = true := by decide +kernel
theorem dX11_valueOf_0 : decode cX11_valueOf 0 = .ok (.aload_n 0, 1) := dAt (x := (0, .aload_n 0, 1)) DX11_valueOf_0 0 rfl
theorem dX11_valueOf_1 : decode cX11_valueOf 1 = .ok (.getfield 66, 3) := dAt (x := (1, .getfield 66, 3)) DX11_valueOf_0 1 rfl
theorem dX11_valueOf_4 : decode cX11_valueOf 4 = .ok (.iload_n 1, 1) := dAt (x := (4, .iload_n 1, 1)) DX11_valueOf_0 2 rfl
theorem dX11_valueOf_5 : decode cX11_valueOf 5 = .ok (.iaload, 1) := dAt (x := (5, .iaload, 1)) DX11_valueOf_0 3 rfl
theorem dX11_valueOf_6 : decode cX11_valueOf 6 = .ok (.ifCond .ne 11, 3) := dAt (x := (6, .ifCond .ne 11, 3)) DX11_valueOf_0 4 rfl
theorem dX11_valueOf_9 : decode cX11_valueOf 9 = .ok (.aload_n 0, 1) := dAt (x := (9, .aload_n 0, 1)) DX11_valueOf_0 5 rfl
theorem dX11_valueOf_10 : decode cX11_valueOf 10 = .ok (.getfield 69, 3) := dAt (x := (10, .getfield 69, 3)) DX11_valueOf_0 6 rfl
theorem dX11_valueOf_13 : decode cX11_valueOf 13 = .ok (.iload_n 1, 1) := dAt (x := (13, .iload_n 1, 1)) DX11_valueOf_0 7 rfl
theorem dX11_valueOf_14 : decode cX11_valueOf 14 = .ok (.iaload, 1) := dAt (x := (14, .iaload, 1)) DX11_valueOf_0 8 rfl
theorem dX11_valueOf_15 : decode cX11_valueOf 15 = .ok (.i2l, 1) := dAt (x := (15, .i2l, 1)) DX11_valueOf_0 9 rfl
theorem dX11_valueOf_16 : decode cX11_valueOf 16 = .ok (.lreturn, 1) := dAt (x := (16, .lreturn, 1)) DX11_valueOf_0 10 rfl
theorem dX11_valueOf_17 : decode cX11_valueOf 17 = .ok (.aload_n 0, 1) := dAt (x := (17, .aload_n 0, 1)) DX11_valueOf_0 11 rfl
theorem dX11_valueOf_18 : decode cX11_valueOf 18 = .ok (.getfield 66, 3) := dAt (x := (18, .getfield 66, 3)) DX11_valueOf_0 12 rfl
theorem dX11_valueOf_21 : decode cX11_valueOf 21 = .ok (.iload_n 1, 1) := dAt (x := (21, .iload_n 1, 1)) DX11_valueOf_0 13 rfl
theorem dX11_valueOf_22 : decode cX11_valueOf 22 = .ok (.iaload, 1) := dAt (x := (22, .iaload, 1)) DX11_valueOf_0 14 rfl
theorem dX11_valueOf_23 : decode cX11_valueOf 23 = .ok (.iconst 1, 1) := dAt (x := (23, .iconst 1, 1)) DX11_valueOf_0 15 rfl
theorem dX11_valueOf_24 : decode cX11_valueOf 24 = .ok (.if_icmp .ne 15, 3) := dAt (x := (24, .if_icmp .ne 15, 3)) DX11_valueOf_0 16 rfl
theorem dX11_valueOf_27 : decode cX11_valueOf 27 = .ok (.aload_n 0, 1) := dAt (x := (27, .aload_n 0, 1)) DX11_valueOf_0 17 rfl
theorem dX11_valueOf_28 : decode cX11_valueOf 28 = .ok (.getfield 81, 3) := dAt (x := (28, .getfield 81, 3)) DX11_valueOf_0 18 rfl
theorem dX11_valueOf_31 : decode cX11_valueOf 31 = .ok (.aload_n 0, 1) := dAt (x := (31, .aload_n 0, 1)) DX11_valueOf_0 19 rfl
theorem dX11_valueOf_32 : decode cX11_valueOf 32 = .ok (.getfield 69, 3) := dAt (x := (32, .getfield 69, 3)) DX11_valueOf_0 20 rfl
theorem dX11_valueOf_35 : decode cX11_valueOf 35 = .ok (.iload_n 1, 1) := dAt (x := (35, .iload_n 1, 1)) DX11_valueOf_0 21 rfl
theorem dX11_valueOf_36 : decode cX11_valueOf 36 = .ok (.iaload, 1) := dAt (x := (36, .iaload, 1)) DX11_valueOf_0 22 rfl
theorem dX11_valueOf_37 : decode cX11_valueOf 37 = .ok (.laload, 1) := dAt (x := (37, .laload, 1)) DX11_valueOf_0 23 rfl
theorem dX11_valueOf_38 : decode cX11_valueOf 38 = .ok (.lreturn, 1) := dAt (x := (38, .lreturn, 1)) DX11_valueOf_0 24 rfl
theorem dX11_valueOf_39 : decode cX11_valueOf 39 = .ok (.aload_n 0, 1) := dAt (x := (39, .aload_n 0, 1)) DX11_valueOf_0 25 rfl
theorem dX11_valueOf_40 : decode cX11_valueOf 40 = .ok (.getfield 85, 3) := dAt (x := (40, .getfield 85, 3)) DX11_valueOf_0 26 rfl
theorem dX11_valueOf_43 : decode cX11_valueOf 43 = .ok (.aload_n 0, 1) := dAt (x := (43, .aload_n 0, 1)) DX11_valueOf_0 27 rfl
theorem dX11_valueOf_44 : decode cX11_valueOf 44 = .ok (.getfield 69, 3) := dAt (x := (44, .getfield 69, 3)) DX11_valueOf_0 28 rfl
theorem dX11_valueOf_47 : decode cX11_valueOf 47 = .ok (.iload_n 1, 1) := dAt (x := (47, .iload_n 1, 1)) DX11_valueOf_0 29 rfl
theorem dX11_valueOf_48 : decode cX11_valueOf 48 = .ok (.iaload, 1) := dAt (x := (48, .iaload, 1)) DX11_valueOf_0 30 rfl
theorem dX11_valueOf_49 : decode cX11_valueOf 49 = .ok (.laload, 1) := dAt (x := (49, .laload, 1)) DX11_valueOf_0 31 rfl
theorem dX11_valueOf_50 : decode cX11_valueOf 50 = .ok (.lstore_n 2, 1) := dAt (x := (50, .lstore_n 2, 1)) DX11_valueOf_0 32 rfl
theorem dX11_valueOf_51 : decode cX11_valueOf 51 = .ok (.aload_n 0, 1) := dAt (x := (51, .aload_n 0, 1)) DX11_valueOf_0 33 rfl
theorem dX11_valueOf_52 : decode cX11_valueOf 52 = .ok (.getfield 66, 3) := dAt (x := (52, .getfield 66, 3)) DX11_valueOf_0 34 rfl
theorem dX11_valueOf_55 : decode cX11_valueOf 55 = .ok (.iload_n 1, 1) := dAt (x := (55, .iload_n 1, 1)) DX11_valueOf_0 35 rfl
theorem dX11_valueOf_56 : decode cX11_valueOf 56 = .ok (.iaload, 1) := dAt (x := (56, .iaload, 1)) DX11_valueOf_0 36 rfl
theorem dX11_valueOf_57 : decode cX11_valueOf 57 = .ok (.iconst 2, 1) := dAt (x := (57, .iconst 2, 1)) DX11_valueOf_0 37 rfl
theorem dX11_valueOf_58 : decode cX11_valueOf 58 = .ok (.if_icmp .ne 15, 3) := dAt (x := (58, .if_icmp .ne 15, 3)) DX11_valueOf_0 38 rfl
theorem dX11_valueOf_61 : decode cX11_valueOf 61 = .ok (.lload_n 2, 1) := dAt (x := (61, .lload_n 2, 1)) DX11_valueOf_0 39 rfl
theorem dX11_valueOf_62 : decode cX11_valueOf 62 = .ok (.lconst 0, 1) := dAt (x := (62, .lconst 0, 1)) DX11_valueOf_0 40 rfl
theorem dX11_valueOf_63 : decode cX11_valueOf 63 = .ok (.lcmp, 1) := dAt (x := (63, .lcmp, 1)) DX11_valueOf_0 41 rfl
theorem dX11_valueOf_64 : decode cX11_valueOf 64 = .ok (.ifCond .ne 7, 3) := dAt (x := (64, .ifCond .ne 7, 3)) DX11_valueOf_0 42 rfl
theorem dX11_valueOf_67 : decode cX11_valueOf 67 = .ok (.lconst 1, 1) := dAt (x := (67, .lconst 1, 1)) DX11_valueOf_0 43 rfl
theorem dX11_valueOf_68 : decode cX11_valueOf 68 = .ok (.goto 4, 3) := dAt (x := (68, .goto 4, 3)) DX11_valueOf_0 44 rfl
theorem dX11_valueOf_71 : decode cX11_valueOf 71 = .ok (.lconst 0, 1) := dAt (x := (71, .lconst 0, 1)) DX11_valueOf_0 45 rfl
theorem dX11_valueOf_72 : decode cX11_valueOf 72 = .ok (.lreturn, 1) := dAt (x := (72, .lreturn, 1)) DX11_valueOf_0 46 rfl
theorem dX11_valueOf_73 : decode cX11_valueOf 73 = .ok (.aload_n 0, 1) := dAt (x := (73, .aload_n 0, 1)) DX11_valueOf_0 47 rfl
theorem dX11_valueOf_74 : decode cX11_valueOf 74 = .ok (.getfield 85, 3) := dAt (x := (74, .getfield 85, 3)) DX11_valueOf_0 48 rfl
theorem dX11_valueOf_77 : decode cX11_valueOf 77 = .ok (.aload_n 0, 1) := dAt (x := (77, .aload_n 0, 1)) DX11_valueOf_0 49 rfl
theorem dX11_valueOf_78 : decode cX11_valueOf 78 = .ok (.getfield 72, 3) := dAt (x := (78, .getfield 72, 3)) DX11_valueOf_0 50 rfl
theorem dX11_valueOf_81 : decode cX11_valueOf 81 = .ok (.iload_n 1, 1) := dAt (x := (81, .iload_n 1, 1)) DX11_valueOf_0 51 rfl
theorem dX11_valueOf_82 : decode cX11_valueOf 82 = .ok (.iaload, 1) := dAt (x := (82, .iaload, 1)) DX11_valueOf_0 52 rfl
theorem dX11_valueOf_83 : decode cX11_valueOf 83 = .ok (.laload, 1) := dAt (x := (83, .laload, 1)) DX11_valueOf_0 53 rfl
theorem dX11_valueOf_84 : decode cX11_valueOf 84 = .ok (.lstore 4, 2) := dAt (x := (84, .lstore 4, 2)) DX11_valueOf_0 54 rfl
theorem dX11_valueOf_86 : decode cX11_valueOf 86 = .ok (.aload_n 0, 1) := dAt (x := (86, .aload_n 0, 1)) DX11_valueOf_0 55 rfl
theorem dX11_valueOf_87 : decode cX11_valueOf 87 = .ok (.getfield 66, 3) := dAt (x := (87, .getfield 66, 3)) DX11_valueOf_0 56 rfl
theorem dX11_valueOf_90 : decode cX11_valueOf 90 = .ok (.iload_n 1, 1) := dAt (x := (90, .iload_n 1, 1)) DX11_valueOf_0 57 rfl
theorem dX11_valueOf_91 : decode cX11_valueOf 91 = .ok (.iaload, 1) := dAt (x := (91, .iaload, 1)) DX11_valueOf_0 58 rfl
theorem dX11_valueOf_92 : decode cX11_valueOf 92 = .ok (.tableswitch 167 3 14 #[64, 83, 167, 167, 167, 167, 167, 167, 102, 111, 120, 128], 64) := dAt (x := (92, .tableswitch 167 3 14 #[64, 83, 167, 167, 167, 167, 167, 167, 102, 111, 120, 128], 64)) DX11_valueOf_0 59 rfl
def lDX11_valueOf_1 : List (Nat × Instr × Nat) := [(156, .lload_n 2, 1), (157, .lconst 0, 1), (158, .lcmp, 1), (159, .ifCond .eq 14, 3), (162, .lload 4, 2), (164, .lconst 0, 1), (165, .lcmp, 1), (166, .ifCond .eq 7, 3), (169, .lconst 1, 1), (170, .goto 4, 3), (173, .lconst 0, 1), (174, .lreturn, 1), (175, .lload_n 2, 1), (176, .lconst 0, 1), (177, .lcmp, 1), (178, .ifCond .ne 10, 3), (181, .lload 4, 2), (183, .lconst 0, 1), (184, .lcmp, 1), (185, .ifCond .eq 7, 3), (188, .lconst 1, 1), (189, .goto 4, 3), (192, .lconst 0, 1), (193, .lreturn, 1), (194, .aload_n 0, 1), (195, .lload_n 2, 1), (196, .lload 4, 2), (198, .ladd, 1), (199, .invokevirtual 354, 3), (202, .lreturn, 1), (203, .aload_n 0, 1), (204, .lload_n 2, 1), (205, .lload 4, 2), (207, .lsub, 1), (208, .invokevirtual 354, 3), (211, .lreturn, 1), (212, .aload_n 0, 1), (213, .lload_n 2, 1), (214, .lload 4, 2), (216, .invokevirtual 358, 3), (219, .lreturn, 1), (220, .aload_n 0, 1), (221, .aload_n 0, 1), (222, .getfield 347, 3), (225, .ifCond .ne 10, 3), (228, .lload 4, 2), (230, .lconst 0, 1), (231, .lcmp, 1), (232, .ifCond .ne 7, 3), (235, .iconst 1, 1), (236, .goto 4, 3), (239, .iconst 0, 1), (240, .putfield 347, 3), (243, .aload_n 0, 1), (244, .getfield 347, 3), (247, .ifCond .eq 7, 3), (250, .lconst 0, 1), (251, .goto 7, 3), (254, .lload_n 2, 1), (255, .lload 4, 2)]
theorem DX11_valueOf_1 : dAll cX11_valueOf lDX11_valueOf_1 = true := by decide +kernel
theorem dX11_valueOf_156 : decode cX11_valueOf 156 = .ok (.lload_n 2, 1) := dAt (x := (156, .lload_n 2, 1)) DX11_valueOf_1 0 rfl
theorem dX11_valueOf_157 : decode cX11_valueOf 157 = .ok (.lconst 0, 1) := dAt (x := (157, .lconst 0, 1)) DX11_valueOf_1 1 rfl
theorem dX11_valueOf_158 : decode cX11_valueOf 158 = .ok (.lcmp, 1) := dAt (x := (158, .lcmp, 1)) DX11_valueOf_1 2 rfl
theorem dX11_valueOf_159 : decode cX11_valueOf 159 = .ok (.ifCond .eq 14, 3) := dAt (x := (159, .ifCond .eq 14, 3)) DX11_valueOf_1 3 rfl
theorem dX11_valueOf_162 : decode cX11_valueOf 162 = .ok (.lload 4, 2) := dAt (x := (162, .lload 4, 2)) DX11_valueOf_1 4 rfl
theorem dX11_valueOf_164 : decode cX11_valueOf 164 = .ok (.lconst 0, 1) := dAt (x := (164, .lconst 0, 1)) DX11_valueOf_1 5 rfl
theorem dX11_valueOf_165 : decode cX11_valueOf 165 = .ok (.lcmp, 1) := dAt (x := (165, .lcmp, 1)) DX11_valueOf_1 6 rfl
theorem dX11_valueOf_166 : decode cX11_valueOf 166 = .ok (.ifCond .eq 7, 3) := dAt (x := (166, .ifCond .eq 7, 3)) DX11_valueOf_1 7 rfl
theorem dX11_valueOf_169 : decode cX11_valueOf 169 = .ok (.lconst 1, 1) := dAt (x := (169, .lconst 1, 1)) DX11_valueOf_1 8 rfl
theorem dX11_valueOf_170 : decode cX11_valueOf 170 = .ok (.goto 4, 3) := dAt (x := (170, .goto 4, 3)) DX11_valueOf_1 9 rfl
theorem dX11_valueOf_173 : decode cX11_valueOf 173 = .ok (.lconst 0, 1) := dAt (x := (173, .lconst 0, 1)) DX11_valueOf_1 10 rfl
theorem dX11_valueOf_174 : decode cX11_valueOf 174 = .ok (.lreturn, 1) := dAt (x := (174, .lreturn, 1)) DX11_valueOf_1 11 rfl
theorem dX11_valueOf_175 : decode cX11_valueOf 175 = .ok (.lload_n 2, 1) := dAt (x := (175, .lload_n 2, 1)) DX11_valueOf_1 12 rfl
theorem dX11_valueOf_176 : decode cX11_valueOf 176 = .ok (.lconst 0, 1) := dAt (x := (176, .lconst 0, 1)) DX11_valueOf_1 13 rfl
theorem dX11_valueOf_177 : decode cX11_valueOf 177 = .ok (.lcmp, 1) := dAt (x := (177, .lcmp, 1)) DX11_valueOf_1 14 rfl
theorem dX11_valueOf_178 : decode cX11_valueOf 178 = .ok (.ifCond .ne 10, 3) := dAt (x := (178, .ifCond .ne 10, 3)) DX11_valueOf_1 15 rfl
theorem dX11_valueOf_181 : decode cX11_valueOf 181 = .ok (.lload 4, 2) := dAt (x := (181, .lload 4, 2)) DX11_valueOf_1 16 rfl
theorem dX11_valueOf_183 : decode cX11_valueOf 183 = .ok (.lconst 0, 1) := dAt (x := (183, .lconst 0, 1)) DX11_valueOf_1 17 rfl
theorem dX11_valueOf_184 : decode cX11_valueOf 184 = .ok (.lcmp, 1) := dAt (x := (184, .lcmp, 1)) DX11_valueOf_1 18 rfl
theorem dX11_valueOf_185 : decode cX11_valueOf 185 = .ok (.ifCond .eq 7, 3) := dAt (x := (185, .ifCond .eq 7, 3)) DX11_valueOf_1 19 rfl
theorem dX11_valueOf_188 : decode cX11_valueOf 188 = .ok (.lconst 1, 1) := dAt (x := (188, .lconst 1, 1)) DX11_valueOf_1 20 rfl
theorem dX11_valueOf_189 : decode cX11_valueOf 189 = .ok (.goto 4, 3) := dAt (x := (189, .goto 4, 3)) DX11_valueOf_1 21 rfl
theorem dX11_valueOf_192 : decode cX11_valueOf 192 = .ok (.lconst 0, 1) := dAt (x := (192, .lconst 0, 1)) DX11_valueOf_1 22 rfl
theorem dX11_valueOf_193 : decode cX11_valueOf 193 = .ok (.lreturn, 1) := dAt (x := (193, .lreturn, 1)) DX11_valueOf_1 23 rfl
theorem dX11_valueOf_194 : decode cX11_valueOf 194 = .ok (.aload_n 0, 1) := dAt (x := (194, .aload_n 0, 1)) DX11_valueOf_1 24 rfl
theorem dX11_valueOf_195 : decode cX11_valueOf 195 = .ok (.lload_n 2, 1) := dAt (x := (195, .lload_n 2, 1)) DX11_valueOf_1 25 rfl
theorem dX11_valueOf_196 : decode cX11_valueOf 196 = .ok (.lload 4, 2) := dAt (x := (196, .lload 4, 2)) DX11_valueOf_1 26 rfl
theorem dX11_valueOf_198 : decode cX11_valueOf 198 = .ok (.ladd, 1) := dAt (x := (198, .ladd, 1)) DX11_valueOf_1 27 rfl
theorem dX11_valueOf_199 : decode cX11_valueOf 199 = .ok (.invokevirtual 354, 3) := dAt (x := (199, .invokevirtual 354, 3)) DX11_valueOf_1 28 rfl
theorem dX11_valueOf_202 : decode cX11_valueOf 202 = .ok (.lreturn, 1) := dAt (x := (202, .lreturn, 1)) DX11_valueOf_1 29 rfl
theorem dX11_valueOf_203 : decode cX11_valueOf 203 = .ok (.aload_n 0, 1) := dAt (x := (203, .aload_n 0, 1)) DX11_valueOf_1 30 rfl
theorem dX11_valueOf_204 : decode cX11_valueOf 204 = .ok (.lload_n 2, 1) := dAt (x := (204, .lload_n 2, 1)) DX11_valueOf_1 31 rfl
theorem dX11_valueOf_205 : decode cX11_valueOf 205 = .ok (.lload 4, 2) := dAt (x := (205, .lload 4, 2)) DX11_valueOf_1 32 rfl
theorem dX11_valueOf_207 : decode cX11_valueOf 207 = .ok (.lsub, 1) := dAt (x := (207, .lsub, 1)) DX11_valueOf_1 33 rfl
theorem dX11_valueOf_208 : decode cX11_valueOf 208 = .ok (.invokevirtual 354, 3) := dAt (x := (208, .invokevirtual 354, 3)) DX11_valueOf_1 34 rfl
theorem dX11_valueOf_211 : decode cX11_valueOf 211 = .ok (.lreturn, 1) := dAt (x := (211, .lreturn, 1)) DX11_valueOf_1 35 rfl
theorem dX11_valueOf_212 : decode cX11_valueOf 212 = .ok (.aload_n 0, 1) := dAt (x := (212, .aload_n 0, 1)) DX11_valueOf_1 36 rfl
theorem dX11_valueOf_213 : decode cX11_valueOf 213 = .ok (.lload_n 2, 1) := dAt (x := (213, .lload_n 2, 1)) DX11_valueOf_1 37 rfl
theorem dX11_valueOf_214 : decode cX11_valueOf 214 = .ok (.lload 4, 2) := dAt (x := (214, .lload 4, 2)) DX11_valueOf_1 38 rfl
theorem dX11_valueOf_216 : decode cX11_valueOf 216 = .ok (.invokevirtual 358, 3) := dAt (x := (216, .invokevirtual 358, 3)) DX11_valueOf_1 39 rfl
theorem dX11_valueOf_219 : decode cX11_valueOf 219 = .ok (.lreturn, 1) := dAt (x := (219, .lreturn, 1)) DX11_valueOf_1 40 rfl
theorem dX11_valueOf_220 : decode cX11_valueOf 220 = .ok (.aload_n 0, 1) := dAt (x := (220, .aload_n 0, 1)) DX11_valueOf_1 41 rfl
theorem dX11_valueOf_221 : decode cX11_valueOf 221 = .ok (.aload_n 0, 1) := dAt (x := (221, .aload_n 0, 1)) DX11_valueOf_1 42 rfl
theorem dX11_valueOf_222 : decode cX11_valueOf 222 = .ok (.getfield 347, 3) := dAt (x := (222, .getfield 347, 3)) DX11_valueOf_1 43 rfl
theorem dX11_valueOf_225 : decode cX11_valueOf 225 = .ok (.ifCond .ne 10, 3) := dAt (x := (225, .ifCond .ne 10, 3)) DX11_valueOf_1 44 rfl
theorem dX11_valueOf_228 : decode cX11_valueOf 228 = .ok (.lload 4, 2) := dAt (x := (228, .lload 4, 2)) DX11_valueOf_1 45 rfl
theorem dX11_valueOf_230 : decode cX11_valueOf 230 = .ok (.lconst 0, 1) := dAt (x := (230, .lconst 0, 1)) DX11_valueOf_1 46 rfl
theorem dX11_valueOf_231 : decode cX11_valueOf 231 = .ok (.lcmp, 1) := dAt (x := (231, .lcmp, 1)) DX11_valueOf_1 47 rfl
theorem dX11_valueOf_232 : decode cX11_valueOf 232 = .ok (.ifCond .ne 7, 3) := dAt (x := (232, .ifCond .ne 7, 3)) DX11_valueOf_1 48 rfl
theorem dX11_valueOf_235 : decode cX11_valueOf 235 = .ok (.iconst 1, 1) := dAt (x := (235, .iconst 1, 1)) DX11_valueOf_1 49 rfl
theorem dX11_valueOf_236 : decode cX11_valueOf 236 = .ok (.goto 4, 3) := dAt (x := (236, .goto 4, 3)) DX11_valueOf_1 50 rfl
theorem dX11_valueOf_239 : decode cX11_valueOf 239 = .ok (.iconst 0, 1) := dAt (x := (239, .iconst 0, 1)) DX11_valueOf_1 51 rfl
theorem dX11_valueOf_240 : decode cX11_valueOf 240 = .ok (.putfield 347, 3) := dAt (x := (240, .putfield 347, 3)) DX11_valueOf_1 52 rfl
theorem dX11_valueOf_243 : decode cX11_valueOf 243 = .ok (.aload_n 0, 1) := dAt (x := (243, .aload_n 0, 1)) DX11_valueOf_1 53 rfl
theorem dX11_valueOf_244 : decode cX11_valueOf 244 = .ok (.getfield 347, 3) := dAt (x := (244, .getfield 347, 3)) DX11_valueOf_1 54 rfl
theorem dX11_valueOf_247 : decode cX11_valueOf 247 = .ok (.ifCond .eq 7, 3) := dAt (x := (247, .ifCond .eq 7, 3)) DX11_valueOf_1 55 rfl
theorem dX11_valueOf_250 : decode cX11_valueOf 250 = .ok (.lconst 0, 1) := dAt (x := (250, .lconst 0, 1)) DX11_valueOf_1 56 rfl
theorem dX11_valueOf_251 : decode cX11_valueOf 251 = .ok (.goto 7, 3) := dAt (x := (251, .goto 7, 3)) DX11_valueOf_1 57 rfl
theorem dX11_valueOf_254 : decode cX11_valueOf 254 = .ok (.lload_n 2, 1) := dAt (x := (254, .lload_n 2, 1)) DX11_valueOf_1 58 rfl
theorem dX11_valueOf_255 : decode cX11_valueOf 255 = .ok (.lload 4, 2) := dAt (x := (255, .lload 4, 2)) DX11_valueOf_1 59 rfl
def lDX11_valueOf_2 : List (Nat × Instr × Nat) := [(257, .ldiv, 1), (258, .lreturn, 1), (259, .aload_n 0, 1), (260, .getfield 66, 3), (263, .iload_n 1, 1), (264, .iaload, 1), (265, .lload_n 2, 1), (266, .lload 4, 2), (268, .invokestatic 362, 3), (271, .ifCond .eq 7, 3), (274, .lconst 1, 1), (275, .goto 4, 3), (278, .lconst 0, 1), (279, .lreturn, 1)]
theorem DX11_valueOf_2 : dAll cX11_valueOf lDX11_valueOf_2 = true := by decide +kernel
theorem dX11_valueOf_257 : decode cX11_valueOf 257 = .ok (.ldiv, 1) := dAt (x := (257, .ldiv, 1)) DX11_valueOf_2 0 rfl
theorem dX11_valueOf_258 : decode cX11_valueOf 258 = .ok (.lreturn, 1) := dAt (x := (258, .lreturn, 1)) DX11_valueOf_2 1 rfl
theorem dX11_valueOf_259 : decode cX11_valueOf 259 = .ok (.aload_n 0, 1) := dAt (x := (259, .aload_n 0, 1)) DX11_valueOf_2 2 rfl
theorem dX11_valueOf_260 : decode cX11_valueOf 260 = .ok (.getfield 66, 3) := dAt (x := (260, .getfield 66, 3)) DX11_valueOf_2 3 rfl
theorem dX11_valueOf_263 : decode cX11_valueOf 263 = .ok (.iload_n 1, 1) := dAt (x := (263, .iload_n 1, 1)) DX11_valueOf_2 4 rfl
theorem dX11_valueOf_264 : decode cX11_valueOf 264 = .ok (.iaload, 1) := dAt (x := (264, .iaload, 1)) DX11_valueOf_2 5 rfl
theorem dX11_valueOf_265 : decode cX11_valueOf 265 = .ok (.lload_n 2, 1) := dAt (x := (265, .lload_n 2, 1)) DX11_valueOf_2 6 rfl
theorem dX11_valueOf_266 : decode cX11_valueOf 266 = .ok (.lload 4, 2) := dAt (x := (266, .lload 4, 2)) DX11_valueOf_2 7 rfl
theorem dX11_valueOf_268 : decode cX11_valueOf 268 = .ok (.invokestatic 362, 3) := dAt (x := (268, .invokestatic 362, 3)) DX11_valueOf_2 8 rfl
theorem dX11_valueOf_271 : decode cX11_valueOf 271 = .ok (.ifCond .eq 7, 3) := dAt (x := (271, .ifCond .eq 7, 3)) DX11_valueOf_2 9 rfl
theorem dX11_valueOf_274 : decode cX11_valueOf 274 = .ok (.lconst 1, 1) := dAt (x := (274, .lconst 1, 1)) DX11_valueOf_2 10 rfl
theorem dX11_valueOf_275 : decode cX11_valueOf 275 = .ok (.goto 4, 3) := dAt (x := (275, .goto 4, 3)) DX11_valueOf_2 11 rfl
theorem dX11_valueOf_278 : decode cX11_valueOf 278 = .ok (.lconst 0, 1) := dAt (x := (278, .lconst 0, 1)) DX11_valueOf_2 12 rfl
theorem dX11_valueOf_279 : decode cX11_valueOf 279 = .ok (.lreturn, 1) := dAt (x := (279, .lreturn, 1)) DX11_valueOf_2 13 rfl
def lDX11_waitsBy_0 : List (Nat × Instr × Nat) := [(0, .iload_n 0, 1), (1, .bipush 16, 2), (3, .if_icmp .ne 7, 3), (6, .iconst 3, 1), (7, .goto 24, 3), (10, .iload_n 0, 1), (11, .bipush 14, 2), (13, .if_icmp .ne 7, 3), (16, .iconst 2, 1), (17, .goto 14, 3), (20, .iload_n 0, 1), (21, .bipush 15, 2), (23, .if_icmp .ne 7, 3), (26, .iconst 1, 1), (27, .goto 4, 3), (30, .iconst 0, 1), (31, .ireturn, 1)]
theorem DX11_waitsBy_0 : dAll cX11_waitsBy lDX11_waitsBy_0 = true := by decide +kernel
theorem dX11_waitsBy_0 : decode cX11_waitsBy 0 = .ok (.iload_n 0, 1) := dAt (x := (0, .iload_n 0, 1)) DX11_waitsBy_0 0 rfl
theorem dX11_waitsBy_1 : decode cX11_waitsBy 1 = .ok (.bipush 16, 2) := dAt (x := (1, .bipush 16, 2)) DX11_waitsBy_0 1 rfl
theorem dX11_waitsBy_3 : decode cX11_waitsBy 3 = .ok (.if_icmp .ne 7, 3) := dAt (x := (3, .if_icmp .ne 7, 3)) DX11_waitsBy_0 2 rfl
theorem dX11_waitsBy_6 : decode cX11_waitsBy 6 = .ok (.iconst 3, 1) := dAt (x := (6, .iconst 3, 1)) DX11_waitsBy_0 3 rfl
theorem dX11_waitsBy_7 : decode cX11_waitsBy 7 = .ok (.goto 24, 3) := dAt (x := (7, .goto 24, 3)) DX11_waitsBy_0 4 rfl
theorem dX11_waitsBy_10 : decode cX11_waitsBy 10 = .ok (.iload_n 0, 1) := dAt (x := (10, .iload_n 0, 1)) DX11_waitsBy_0 5 rfl
theorem dX11_waitsBy_11 : decode cX11_waitsBy 11 = .ok (.bipush 14, 2) := dAt (x := (11, .bipush 14, 2)) DX11_waitsBy_0 6 rfl
theorem dX11_waitsBy_13 : decode cX11_waitsBy 13 = .ok (.if_icmp .ne 7, 3) := dAt (x := (13, .if_icmp .ne 7, 3)) DX11_waitsBy_0 7 rfl
theorem dX11_waitsBy_16 : decode cX11_waitsBy 16 = .ok (.iconst 2, 1) := dAt (x := (16, .iconst 2, 1)) DX11_waitsBy_0 8 rfl
theorem dX11_waitsBy_17 : decode cX11_waitsBy 17 = .ok (.goto 14, 3) := dAt (x := (17, .goto 14, 3)) DX11_waitsBy_0 9 rfl
theorem dX11_waitsBy_20 : decode cX11_waitsBy 20 = .ok (.iload_n 0, 1) := dAt (x := (20, .iload_n 0, 1)) DX11_waitsBy_0 10 rfl
theorem dX11_waitsBy_21 : decode cX11_waitsBy 21 = .ok (.bipush 15, 2) := dAt (x := (21, .bipush 15, 2)) DX11_waitsBy_0 11 rfl
theorem dX11_waitsBy_23 : decode cX11_waitsBy 23 = .ok (.if_icmp .ne 7, 3) := dAt (x := (23, .if_icmp .ne 7, 3)) DX11_waitsBy_0 12 rfl
theorem dX11_waitsBy_26 : decode cX11_waitsBy 26 = .ok (.iconst 1, 1) := dAt (x := (26, .iconst 1, 1)) DX11_waitsBy_0 13 rfl
theorem dX11_waitsBy_27 : decode cX11_waitsBy 27 = .ok (.goto 4, 3) := dAt (x := (27, .goto 4, 3)) DX11_waitsBy_0 14 rfl
theorem dX11_waitsBy_30 : decode cX11_waitsBy 30 = .ok (.iconst 0, 1) := dAt (x := (30, .iconst 0, 1)) DX11_waitsBy_0 15 rfl
theorem dX11_waitsBy_31 : decode cX11_waitsBy 31 = .ok (.ireturn, 1) := dAt (x := (31, .ireturn, 1)) DX11_waitsBy_0 16 rfl
def lDX11_leans_0 : List (Nat × Instr × Nat) := [(0, .aload_n 0, 1), (1, .getfield 48, 3), (4, .bipush 64, 2), (6, .aload_n 0, 1), (7, .getfield 234, 3), (10, .iadd, 1), (11, .iload_n 1, 1), (12, .iastore, 1), (13, .aload_n 0, 1), (14, .getfield 51, 3), (17, .bipush 64, 2), (19, .aload_n 0, 1), (20, .getfield 234, 3), (23, .iadd, 1), (24, .iload_n 2, 1), (25, .iastore, 1), (26, .aload_n 0, 1), (27, .getfield 54, 3), (30, .bipush 64, 2), (32, .aload_n 0, 1), (33, .getfield 234, 3), (36, .iadd, 1), (37, .iload_n 3, 1), (38, .iastore, 1), (39, .aload_n 0, 1), (40, .getfield 78, 3), (43, .aload_n 0, 1), (44, .getfield 297, 3), (47, .aload_n 0, 1), (48, .getfield 234, 3), (51, .iastore, 1), (52, .aload_n 0, 1), (53, .dup, 1), (54, .getfield 297, 3), (57, .iconst 1, 1), (58, .iadd, 1), (59, .putfield 297, 3), (62, .aload_n 0, 1), (63, .dup, 1), (64, .getfield 234, 3), (67, .iconst 1, 1), (68, .iadd, 1), (69, .putfield 234, 3), (72, .return_, 1)]
theorem DX11_leans_0 : dAll cX11_leans lDX11_leans_0 = true := by decide +kernel
theorem dX11_leans_0 : decode cX11_leans 0 = .ok (.aload_n 0, 1) := dAt (x := (0, .aload_n 0, 1)) DX11_leans_0 0 rfl
theorem dX11_leans_1 : decode cX11_leans 1 = .ok (.getfield 48, 3) := dAt (x := (1, .getfield 48, 3)) DX11_leans_0 1 rfl
theorem dX11_leans_4 : decode cX11_leans 4 = .ok (.bipush 64, 2) := dAt (x := (4, .bipush 64, 2)) DX11_leans_0 2 rfl
theorem dX11_leans_6 : decode cX11_leans 6 = .ok (.aload_n 0, 1) := dAt (x := (6, .aload_n 0, 1)) DX11_leans_0 3 rfl
theorem dX11_leans_7 : decode cX11_leans 7 = .ok (.getfield 234, 3) := dAt (x := (7, .getfield 234, 3)) DX11_leans_0 4 rfl
theorem dX11_leans_10 : decode cX11_leans 10 = .ok (.iadd, 1) := dAt (x := (10, .iadd, 1)) DX11_leans_0 5 rfl
theorem dX11_leans_11 : decode cX11_leans 11 = .ok (.iload_n 1, 1) := dAt (x := (11, .iload_n 1, 1)) DX11_leans_0 6 rfl
theorem dX11_leans_12 : decode cX11_leans 12 = .ok (.iastore, 1) := dAt (x := (12, .iastore, 1)) DX11_leans_0 7 rfl
theorem dX11_leans_13 : decode cX11_leans 13 = .ok (.aload_n 0, 1) := dAt (x := (13, .aload_n 0, 1)) DX11_leans_0 8 rfl
theorem dX11_leans_14 : decode cX11_leans 14 = .ok (.getfield 51, 3) := dAt (x := (14, .getfield 51, 3)) DX11_leans_0 9 rfl
theorem dX11_leans_17 : decode cX11_leans 17 = .ok (.bipush 64, 2) := dAt (x := (17, .bipush 64, 2)) DX11_leans_0 10 rfl
theorem dX11_leans_19 : decode cX11_leans 19 = .ok (.aload_n 0, 1) := dAt (x := (19, .aload_n 0, 1)) DX11_leans_0 11 rfl
theorem dX11_leans_20 : decode cX11_leans 20 = .ok (.getfield 234, 3) := dAt (x := (20, .getfield 234, 3)) DX11_leans_0 12 rfl
theorem dX11_leans_23 : decode cX11_leans 23 = .ok (.iadd, 1) := dAt (x := (23, .iadd, 1)) DX11_leans_0 13 rfl
theorem dX11_leans_24 : decode cX11_leans 24 = .ok (.iload_n 2, 1) := dAt (x := (24, .iload_n 2, 1)) DX11_leans_0 14 rfl
theorem dX11_leans_25 : decode cX11_leans 25 = .ok (.iastore, 1) := dAt (x := (25, .iastore, 1)) DX11_leans_0 15 rfl
theorem dX11_leans_26 : decode cX11_leans 26 = .ok (.aload_n 0, 1) := dAt (x := (26, .aload_n 0, 1)) DX11_leans_0 16 rfl
theorem dX11_leans_27 : decode cX11_leans 27 = .ok (.getfield 54, 3) := dAt (x := (27, .getfield 54, 3)) DX11_leans_0 17 rfl
theorem dX11_leans_30 : decode cX11_leans 30 = .ok (.bipush 64, 2) := dAt (x := (30, .bipush 64, 2)) DX11_leans_0 18 rfl
theorem dX11_leans_32 : decode cX11_leans 32 = .ok (.aload_n 0, 1) := dAt (x := (32, .aload_n 0, 1)) DX11_leans_0 19 rfl
theorem dX11_leans_33 : decode cX11_leans 33 = .ok (.getfield 234, 3) := dAt (x := (33, .getfield 234, 3)) DX11_leans_0 20 rfl
theorem dX11_leans_36 : decode cX11_leans 36 = .ok (.iadd, 1) := dAt (x := (36, .iadd, 1)) DX11_leans_0 21 rfl
theorem dX11_leans_37 : decode cX11_leans 37 = .ok (.iload_n 3, 1) := dAt (x := (37, .iload_n 3, 1)) DX11_leans_0 22 rfl
theorem dX11_leans_38 : decode cX11_leans 38 = .ok (.iastore, 1) := dAt (x := (38, .iastore, 1)) DX11_leans_0 23 rfl
theorem dX11_leans_39 : decode cX11_leans 39 = .ok (.aload_n 0, 1) := dAt (x := (39, .aload_n 0, 1)) DX11_leans_0 24 rfl
theorem dX11_leans_40 : decode cX11_leans 40 = .ok (.getfield 78, 3) := dAt (x := (40, .getfield 78, 3)) DX11_leans_0 25 rfl
theorem dX11_leans_43 : decode cX11_leans 43 = .ok (.aload_n 0, 1) := dAt (x := (43, .aload_n 0, 1)) DX11_leans_0 26 rfl
theorem dX11_leans_44 : decode cX11_leans 44 = .ok (.getfield 297, 3) := dAt (x := (44, .getfield 297, 3)) DX11_leans_0 27 rfl
theorem dX11_leans_47 : decode cX11_leans 47 = .ok (.aload_n 0, 1) := dAt (x := (47, .aload_n 0, 1)) DX11_leans_0 28 rfl
theorem dX11_leans_48 : decode cX11_leans 48 = .ok (.getfield 234, 3) := dAt (x := (48, .getfield 234, 3)) DX11_leans_0 29 rfl
theorem dX11_leans_51 : decode cX11_leans 51 = .ok (.iastore, 1) := dAt (x := (51, .iastore, 1)) DX11_leans_0 30 rfl
theorem dX11_leans_52 : decode cX11_leans 52 = .ok (.aload_n 0, 1) := dAt (x := (52, .aload_n 0, 1)) DX11_leans_0 31 rfl
theorem dX11_leans_53 : decode cX11_leans 53 = .ok (.dup, 1) := dAt (x := (53, .dup, 1)) DX11_leans_0 32 rfl
theorem dX11_leans_54 : decode cX11_leans 54 = .ok (.getfield 297, 3) := dAt (x := (54, .getfield 297, 3)) DX11_leans_0 33 rfl
theorem dX11_leans_57 : decode cX11_leans 57 = .ok (.iconst 1, 1) := dAt (x := (57, .iconst 1, 1)) DX11_leans_0 34 rfl
theorem dX11_leans_58 : decode cX11_leans 58 = .ok (.iadd, 1) := dAt (x := (58, .iadd, 1)) DX11_leans_0 35 rfl
theorem dX11_leans_59 : decode cX11_leans 59 = .ok (.putfield 297, 3) := dAt (x := (59, .putfield 297, 3)) DX11_leans_0 36 rfl
theorem dX11_leans_62 : decode cX11_leans 62 = .ok (.aload_n 0, 1) := dAt (x := (62, .aload_n 0, 1)) DX11_leans_0 37 rfl
theorem dX11_leans_63 : decode cX11_leans 63 = .ok (.dup, 1) := dAt (x := (63, .dup, 1)) DX11_leans_0 38 rfl
theorem dX11_leans_64 : decode cX11_leans 64 = .ok (.getfield 234, 3) := dAt (x := (64, .getfield 234, 3)) DX11_leans_0 39 rfl
theorem dX11_leans_67 : decode cX11_leans 67 = .ok (.iconst 1, 1) := dAt (x := (67, .iconst 1, 1)) DX11_leans_0 40 rfl
theorem dX11_leans_68 : decode cX11_leans 68 = .ok (.iadd, 1) := dAt (x := (68, .iadd, 1)) DX11_leans_0 41 rfl
theorem dX11_leans_69 : decode cX11_leans 69 = .ok (.putfield 234, 3) := dAt (x := (69, .putfield 234, 3)) DX11_leans_0 42 rfl
theorem dX11_leans_72 : decode cX11_leans 72 = .ok (.return_, 1) := dAt (x := (72, .return_, 1)) DX11_leans_0 43 rfl
def lDX11_binds_0 : List (Nat × Instr × Nat) := [(0, .aload_n 0, 1), (1, .getfield 300, 3), (4, .ifCond .le 94, 3), (7, .aload_n 0, 1), (8, .getfield 75, 3), (11, .aload_n 0, 1), (12, .getfield 300, 3), (15, .iconst 1, 1), (16, .isub, 1), (17, .iaload, 1), (18, .invokestatic 366, 3), (21, .iload_n 1, 1), (22, .if_icmp .lt 76, 3), (25, .aload_n 0, 1), (26, .dup, 1), (27, .getfield 300, 3), (30, .iconst 1, 1), (31, .isub, 1), (32, .putfield 300, 3), (35, .aload_n 0, 1), (36, .getfield 75, 3), (39, .aload_n 0, 1), (40, .getfield 300, 3), (43, .iaload, 1), (44, .istore_n 2, 1), (45, .iload_n 2, 1), (46, .bipush 16, 2), (48, .if_icmp .ne 7, 3), (51, .iconst (-1), 1), (52, .goto 7, 3), (55, .aload_n 0, 1), (56, .invokevirtual 307, 3), (59, .istore_n 3, 1), (60, .aload_n 0, 1), (61, .invokevirtual 307, 3), (64, .istore 4, 2), (66, .aload_n 0, 1), (67, .iload_n 2, 1), (68, .bipush 16, 2), (70, .if_icmp .ne 7, 3), (73, .iconst 4, 1), (74, .goto 15, 3), (77, .iload_n 2, 1), (78, .bipush 14, 2), (80, .if_icmp .ne 7, 3), (83, .iconst 5, 1), (84, .goto 5, 3), (87, .bipush 6, 2), (89, .iload 4, 2), (91, .iload_n 3, 1), (92, .invokevirtual 369, 3), (95, .goto (-95), 3), (98, .return_, 1)]
theorem DX11_binds_0 : dAll cX11_binds lDX11_binds_0 = true := by decide +kernel
theorem dX11_binds_0 : decode cX11_binds 0 = .ok (.aload_n 0, 1) := dAt (x := (0, .aload_n 0, 1)) DX11_binds_0 0 rfl
theorem dX11_binds_1 : decode cX11_binds 1 = .ok (.getfield 300, 3) := dAt (x := (1, .getfield 300, 3)) DX11_binds_0 1 rfl
theorem dX11_binds_4 : decode cX11_binds 4 = .ok (.ifCond .le 94, 3) := dAt (x := (4, .ifCond .le 94, 3)) DX11_binds_0 2 rfl
theorem dX11_binds_7 : decode cX11_binds 7 = .ok (.aload_n 0, 1) := dAt (x := (7, .aload_n 0, 1)) DX11_binds_0 3 rfl
theorem dX11_binds_8 : decode cX11_binds 8 = .ok (.getfield 75, 3) := dAt (x := (8, .getfield 75, 3)) DX11_binds_0 4 rfl
theorem dX11_binds_11 : decode cX11_binds 11 = .ok (.aload_n 0, 1) := dAt (x := (11, .aload_n 0, 1)) DX11_binds_0 5 rfl
theorem dX11_binds_12 : decode cX11_binds 12 = .ok (.getfield 300, 3) := dAt (x := (12, .getfield 300, 3)) DX11_binds_0 6 rfl
theorem dX11_binds_15 : decode cX11_binds 15 = .ok (.iconst 1, 1) := dAt (x := (15, .iconst 1, 1)) DX11_binds_0 7 rfl
theorem dX11_binds_16 : decode cX11_binds 16 = .ok (.isub, 1) := dAt (x := (16, .isub, 1)) DX11_binds_0 8 rfl
theorem dX11_binds_17 : decode cX11_binds 17 = .ok (.iaload, 1) := dAt (x := (17, .iaload, 1)) DX11_binds_0 9 rfl
theorem dX11_binds_18 : decode cX11_binds 18 = .ok (.invokestatic 366, 3) := dAt (x := (18, .invokestatic 366, 3)) DX11_binds_0 10 rfl
theorem dX11_binds_21 : decode cX11_binds 21 = .ok (.iload_n 1, 1) := dAt (x := (21, .iload_n 1, 1)) DX11_binds_0 11 rfl
theorem dX11_binds_22 : decode cX11_binds 22 = .ok (.if_icmp .lt 76, 3) := dAt (x := (22, .if_icmp .lt 76, 3)) DX11_binds_0 12 rfl
theorem dX11_binds_25 : decode cX11_binds 25 = .ok (.aload_n 0, 1) := dAt (x := (25, .aload_n 0, 1)) DX11_binds_0 13 rfl
theorem dX11_binds_26 : decode cX11_binds 26 = .ok (.dup, 1) := dAt (x := (26, .dup, 1)) DX11_binds_0 14 rfl
theorem dX11_binds_27 : decode cX11_binds 27 = .ok (.getfield 300, 3) := dAt (x := (27, .getfield 300, 3)) DX11_binds_0 15 rfl
theorem dX11_binds_30 : decode cX11_binds 30 = .ok (.iconst 1, 1) := dAt (x := (30, .iconst 1, 1)) DX11_binds_0 16 rfl
theorem dX11_binds_31 : decode cX11_binds 31 = .ok (.isub, 1) := dAt (x := (31, .isub, 1)) DX11_binds_0 17 rfl
theorem dX11_binds_32 : decode cX11_binds 32 = .ok (.putfield 300, 3) := dAt (x := (32, .putfield 300, 3)) DX11_binds_0 18 rfl
theorem dX11_binds_35 : decode cX11_binds 35 = .ok (.aload_n 0, 1) := dAt (x := (35, .aload_n 0, 1)) DX11_binds_0 19 rfl
theorem dX11_binds_36 : decode cX11_binds 36 = .ok (.getfield 75, 3) := dAt (x := (36, .getfield 75, 3)) DX11_binds_0 20 rfl
theorem dX11_binds_39 : decode cX11_binds 39 = .ok (.aload_n 0, 1) := dAt (x := (39, .aload_n 0, 1)) DX11_binds_0 21 rfl
theorem dX11_binds_40 : decode cX11_binds 40 = .ok (.getfield 300, 3) := dAt (x := (40, .getfield 300, 3)) DX11_binds_0 22 rfl
theorem dX11_binds_43 : decode cX11_binds 43 = .ok (.iaload, 1) := dAt (x := (43, .iaload, 1)) DX11_binds_0 23 rfl
theorem dX11_binds_44 : decode cX11_binds 44 = .ok (.istore_n 2, 1) := dAt (x := (44, .istore_n 2, 1)) DX11_binds_0 24 rfl
theorem dX11_binds_45 : decode cX11_binds 45 = .ok (.iload_n 2, 1) := dAt (x := (45, .iload_n 2, 1)) DX11_binds_0 25 rfl
theorem dX11_binds_46 : decode cX11_binds 46 = .ok (.bipush 16, 2) := dAt (x := (46, .bipush 16, 2)) DX11_binds_0 26 rfl
theorem dX11_binds_48 : decode cX11_binds 48 = .ok (.if_icmp .ne 7, 3) := dAt (x := (48, .if_icmp .ne 7, 3)) DX11_binds_0 27 rfl
theorem dX11_binds_51 : decode cX11_binds 51 = .ok (.iconst (-1), 1) := dAt (x := (51, .iconst (-1), 1)) DX11_binds_0 28 rfl
theorem dX11_binds_52 : decode cX11_binds 52 = .ok (.goto 7, 3) := dAt (x := (52, .goto 7, 3)) DX11_binds_0 29 rfl
theorem dX11_binds_55 : decode cX11_binds 55 = .ok (.aload_n 0, 1) := dAt (x := (55, .aload_n 0, 1)) DX11_binds_0 30 rfl
theorem dX11_binds_56 : decode cX11_binds 56 = .ok (.invokevirtual 307, 3) := dAt (x := (56, .invokevirtual 307, 3)) DX11_binds_0 31 rfl
theorem dX11_binds_59 : decode cX11_binds 59 = .ok (.istore_n 3, 1) := dAt (x := (59, .istore_n 3, 1)) DX11_binds_0 32 rfl
theorem dX11_binds_60 : decode cX11_binds 60 = .ok (.aload_n 0, 1) := dAt (x := (60, .aload_n 0, 1)) DX11_binds_0 33 rfl
theorem dX11_binds_61 : decode cX11_binds 61 = .ok (.invokevirtual 307, 3) := dAt (x := (61, .invokevirtual 307, 3)) DX11_binds_0 34 rfl
theorem dX11_binds_64 : decode cX11_binds 64 = .ok (.istore 4, 2) := dAt (x := (64, .istore 4, 2)) DX11_binds_0 35 rfl
theorem dX11_binds_66 : decode cX11_binds 66 = .ok (.aload_n 0, 1) := dAt (x := (66, .aload_n 0, 1)) DX11_binds_0 36 rfl
theorem dX11_binds_67 : decode cX11_binds 67 = .ok (.iload_n 2, 1) := dAt (x := (67, .iload_n 2, 1)) DX11_binds_0 37 rfl
theorem dX11_binds_68 : decode cX11_binds 68 = .ok (.bipush 16, 2) := dAt (x := (68, .bipush 16, 2)) DX11_binds_0 38 rfl
theorem dX11_binds_70 : decode cX11_binds 70 = .ok (.if_icmp .ne 7, 3) := dAt (x := (70, .if_icmp .ne 7, 3)) DX11_binds_0 39 rfl
theorem dX11_binds_73 : decode cX11_binds 73 = .ok (.iconst 4, 1) := dAt (x := (73, .iconst 4, 1)) DX11_binds_0 40 rfl
theorem dX11_binds_74 : decode cX11_binds 74 = .ok (.goto 15, 3) := dAt (x := (74, .goto 15, 3)) DX11_binds_0 41 rfl
theorem dX11_binds_77 : decode cX11_binds 77 = .ok (.iload_n 2, 1) := dAt (x := (77, .iload_n 2, 1)) DX11_binds_0 42 rfl
theorem dX11_binds_78 : decode cX11_binds 78 = .ok (.bipush 14, 2) := dAt (x := (78, .bipush 14, 2)) DX11_binds_0 43 rfl
theorem dX11_binds_80 : decode cX11_binds 80 = .ok (.if_icmp .ne 7, 3) := dAt (x := (80, .if_icmp .ne 7, 3)) DX11_binds_0 44 rfl
theorem dX11_binds_83 : decode cX11_binds 83 = .ok (.iconst 5, 1) := dAt (x := (83, .iconst 5, 1)) DX11_binds_0 45 rfl
theorem dX11_binds_84 : decode cX11_binds 84 = .ok (.goto 5, 3) := dAt (x := (84, .goto 5, 3)) DX11_binds_0 46 rfl
theorem dX11_binds_87 : decode cX11_binds 87 = .ok (.bipush 6, 2) := dAt (x := (87, .bipush 6, 2)) DX11_binds_0 47 rfl
theorem dX11_binds_89 : decode cX11_binds 89 = .ok (.iload 4, 2) := dAt (x := (89, .iload 4, 2)) DX11_binds_0 48 rfl
theorem dX11_binds_91 : decode cX11_binds 91 = .ok (.iload_n 3, 1) := dAt (x := (91, .iload_n 3, 1)) DX11_binds_0 49 rfl
theorem dX11_binds_92 : decode cX11_binds 92 = .ok (.invokevirtual 369, 3) := dAt (x := (92, .invokevirtual 369, 3)) DX11_binds_0 50 rfl
theorem dX11_binds_95 : decode cX11_binds 95 = .ok (.goto (-95), 3) := dAt (x := (95, .goto (-95), 3)) DX11_binds_0 51 rfl
theorem dX11_binds_98 : decode cX11_binds 98 = .ok (.return_, 1) := dAt (x := (98, .return_, 1)) DX11_binds_0 52 rfl
def lDX11_simpleRead_0 : List (Nat × Instr × Nat) := [(0, .aload_n 0, 1), (1, .getfield 189, 3), (4, .bipush 10, 2), (6, .isub, 1), (7, .istore_n 2, 1), (8, .aload_n 0, 1), (9, .invokevirtual 329, 3), (12, .ifCond .ne 5, 3), (15, .iconst 0, 1), (16, .ireturn, 1), (17, .aload_n 0, 1), (18, .invokevirtual 212, 3), (21, .iload_n 2, 1), (22, .iconst 2, 1), (23, .if_icmp .ne 27, 3), (26, .aload_n 0, 1), (27, .iconst 0, 1), (28, .bipush 8, 2), (30, .invokevirtual 218, 3), (33, .ifCond .ne 5, 3), (36, .iconst 0, 1), (37, .ireturn, 1), (38, .aload_n 0, 1), (39, .iconst 2, 1), (40, .aload_n 0, 1), (41, .getfield 209, 3), (44, .iconst (-1), 1), (45, .invokevirtual 369, 3), (48, .iconst 1, 1), (49, .ireturn, 1), (50, .aload_n 0, 1), (51, .getfield 169, 3), (54, .istore_n 3, 1), (55, .aload_n 0, 1), (56, .invokevirtual 269, 3), (59, .ifCond .ne 5, 3), (62, .iconst 0, 1), (63, .ireturn, 1), (64, .bipush 8, 2), (66, .aload_n 0, 1), (67, .getfield 209, 3), (70, .iadd, 1), (71, .istore 4, 2), (73, .iload_n 2, 1), (74, .iconst 2, 1), (75, .if_icmp .ge 19, 3), (78, .aload_n 0, 1), (79, .getfield 209, 3), (82, .iload_n 1, 1), (83, .if_icmp .ne 7, 3), (86, .iconst 5, 1), (87, .goto 40, 3), (90, .iconst 0, 1), (91, .goto 36, 3), (94, .aload_n 0, 1), (95, .getfield 33, 3), (98, .iload 4, 2), (100, .iaload, 1), (101, .ifCond .ge 7, 3), (104, .iconst 4, 1)]
theorem DX11_simpleRead_0 : dAll cX11_simpleRead lDX11_simpleRead_0 = true := by decide +kernel
theorem dX11_simpleRead_0 : decode cX11_simpleRead 0 = .ok (.aload_n 0, 1) := dAt (x := (0, .aload_n 0, 1)) DX11_simpleRead_0 0 rfl
theorem dX11_simpleRead_1 : decode cX11_simpleRead 1 = .ok (.getfield 189, 3) := dAt (x := (1, .getfield 189, 3)) DX11_simpleRead_0 1 rfl
theorem dX11_simpleRead_4 : decode cX11_simpleRead 4 = .ok (.bipush 10, 2) := dAt (x := (4, .bipush 10, 2)) DX11_simpleRead_0 2 rfl
theorem dX11_simpleRead_6 : decode cX11_simpleRead 6 = .ok (.isub, 1) := dAt (x := (6, .isub, 1)) DX11_simpleRead_0 3 rfl
theorem dX11_simpleRead_7 : decode cX11_simpleRead 7 = .ok (.istore_n 2, 1) := dAt (x := (7, .istore_n 2, 1)) DX11_simpleRead_0 4 rfl
theorem dX11_simpleRead_8 : decode cX11_simpleRead 8 = .ok (.aload_n 0, 1) := dAt (x := (8, .aload_n 0, 1)) DX11_simpleRead_0 5 rfl
theorem dX11_simpleRead_9 : decode cX11_simpleRead 9 = .ok (.invokevirtual 329, 3) := dAt (x := (9, .invokevirtual 329, 3)) DX11_simpleRead_0 6 rfl
theorem dX11_simpleRead_12 : decode cX11_simpleRead 12 = .ok (.ifCond .ne 5, 3) := dAt (x := (12, .ifCond .ne 5, 3)) DX11_simpleRead_0 7 rfl
theorem dX11_simpleRead_15 : decode cX11_simpleRead 15 = .ok (.iconst 0, 1) := dAt (x := (15, .iconst 0, 1)) DX11_simpleRead_0 8 rfl
theorem dX11_simpleRead_16 : decode cX11_simpleRead 16 = .ok (.ireturn, 1) := dAt (x := (16, .ireturn, 1)) DX11_simpleRead_0 9 rfl
theorem dX11_simpleRead_17 : decode cX11_simpleRead 17 = .ok (.aload_n 0, 1) := dAt (x := (17, .aload_n 0, 1)) DX11_simpleRead_0 10 rfl
theorem dX11_simpleRead_18 : decode cX11_simpleRead 18 = .ok (.invokevirtual 212, 3) := dAt (x := (18, .invokevirtual 212, 3)) DX11_simpleRead_0 11 rfl
theorem dX11_simpleRead_21 : decode cX11_simpleRead 21 = .ok (.iload_n 2, 1) := dAt (x := (21, .iload_n 2, 1)) DX11_simpleRead_0 12 rfl
theorem dX11_simpleRead_22 : decode cX11_simpleRead 22 = .ok (.iconst 2, 1) := dAt (x := (22, .iconst 2, 1)) DX11_simpleRead_0 13 rfl
theorem dX11_simpleRead_23 : decode cX11_simpleRead 23 = .ok (.if_icmp .ne 27, 3) := dAt (x := (23, .if_icmp .ne 27, 3)) DX11_simpleRead_0 14 rfl
theorem dX11_simpleRead_26 : decode cX11_simpleRead 26 = .ok (.aload_n 0, 1) := dAt (x := (26, .aload_n 0, 1)) DX11_simpleRead_0 15 rfl
theorem dX11_simpleRead_27 : decode cX11_simpleRead 27 = .ok (.iconst 0, 1) := dAt (x := (27, .iconst 0, 1)) DX11_simpleRead_0 16 rfl
theorem dX11_simpleRead_28 : decode cX11_simpleRead 28 = .ok (.bipush 8, 2) := dAt (x := (28, .bipush 8, 2)) DX11_simpleRead_0 17 rfl
theorem dX11_simpleRead_30 : decode cX11_simpleRead 30 = .ok (.invokevirtual 218, 3) := dAt (x := (30, .invokevirtual 218, 3)) DX11_simpleRead_0 18 rfl
theorem dX11_simpleRead_33 : decode cX11_simpleRead 33 = .ok (.ifCond .ne 5, 3) := dAt (x := (33, .ifCond .ne 5, 3)) DX11_simpleRead_0 19 rfl
theorem dX11_simpleRead_36 : decode cX11_simpleRead 36 = .ok (.iconst 0, 1) := dAt (x := (36, .iconst 0, 1)) DX11_simpleRead_0 20 rfl
theorem dX11_simpleRead_37 : decode cX11_simpleRead 37 = .ok (.ireturn, 1) := dAt (x := (37, .ireturn, 1)) DX11_simpleRead_0 21 rfl
theorem dX11_simpleRead_38 : decode cX11_simpleRead 38 = .ok (.aload_n 0, 1) := dAt (x := (38, .aload_n 0, 1)) DX11_simpleRead_0 22 rfl
theorem dX11_simpleRead_39 : decode cX11_simpleRead 39 = .ok (.iconst 2, 1) := dAt (x := (39, .iconst 2, 1)) DX11_simpleRead_0 23 rfl
theorem dX11_simpleRead_40 : decode cX11_simpleRead 40 = .ok (.aload_n 0, 1) := dAt (x := (40, .aload_n 0, 1)) DX11_simpleRead_0 24 rfl
theorem dX11_simpleRead_41 : decode cX11_simpleRead 41 = .ok (.getfield 209, 3) := dAt (x := (41, .getfield 209, 3)) DX11_simpleRead_0 25 rfl
theorem dX11_simpleRead_44 : decode cX11_simpleRead 44 = .ok (.iconst (-1), 1) := dAt (x := (44, .iconst (-1), 1)) DX11_simpleRead_0 26 rfl
theorem dX11_simpleRead_45 : decode cX11_simpleRead 45 = .ok (.invokevirtual 369, 3) := dAt (x := (45, .invokevirtual 369, 3)) DX11_simpleRead_0 27 rfl
theorem dX11_simpleRead_48 : decode cX11_simpleRead 48 = .ok (.iconst 1, 1) := dAt (x := (48, .iconst 1, 1)) DX11_simpleRead_0 28 rfl
theorem dX11_simpleRead_49 : decode cX11_simpleRead 49 = .ok (.ireturn, 1) := dAt (x := (49, .ireturn, 1)) DX11_simpleRead_0 29 rfl
theorem dX11_simpleRead_50 : decode cX11_simpleRead 50 = .ok (.aload_n 0, 1) := dAt (x := (50, .aload_n 0, 1)) DX11_simpleRead_0 30 rfl
theorem dX11_simpleRead_51 : decode cX11_simpleRead 51 = .ok (.getfield 169, 3) := dAt (x := (51, .getfield 169, 3)) DX11_simpleRead_0 31 rfl
theorem dX11_simpleRead_54 : decode cX11_simpleRead 54 = .ok (.istore_n 3, 1) := dAt (x := (54, .istore_n 3, 1)) DX11_simpleRead_0 32 rfl
theorem dX11_simpleRead_55 : decode cX11_simpleRead 55 = .ok (.aload_n 0, 1) := dAt (x := (55, .aload_n 0, 1)) DX11_simpleRead_0 33 rfl
theorem dX11_simpleRead_56 : decode cX11_simpleRead 56 = .ok (.invokevirtual 269, 3) := dAt (x := (56, .invokevirtual 269, 3)) DX11_simpleRead_0 34 rfl
theorem dX11_simpleRead_59 : decode cX11_simpleRead 59 = .ok (.ifCond .ne 5, 3) := dAt (x := (59, .ifCond .ne 5, 3)) DX11_simpleRead_0 35 rfl
theorem dX11_simpleRead_62 : decode cX11_simpleRead 62 = .ok (.iconst 0, 1) := dAt (x := (62, .iconst 0, 1)) DX11_simpleRead_0 36 rfl
theorem dX11_simpleRead_63 : decode cX11_simpleRead 63 = .ok (.ireturn, 1) := dAt (x := (63, .ireturn, 1)) DX11_simpleRead_0 37 rfl
theorem dX11_simpleRead_64 : decode cX11_simpleRead 64 = .ok (.bipush 8, 2) := dAt (x := (64, .bipush 8, 2)) DX11_simpleRead_0 38 rfl
theorem dX11_simpleRead_66 : decode cX11_simpleRead 66 = .ok (.aload_n 0, 1) := dAt (x := (66, .aload_n 0, 1)) DX11_simpleRead_0 39 rfl
theorem dX11_simpleRead_67 : decode cX11_simpleRead 67 = .ok (.getfield 209, 3) := dAt (x := (67, .getfield 209, 3)) DX11_simpleRead_0 40 rfl
theorem dX11_simpleRead_70 : decode cX11_simpleRead 70 = .ok (.iadd, 1) := dAt (x := (70, .iadd, 1)) DX11_simpleRead_0 41 rfl
theorem dX11_simpleRead_71 : decode cX11_simpleRead 71 = .ok (.istore 4, 2) := dAt (x := (71, .istore 4, 2)) DX11_simpleRead_0 42 rfl
theorem dX11_simpleRead_73 : decode cX11_simpleRead 73 = .ok (.iload_n 2, 1) := dAt (x := (73, .iload_n 2, 1)) DX11_simpleRead_0 43 rfl
theorem dX11_simpleRead_74 : decode cX11_simpleRead 74 = .ok (.iconst 2, 1) := dAt (x := (74, .iconst 2, 1)) DX11_simpleRead_0 44 rfl
theorem dX11_simpleRead_75 : decode cX11_simpleRead 75 = .ok (.if_icmp .ge 19, 3) := dAt (x := (75, .if_icmp .ge 19, 3)) DX11_simpleRead_0 45 rfl
theorem dX11_simpleRead_78 : decode cX11_simpleRead 78 = .ok (.aload_n 0, 1) := dAt (x := (78, .aload_n 0, 1)) DX11_simpleRead_0 46 rfl
theorem dX11_simpleRead_79 : decode cX11_simpleRead 79 = .ok (.getfield 209, 3) := dAt (x := (79, .getfield 209, 3)) DX11_simpleRead_0 47 rfl
theorem dX11_simpleRead_82 : decode cX11_simpleRead 82 = .ok (.iload_n 1, 1) := dAt (x := (82, .iload_n 1, 1)) DX11_simpleRead_0 48 rfl
theorem dX11_simpleRead_83 : decode cX11_simpleRead 83 = .ok (.if_icmp .ne 7, 3) := dAt (x := (83, .if_icmp .ne 7, 3)) DX11_simpleRead_0 49 rfl
theorem dX11_simpleRead_86 : decode cX11_simpleRead 86 = .ok (.iconst 5, 1) := dAt (x := (86, .iconst 5, 1)) DX11_simpleRead_0 50 rfl
theorem dX11_simpleRead_87 : decode cX11_simpleRead 87 = .ok (.goto 40, 3) := dAt (x := (87, .goto 40, 3)) DX11_simpleRead_0 51 rfl
theorem dX11_simpleRead_90 : decode cX11_simpleRead 90 = .ok (.iconst 0, 1) := dAt (x := (90, .iconst 0, 1)) DX11_simpleRead_0 52 rfl
theorem dX11_simpleRead_91 : decode cX11_simpleRead 91 = .ok (.goto 36, 3) := dAt (x := (91, .goto 36, 3)) DX11_simpleRead_0 53 rfl
theorem dX11_simpleRead_94 : decode cX11_simpleRead 94 = .ok (.aload_n 0, 1) := dAt (x := (94, .aload_n 0, 1)) DX11_simpleRead_0 54 rfl
theorem dX11_simpleRead_95 : decode cX11_simpleRead 95 = .ok (.getfield 33, 3) := dAt (x := (95, .getfield 33, 3)) DX11_simpleRead_0 55 rfl
theorem dX11_simpleRead_98 : decode cX11_simpleRead 98 = .ok (.iload 4, 2) := dAt (x := (98, .iload 4, 2)) DX11_simpleRead_0 56 rfl
theorem dX11_simpleRead_100 : decode cX11_simpleRead 100 = .ok (.iaload, 1) := dAt (x := (100, .iaload, 1)) DX11_simpleRead_0 57 rfl
theorem dX11_simpleRead_101 : decode cX11_simpleRead 101 = .ok (.ifCond .ge 7, 3) := dAt (x := (101, .ifCond .ge 7, 3)) DX11_simpleRead_0 58 rfl
theorem dX11_simpleRead_104 : decode cX11_simpleRead 104 = .ok (.iconst 4, 1) := dAt (x := (104, .iconst 4, 1)) DX11_simpleRead_0 59 rfl
def lDX11_simpleRead_1 : List (Nat × Instr × Nat) := [(105, .goto 22, 3), (108, .aload_n 0, 1), (109, .getfield 36, 3), (112, .iload 4, 2), (114, .iaload, 1), (115, .iload_n 1, 1), (116, .invokestatic 372, 3), (119, .ifCond .eq 7, 3), (122, .iconst 5, 1), (123, .goto 4, 3), (126, .iconst 0, 1), (127, .istore 5, 2), (129, .iload 5, 2), (131, .ifCond .le 15, 3), (134, .aload_n 0, 1), (135, .iload_n 3, 1), (136, .putfield 169, 3), (139, .aload_n 0, 1), (140, .iload 5, 2), (142, .invokevirtual 202, 3), (145, .ireturn, 1), (146, .aload_n 0, 1), (147, .getfield 36, 3), (150, .bipush 8, 2), (152, .iload_n 1, 1), (153, .iadd, 1), (154, .dup2, 1), (155, .iaload, 1), (156, .iload_n 2, 1), (157, .iconst 2, 1), (158, .if_icmp .ge 12, 3), (161, .iconst 1, 1), (162, .aload_n 0, 1), (163, .getfield 209, 3), (166, .ishl, 1), (167, .goto 10, 3), (170, .aload_n 0, 1), (171, .getfield 36, 3), (174, .iload 4, 2), (176, .iaload, 1), (177, .ior, 1), (178, .iastore, 1), (179, .aload_n 0, 1), (180, .iload_n 2, 1), (181, .iload_n 2, 1), (182, .iconst 2, 1), (183, .if_icmp .ge 10, 3), (186, .aload_n 0, 1), (187, .getfield 209, 3), (190, .goto 10, 3), (193, .aload_n 0, 1), (194, .getfield 33, 3), (197, .iload 4, 2), (199, .iaload, 1), (200, .iconst (-1), 1), (201, .invokevirtual 369, 3), (204, .iconst 1, 1), (205, .ireturn, 1)]
theorem DX11_simpleRead_1 : dAll cX11_simpleRead lDX11_simpleRead_1 = true := by decide +kernel
theorem dX11_simpleRead_105 : decode cX11_simpleRead 105 = .ok (.goto 22, 3) := dAt (x := (105, .goto 22, 3)) DX11_simpleRead_1 0 rfl
theorem dX11_simpleRead_108 : decode cX11_simpleRead 108 = .ok (.aload_n 0, 1) := dAt (x := (108, .aload_n 0, 1)) DX11_simpleRead_1 1 rfl
theorem dX11_simpleRead_109 : decode cX11_simpleRead 109 = .ok (.getfield 36, 3) := dAt (x := (109, .getfield 36, 3)) DX11_simpleRead_1 2 rfl
theorem dX11_simpleRead_112 : decode cX11_simpleRead 112 = .ok (.iload 4, 2) := dAt (x := (112, .iload 4, 2)) DX11_simpleRead_1 3 rfl
theorem dX11_simpleRead_114 : decode cX11_simpleRead 114 = .ok (.iaload, 1) := dAt (x := (114, .iaload, 1)) DX11_simpleRead_1 4 rfl
theorem dX11_simpleRead_115 : decode cX11_simpleRead 115 = .ok (.iload_n 1, 1) := dAt (x := (115, .iload_n 1, 1)) DX11_simpleRead_1 5 rfl
theorem dX11_simpleRead_116 : decode cX11_simpleRead 116 = .ok (.invokestatic 372, 3) := dAt (x := (116, .invokestatic 372, 3)) DX11_simpleRead_1 6 rfl
theorem dX11_simpleRead_119 : decode cX11_simpleRead 119 = .ok (.ifCond .eq 7, 3) := dAt (x := (119, .ifCond .eq 7, 3)) DX11_simpleRead_1 7 rfl
theorem dX11_simpleRead_122 : decode cX11_simpleRead 122 = .ok (.iconst 5, 1) := dAt (x := (122, .iconst 5, 1)) DX11_simpleRead_1 8 rfl
theorem dX11_simpleRead_123 : decode cX11_simpleRead 123 = .ok (.goto 4, 3) := dAt (x := (123, .goto 4, 3)) DX11_simpleRead_1 9 rfl
theorem dX11_simpleRead_126 : decode cX11_simpleRead 126 = .ok (.iconst 0, 1) := dAt (x := (126, .iconst 0, 1)) DX11_simpleRead_1 10 rfl
theorem dX11_simpleRead_127 : decode cX11_simpleRead 127 = .ok (.istore 5, 2) := dAt (x := (127, .istore 5, 2)) DX11_simpleRead_1 11 rfl
theorem dX11_simpleRead_129 : decode cX11_simpleRead 129 = .ok (.iload 5, 2) := dAt (x := (129, .iload 5, 2)) DX11_simpleRead_1 12 rfl
theorem dX11_simpleRead_131 : decode cX11_simpleRead 131 = .ok (.ifCond .le 15, 3) := dAt (x := (131, .ifCond .le 15, 3)) DX11_simpleRead_1 13 rfl
theorem dX11_simpleRead_134 : decode cX11_simpleRead 134 = .ok (.aload_n 0, 1) := dAt (x := (134, .aload_n 0, 1)) DX11_simpleRead_1 14 rfl
theorem dX11_simpleRead_135 : decode cX11_simpleRead 135 = .ok (.iload_n 3, 1) := dAt (x := (135, .iload_n 3, 1)) DX11_simpleRead_1 15 rfl
theorem dX11_simpleRead_136 : decode cX11_simpleRead 136 = .ok (.putfield 169, 3) := dAt (x := (136, .putfield 169, 3)) DX11_simpleRead_1 16 rfl
theorem dX11_simpleRead_139 : decode cX11_simpleRead 139 = .ok (.aload_n 0, 1) := dAt (x := (139, .aload_n 0, 1)) DX11_simpleRead_1 17 rfl
theorem dX11_simpleRead_140 : decode cX11_simpleRead 140 = .ok (.iload 5, 2) := dAt (x := (140, .iload 5, 2)) DX11_simpleRead_1 18 rfl
theorem dX11_simpleRead_142 : decode cX11_simpleRead 142 = .ok (.invokevirtual 202, 3) := dAt (x := (142, .invokevirtual 202, 3)) DX11_simpleRead_1 19 rfl
theorem dX11_simpleRead_145 : decode cX11_simpleRead 145 = .ok (.ireturn, 1) := dAt (x := (145, .ireturn, 1)) DX11_simpleRead_1 20 rfl
theorem dX11_simpleRead_146 : decode cX11_simpleRead 146 = .ok (.aload_n 0, 1) := dAt (x := (146, .aload_n 0, 1)) DX11_simpleRead_1 21 rfl
theorem dX11_simpleRead_147 : decode cX11_simpleRead 147 = .ok (.getfield 36, 3) := dAt (x := (147, .getfield 36, 3)) DX11_simpleRead_1 22 rfl
theorem dX11_simpleRead_150 : decode cX11_simpleRead 150 = .ok (.bipush 8, 2) := dAt (x := (150, .bipush 8, 2)) DX11_simpleRead_1 23 rfl
theorem dX11_simpleRead_152 : decode cX11_simpleRead 152 = .ok (.iload_n 1, 1) := dAt (x := (152, .iload_n 1, 1)) DX11_simpleRead_1 24 rfl
theorem dX11_simpleRead_153 : decode cX11_simpleRead 153 = .ok (.iadd, 1) := dAt (x := (153, .iadd, 1)) DX11_simpleRead_1 25 rfl
theorem dX11_simpleRead_154 : decode cX11_simpleRead 154 = .ok (.dup2, 1) := dAt (x := (154, .dup2, 1)) DX11_simpleRead_1 26 rfl
theorem dX11_simpleRead_155 : decode cX11_simpleRead 155 = .ok (.iaload, 1) := dAt (x := (155, .iaload, 1)) DX11_simpleRead_1 27 rfl
theorem dX11_simpleRead_156 : decode cX11_simpleRead 156 = .ok (.iload_n 2, 1) := dAt (x := (156, .iload_n 2, 1)) DX11_simpleRead_1 28 rfl
theorem dX11_simpleRead_157 : decode cX11_simpleRead 157 = .ok (.iconst 2, 1) := dAt (x := (157, .iconst 2, 1)) DX11_simpleRead_1 29 rfl
theorem dX11_simpleRead_158 : decode cX11_simpleRead 158 = .ok (.if_icmp .ge 12, 3) := dAt (x := (158, .if_icmp .ge 12, 3)) DX11_simpleRead_1 30 rfl
theorem dX11_simpleRead_161 : decode cX11_simpleRead 161 = .ok (.iconst 1, 1) := dAt (x := (161, .iconst 1, 1)) DX11_simpleRead_1 31 rfl
theorem dX11_simpleRead_162 : decode cX11_simpleRead 162 = .ok (.aload_n 0, 1) := dAt (x := (162, .aload_n 0, 1)) DX11_simpleRead_1 32 rfl
theorem dX11_simpleRead_163 : decode cX11_simpleRead 163 = .ok (.getfield 209, 3) := dAt (x := (163, .getfield 209, 3)) DX11_simpleRead_1 33 rfl
theorem dX11_simpleRead_166 : decode cX11_simpleRead 166 = .ok (.ishl, 1) := dAt (x := (166, .ishl, 1)) DX11_simpleRead_1 34 rfl
theorem dX11_simpleRead_167 : decode cX11_simpleRead 167 = .ok (.goto 10, 3) := dAt (x := (167, .goto 10, 3)) DX11_simpleRead_1 35 rfl
theorem dX11_simpleRead_170 : decode cX11_simpleRead 170 = .ok (.aload_n 0, 1) := dAt (x := (170, .aload_n 0, 1)) DX11_simpleRead_1 36 rfl
theorem dX11_simpleRead_171 : decode cX11_simpleRead 171 = .ok (.getfield 36, 3) := dAt (x := (171, .getfield 36, 3)) DX11_simpleRead_1 37 rfl
theorem dX11_simpleRead_174 : decode cX11_simpleRead 174 = .ok (.iload 4, 2) := dAt (x := (174, .iload 4, 2)) DX11_simpleRead_1 38 rfl
theorem dX11_simpleRead_176 : decode cX11_simpleRead 176 = .ok (.iaload, 1) := dAt (x := (176, .iaload, 1)) DX11_simpleRead_1 39 rfl
theorem dX11_simpleRead_177 : decode cX11_simpleRead 177 = .ok (.ior, 1) := dAt (x := (177, .ior, 1)) DX11_simpleRead_1 40 rfl
theorem dX11_simpleRead_178 : decode cX11_simpleRead 178 = .ok (.iastore, 1) := dAt (x := (178, .iastore, 1)) DX11_simpleRead_1 41 rfl
theorem dX11_simpleRead_179 : decode cX11_simpleRead 179 = .ok (.aload_n 0, 1) := dAt (x := (179, .aload_n 0, 1)) DX11_simpleRead_1 42 rfl
theorem dX11_simpleRead_180 : decode cX11_simpleRead 180 = .ok (.iload_n 2, 1) := dAt (x := (180, .iload_n 2, 1)) DX11_simpleRead_1 43 rfl
theorem dX11_simpleRead_181 : decode cX11_simpleRead 181 = .ok (.iload_n 2, 1) := dAt (x := (181, .iload_n 2, 1)) DX11_simpleRead_1 44 rfl
theorem dX11_simpleRead_182 : decode cX11_simpleRead 182 = .ok (.iconst 2, 1) := dAt (x := (182, .iconst 2, 1)) DX11_simpleRead_1 45 rfl
theorem dX11_simpleRead_183 : decode cX11_simpleRead 183 = .ok (.if_icmp .ge 10, 3) := dAt (x := (183, .if_icmp .ge 10, 3)) DX11_simpleRead_1 46 rfl
theorem dX11_simpleRead_186 : decode cX11_simpleRead 186 = .ok (.aload_n 0, 1) := dAt (x := (186, .aload_n 0, 1)) DX11_simpleRead_1 47 rfl
theorem dX11_simpleRead_187 : decode cX11_simpleRead 187 = .ok (.getfield 209, 3) := dAt (x := (187, .getfield 209, 3)) DX11_simpleRead_1 48 rfl
theorem dX11_simpleRead_190 : decode cX11_simpleRead 190 = .ok (.goto 10, 3) := dAt (x := (190, .goto 10, 3)) DX11_simpleRead_1 49 rfl
theorem dX11_simpleRead_193 : decode cX11_simpleRead 193 = .ok (.aload_n 0, 1) := dAt (x := (193, .aload_n 0, 1)) DX11_simpleRead_1 50 rfl
theorem dX11_simpleRead_194 : decode cX11_simpleRead 194 = .ok (.getfield 33, 3) := dAt (x := (194, .getfield 33, 3)) DX11_simpleRead_1 51 rfl
theorem dX11_simpleRead_197 : decode cX11_simpleRead 197 = .ok (.iload 4, 2) := dAt (x := (197, .iload 4, 2)) DX11_simpleRead_1 52 rfl
theorem dX11_simpleRead_199 : decode cX11_simpleRead 199 = .ok (.iaload, 1) := dAt (x := (199, .iaload, 1)) DX11_simpleRead_1 53 rfl
theorem dX11_simpleRead_200 : decode cX11_simpleRead 200 = .ok (.iconst (-1), 1) := dAt (x := (200, .iconst (-1), 1)) DX11_simpleRead_1 54 rfl
theorem dX11_simpleRead_201 : decode cX11_simpleRead 201 = .ok (.invokevirtual 369, 3) := dAt (x := (201, .invokevirtual 369, 3)) DX11_simpleRead_1 55 rfl
theorem dX11_simpleRead_204 : decode cX11_simpleRead 204 = .ok (.iconst 1, 1) := dAt (x := (204, .iconst 1, 1)) DX11_simpleRead_1 56 rfl
theorem dX11_simpleRead_205 : decode cX11_simpleRead 205 = .ok (.ireturn, 1) := dAt (x := (205, .ireturn, 1)) DX11_simpleRead_1 57 rfl
def lDX11_leaningRead_0 : List (Nat × Instr × Nat) := [(0, .aload_n 0, 1), (1, .iconst 0, 1), (2, .putfield 300, 3), (5, .aload_n 0, 1), (6, .iconst 0, 1), (7, .putfield 297, 3), (10, .aload_n 0, 1), (11, .iconst 0, 1), (12, .putfield 315, 3), (15, .iconst 1, 1), (16, .istore_n 2, 1), (17, .iload_n 2, 1), (18, .ifCond .eq 34, 3), (21, .aload_n 0, 1), (22, .bipush 16, 2), (24, .invokevirtual 326, 3), (27, .ifCond .eq 25, 3), (30, .aload_n 0, 1), (31, .invokevirtual 329, 3), (34, .ifCond .ne 5, 3), (37, .iconst 0, 1), (38, .ireturn, 1), (39, .aload_n 0, 1), (40, .bipush 16, 2), (42, .invokevirtual 318, 3), (45, .aload_n 0, 1), (46, .invokevirtual 212, 3), (49, .goto (-32), 3), (52, .iload_n 2, 1), (53, .ifCond .eq 49, 3), (56, .aload_n 0, 1), (57, .bipush 40, 2), (59, .invokevirtual 215, 3), (62, .ifCond .eq 40, 3), (65, .aload_n 0, 1), (66, .getfield 315, 3), (69, .bipush 8, 2), (71, .if_icmp .ne 9, 3), (74, .aload_n 0, 1), (75, .iconst 2, 1), (76, .invokevirtual 202, 3), (79, .ireturn, 1), (80, .aload_n 0, 1), (81, .dup, 1), (82, .getfield 315, 3), (85, .iconst 1, 1), (86, .iadd, 1), (87, .putfield 315, 3), (90, .aload_n 0, 1), (91, .iconst (-1), 1), (92, .invokevirtual 318, 3), (95, .aload_n 0, 1), (96, .invokevirtual 212, 3), (99, .goto (-82), 3), (102, .iload_n 2, 1), (103, .ifCond .eq 50, 3), (106, .aload_n 0, 1), (107, .getfield 178, 3), (110, .iconst 1, 1), (111, .if_icmp .ne 21, 3)]
theorem DX11_leaningRead_0 : dAll cX11_leaningRead lDX11_leaningRead_0 = true := by decide +kernel
theorem dX11_leaningRead_0 : decode cX11_leaningRead 0 = .ok (.aload_n 0, 1) := dAt (x := (0, .aload_n 0, 1)) DX11_leaningRead_0 0 rfl
theorem dX11_leaningRead_1 : decode cX11_leaningRead 1 = .ok (.iconst 0, 1) := dAt (x := (1, .iconst 0, 1)) DX11_leaningRead_0 1 rfl
theorem dX11_leaningRead_2 : decode cX11_leaningRead 2 = .ok (.putfield 300, 3) := dAt (x := (2, .putfield 300, 3)) DX11_leaningRead_0 2 rfl
theorem dX11_leaningRead_5 : decode cX11_leaningRead 5 = .ok (.aload_n 0, 1) := dAt (x := (5, .aload_n 0, 1)) DX11_leaningRead_0 3 rfl
theorem dX11_leaningRead_6 : decode cX11_leaningRead 6 = .ok (.iconst 0, 1) := dAt (x := (6, .iconst 0, 1)) DX11_leaningRead_0 4 rfl
theorem dX11_leaningRead_7 : decode cX11_leaningRead 7 = .ok (.putfield 297, 3) := dAt (x := (7, .putfield 297, 3)) DX11_leaningRead_0 5 rfl
theorem dX11_leaningRead_10 : decode cX11_leaningRead 10 = .ok (.aload_n 0, 1) := dAt (x := (10, .aload_n 0, 1)) DX11_leaningRead_0 6 rfl
theorem dX11_leaningRead_11 : decode cX11_leaningRead 11 = .ok (.iconst 0, 1) := dAt (x := (11, .iconst 0, 1)) DX11_leaningRead_0 7 rfl
theorem dX11_leaningRead_12 : decode cX11_leaningRead 12 = .ok (.putfield 315, 3) := dAt (x := (12, .putfield 315, 3)) DX11_leaningRead_0 8 rfl
theorem dX11_leaningRead_15 : decode cX11_leaningRead 15 = .ok (.iconst 1, 1) := dAt (x := (15, .iconst 1, 1)) DX11_leaningRead_0 9 rfl
theorem dX11_leaningRead_16 : decode cX11_leaningRead 16 = .ok (.istore_n 2, 1) := dAt (x := (16, .istore_n 2, 1)) DX11_leaningRead_0 10 rfl
theorem dX11_leaningRead_17 : decode cX11_leaningRead 17 = .ok (.iload_n 2, 1) := dAt (x := (17, .iload_n 2, 1)) DX11_leaningRead_0 11 rfl
theorem dX11_leaningRead_18 : decode cX11_leaningRead 18 = .ok (.ifCond .eq 34, 3) := dAt (x := (18, .ifCond .eq 34, 3)) DX11_leaningRead_0 12 rfl
theorem dX11_leaningRead_21 : decode cX11_leaningRead 21 = .ok (.aload_n 0, 1) := dAt (x := (21, .aload_n 0, 1)) DX11_leaningRead_0 13 rfl
theorem dX11_leaningRead_22 : decode cX11_leaningRead 22 = .ok (.bipush 16, 2) := dAt (x := (22, .bipush 16, 2)) DX11_leaningRead_0 14 rfl
theorem dX11_leaningRead_24 : decode cX11_leaningRead 24 = .ok (.invokevirtual 326, 3) := dAt (x := (24, .invokevirtual 326, 3)) DX11_leaningRead_0 15 rfl
theorem dX11_leaningRead_27 : decode cX11_leaningRead 27 = .ok (.ifCond .eq 25, 3) := dAt (x := (27, .ifCond .eq 25, 3)) DX11_leaningRead_0 16 rfl
theorem dX11_leaningRead_30 : decode cX11_leaningRead 30 = .ok (.aload_n 0, 1) := dAt (x := (30, .aload_n 0, 1)) DX11_leaningRead_0 17 rfl
theorem dX11_leaningRead_31 : decode cX11_leaningRead 31 = .ok (.invokevirtual 329, 3) := dAt (x := (31, .invokevirtual 329, 3)) DX11_leaningRead_0 18 rfl
theorem dX11_leaningRead_34 : decode cX11_leaningRead 34 = .ok (.ifCond .ne 5, 3) := dAt (x := (34, .ifCond .ne 5, 3)) DX11_leaningRead_0 19 rfl
theorem dX11_leaningRead_37 : decode cX11_leaningRead 37 = .ok (.iconst 0, 1) := dAt (x := (37, .iconst 0, 1)) DX11_leaningRead_0 20 rfl
theorem dX11_leaningRead_38 : decode cX11_leaningRead 38 = .ok (.ireturn, 1) := dAt (x := (38, .ireturn, 1)) DX11_leaningRead_0 21 rfl
theorem dX11_leaningRead_39 : decode cX11_leaningRead 39 = .ok (.aload_n 0, 1) := dAt (x := (39, .aload_n 0, 1)) DX11_leaningRead_0 22 rfl
theorem dX11_leaningRead_40 : decode cX11_leaningRead 40 = .ok (.bipush 16, 2) := dAt (x := (40, .bipush 16, 2)) DX11_leaningRead_0 23 rfl
theorem dX11_leaningRead_42 : decode cX11_leaningRead 42 = .ok (.invokevirtual 318, 3) := dAt (x := (42, .invokevirtual 318, 3)) DX11_leaningRead_0 24 rfl
theorem dX11_leaningRead_45 : decode cX11_leaningRead 45 = .ok (.aload_n 0, 1) := dAt (x := (45, .aload_n 0, 1)) DX11_leaningRead_0 25 rfl
theorem dX11_leaningRead_46 : decode cX11_leaningRead 46 = .ok (.invokevirtual 212, 3) := dAt (x := (46, .invokevirtual 212, 3)) DX11_leaningRead_0 26 rfl
theorem dX11_leaningRead_49 : decode cX11_leaningRead 49 = .ok (.goto (-32), 3) := dAt (x := (49, .goto (-32), 3)) DX11_leaningRead_0 27 rfl
theorem dX11_leaningRead_52 : decode cX11_leaningRead 52 = .ok (.iload_n 2, 1) := dAt (x := (52, .iload_n 2, 1)) DX11_leaningRead_0 28 rfl
theorem dX11_leaningRead_53 : decode cX11_leaningRead 53 = .ok (.ifCond .eq 49, 3) := dAt (x := (53, .ifCond .eq 49, 3)) DX11_leaningRead_0 29 rfl
theorem dX11_leaningRead_56 : decode cX11_leaningRead 56 = .ok (.aload_n 0, 1) := dAt (x := (56, .aload_n 0, 1)) DX11_leaningRead_0 30 rfl
theorem dX11_leaningRead_57 : decode cX11_leaningRead 57 = .ok (.bipush 40, 2) := dAt (x := (57, .bipush 40, 2)) DX11_leaningRead_0 31 rfl
theorem dX11_leaningRead_59 : decode cX11_leaningRead 59 = .ok (.invokevirtual 215, 3) := dAt (x := (59, .invokevirtual 215, 3)) DX11_leaningRead_0 32 rfl
theorem dX11_leaningRead_62 : decode cX11_leaningRead 62 = .ok (.ifCond .eq 40, 3) := dAt (x := (62, .ifCond .eq 40, 3)) DX11_leaningRead_0 33 rfl
theorem dX11_leaningRead_65 : decode cX11_leaningRead 65 = .ok (.aload_n 0, 1) := dAt (x := (65, .aload_n 0, 1)) DX11_leaningRead_0 34 rfl
theorem dX11_leaningRead_66 : decode cX11_leaningRead 66 = .ok (.getfield 315, 3) := dAt (x := (66, .getfield 315, 3)) DX11_leaningRead_0 35 rfl
theorem dX11_leaningRead_69 : decode cX11_leaningRead 69 = .ok (.bipush 8, 2) := dAt (x := (69, .bipush 8, 2)) DX11_leaningRead_0 36 rfl
theorem dX11_leaningRead_71 : decode cX11_leaningRead 71 = .ok (.if_icmp .ne 9, 3) := dAt (x := (71, .if_icmp .ne 9, 3)) DX11_leaningRead_0 37 rfl
theorem dX11_leaningRead_74 : decode cX11_leaningRead 74 = .ok (.aload_n 0, 1) := dAt (x := (74, .aload_n 0, 1)) DX11_leaningRead_0 38 rfl
theorem dX11_leaningRead_75 : decode cX11_leaningRead 75 = .ok (.iconst 2, 1) := dAt (x := (75, .iconst 2, 1)) DX11_leaningRead_0 39 rfl
theorem dX11_leaningRead_76 : decode cX11_leaningRead 76 = .ok (.invokevirtual 202, 3) := dAt (x := (76, .invokevirtual 202, 3)) DX11_leaningRead_0 40 rfl
theorem dX11_leaningRead_79 : decode cX11_leaningRead 79 = .ok (.ireturn, 1) := dAt (x := (79, .ireturn, 1)) DX11_leaningRead_0 41 rfl
theorem dX11_leaningRead_80 : decode cX11_leaningRead 80 = .ok (.aload_n 0, 1) := dAt (x := (80, .aload_n 0, 1)) DX11_leaningRead_0 42 rfl
theorem dX11_leaningRead_81 : decode cX11_leaningRead 81 = .ok (.dup, 1) := dAt (x := (81, .dup, 1)) DX11_leaningRead_0 43 rfl
theorem dX11_leaningRead_82 : decode cX11_leaningRead 82 = .ok (.getfield 315, 3) := dAt (x := (82, .getfield 315, 3)) DX11_leaningRead_0 44 rfl
theorem dX11_leaningRead_85 : decode cX11_leaningRead 85 = .ok (.iconst 1, 1) := dAt (x := (85, .iconst 1, 1)) DX11_leaningRead_0 45 rfl
theorem dX11_leaningRead_86 : decode cX11_leaningRead 86 = .ok (.iadd, 1) := dAt (x := (86, .iadd, 1)) DX11_leaningRead_0 46 rfl
theorem dX11_leaningRead_87 : decode cX11_leaningRead 87 = .ok (.putfield 315, 3) := dAt (x := (87, .putfield 315, 3)) DX11_leaningRead_0 47 rfl
theorem dX11_leaningRead_90 : decode cX11_leaningRead 90 = .ok (.aload_n 0, 1) := dAt (x := (90, .aload_n 0, 1)) DX11_leaningRead_0 48 rfl
theorem dX11_leaningRead_91 : decode cX11_leaningRead 91 = .ok (.iconst (-1), 1) := dAt (x := (91, .iconst (-1), 1)) DX11_leaningRead_0 49 rfl
theorem dX11_leaningRead_92 : decode cX11_leaningRead 92 = .ok (.invokevirtual 318, 3) := dAt (x := (92, .invokevirtual 318, 3)) DX11_leaningRead_0 50 rfl
theorem dX11_leaningRead_95 : decode cX11_leaningRead 95 = .ok (.aload_n 0, 1) := dAt (x := (95, .aload_n 0, 1)) DX11_leaningRead_0 51 rfl
theorem dX11_leaningRead_96 : decode cX11_leaningRead 96 = .ok (.invokevirtual 212, 3) := dAt (x := (96, .invokevirtual 212, 3)) DX11_leaningRead_0 52 rfl
theorem dX11_leaningRead_99 : decode cX11_leaningRead 99 = .ok (.goto (-82), 3) := dAt (x := (99, .goto (-82), 3)) DX11_leaningRead_0 53 rfl
theorem dX11_leaningRead_102 : decode cX11_leaningRead 102 = .ok (.iload_n 2, 1) := dAt (x := (102, .iload_n 2, 1)) DX11_leaningRead_0 54 rfl
theorem dX11_leaningRead_103 : decode cX11_leaningRead 103 = .ok (.ifCond .eq 50, 3) := dAt (x := (103, .ifCond .eq 50, 3)) DX11_leaningRead_0 55 rfl
theorem dX11_leaningRead_106 : decode cX11_leaningRead 106 = .ok (.aload_n 0, 1) := dAt (x := (106, .aload_n 0, 1)) DX11_leaningRead_0 56 rfl
theorem dX11_leaningRead_107 : decode cX11_leaningRead 107 = .ok (.getfield 178, 3) := dAt (x := (107, .getfield 178, 3)) DX11_leaningRead_0 57 rfl
theorem dX11_leaningRead_110 : decode cX11_leaningRead 110 = .ok (.iconst 1, 1) := dAt (x := (110, .iconst 1, 1)) DX11_leaningRead_0 58 rfl
theorem dX11_leaningRead_111 : decode cX11_leaningRead 111 = .ok (.if_icmp .ne 21, 3) := dAt (x := (111, .if_icmp .ne 21, 3)) DX11_leaningRead_0 59 rfl
def lDX11_leaningRead_1 : List (Nat × Instr × Nat) := [(114, .aload_n 0, 1), (115, .getfield 189, 3), (118, .bipush 10, 2), (120, .if_icmp .lt 12, 3), (123, .aload_n 0, 1), (124, .getfield 189, 3), (127, .bipush 13, 2), (129, .if_icmp .le 9, 3), (132, .aload_n 0, 1), (133, .iconst 1, 1), (134, .invokevirtual 202, 3), (137, .ireturn, 1), (138, .aload_n 0, 1), (139, .iload_n 1, 1), (140, .invokevirtual 375, 3), (143, .ifCond .ne 5, 3), (146, .iconst 0, 1), (147, .ireturn, 1), (148, .iconst 0, 1), (149, .istore_n 2, 1), (150, .goto (-133), 3), (153, .aload_n 0, 1), (154, .bipush 14, 2), (156, .invokevirtual 326, 3), (159, .ifCond .ne 12, 3), (162, .aload_n 0, 1), (163, .bipush 15, 2), (165, .invokevirtual 326, 3), (168, .ifCond .eq 40, 3), (171, .aload_n 0, 1), (172, .invokevirtual 329, 3), (175, .ifCond .ne 5, 3), (178, .iconst 0, 1), (179, .ireturn, 1), (180, .aload_n 0, 1), (181, .aload_n 0, 1), (182, .getfield 189, 3), (185, .invokestatic 366, 3), (188, .invokevirtual 378, 3), (191, .aload_n 0, 1), (192, .aload_n 0, 1), (193, .getfield 189, 3), (196, .invokevirtual 318, 3), (199, .aload_n 0, 1), (200, .invokevirtual 212, 3), (203, .iconst 1, 1), (204, .istore_n 2, 1), (205, .goto (-188), 3), (208, .aload_n 0, 1), (209, .getfield 315, 3), (212, .ifCond .le 50, 3), (215, .aload_n 0, 1), (216, .bipush 41, 2), (218, .invokevirtual 215, 3), (221, .ifCond .ne 9, 3), (224, .aload_n 0, 1), (225, .iconst 1, 1), (226, .invokevirtual 202, 3), (229, .ireturn, 1), (230, .aload_n 0, 1)]
theorem DX11_leaningRead_1 : dAll cX11_leaningRead lDX11_leaningRead_1 = true := by decide +kernel
theorem dX11_leaningRead_114 : decode cX11_leaningRead 114 = .ok (.aload_n 0, 1) := dAt (x := (114, .aload_n 0, 1)) DX11_leaningRead_1 0 rfl
theorem dX11_leaningRead_115 : decode cX11_leaningRead 115 = .ok (.getfield 189, 3) := dAt (x := (115, .getfield 189, 3)) DX11_leaningRead_1 1 rfl
theorem dX11_leaningRead_118 : decode cX11_leaningRead 118 = .ok (.bipush 10, 2) := dAt (x := (118, .bipush 10, 2)) DX11_leaningRead_1 2 rfl
theorem dX11_leaningRead_120 : decode cX11_leaningRead 120 = .ok (.if_icmp .lt 12, 3) := dAt (x := (120, .if_icmp .lt 12, 3)) DX11_leaningRead_1 3 rfl
theorem dX11_leaningRead_123 : decode cX11_leaningRead 123 = .ok (.aload_n 0, 1) := dAt (x := (123, .aload_n 0, 1)) DX11_leaningRead_1 4 rfl
theorem dX11_leaningRead_124 : decode cX11_leaningRead 124 = .ok (.getfield 189, 3) := dAt (x := (124, .getfield 189, 3)) DX11_leaningRead_1 5 rfl
theorem dX11_leaningRead_127 : decode cX11_leaningRead 127 = .ok (.bipush 13, 2) := dAt (x := (127, .bipush 13, 2)) DX11_leaningRead_1 6 rfl
theorem dX11_leaningRead_129 : decode cX11_leaningRead 129 = .ok (.if_icmp .le 9, 3) := dAt (x := (129, .if_icmp .le 9, 3)) DX11_leaningRead_1 7 rfl
theorem dX11_leaningRead_132 : decode cX11_leaningRead 132 = .ok (.aload_n 0, 1) := dAt (x := (132, .aload_n 0, 1)) DX11_leaningRead_1 8 rfl
theorem dX11_leaningRead_133 : decode cX11_leaningRead 133 = .ok (.iconst 1, 1) := dAt (x := (133, .iconst 1, 1)) DX11_leaningRead_1 9 rfl
theorem dX11_leaningRead_134 : decode cX11_leaningRead 134 = .ok (.invokevirtual 202, 3) := dAt (x := (134, .invokevirtual 202, 3)) DX11_leaningRead_1 10 rfl
theorem dX11_leaningRead_137 : decode cX11_leaningRead 137 = .ok (.ireturn, 1) := dAt (x := (137, .ireturn, 1)) DX11_leaningRead_1 11 rfl
theorem dX11_leaningRead_138 : decode cX11_leaningRead 138 = .ok (.aload_n 0, 1) := dAt (x := (138, .aload_n 0, 1)) DX11_leaningRead_1 12 rfl
theorem dX11_leaningRead_139 : decode cX11_leaningRead 139 = .ok (.iload_n 1, 1) := dAt (x := (139, .iload_n 1, 1)) DX11_leaningRead_1 13 rfl
theorem dX11_leaningRead_140 : decode cX11_leaningRead 140 = .ok (.invokevirtual 375, 3) := dAt (x := (140, .invokevirtual 375, 3)) DX11_leaningRead_1 14 rfl
theorem dX11_leaningRead_143 : decode cX11_leaningRead 143 = .ok (.ifCond .ne 5, 3) := dAt (x := (143, .ifCond .ne 5, 3)) DX11_leaningRead_1 15 rfl
theorem dX11_leaningRead_146 : decode cX11_leaningRead 146 = .ok (.iconst 0, 1) := dAt (x := (146, .iconst 0, 1)) DX11_leaningRead_1 16 rfl
theorem dX11_leaningRead_147 : decode cX11_leaningRead 147 = .ok (.ireturn, 1) := dAt (x := (147, .ireturn, 1)) DX11_leaningRead_1 17 rfl
theorem dX11_leaningRead_148 : decode cX11_leaningRead 148 = .ok (.iconst 0, 1) := dAt (x := (148, .iconst 0, 1)) DX11_leaningRead_1 18 rfl
theorem dX11_leaningRead_149 : decode cX11_leaningRead 149 = .ok (.istore_n 2, 1) := dAt (x := (149, .istore_n 2, 1)) DX11_leaningRead_1 19 rfl
theorem dX11_leaningRead_150 : decode cX11_leaningRead 150 = .ok (.goto (-133), 3) := dAt (x := (150, .goto (-133), 3)) DX11_leaningRead_1 20 rfl
theorem dX11_leaningRead_153 : decode cX11_leaningRead 153 = .ok (.aload_n 0, 1) := dAt (x := (153, .aload_n 0, 1)) DX11_leaningRead_1 21 rfl
theorem dX11_leaningRead_154 : decode cX11_leaningRead 154 = .ok (.bipush 14, 2) := dAt (x := (154, .bipush 14, 2)) DX11_leaningRead_1 22 rfl
theorem dX11_leaningRead_156 : decode cX11_leaningRead 156 = .ok (.invokevirtual 326, 3) := dAt (x := (156, .invokevirtual 326, 3)) DX11_leaningRead_1 23 rfl
theorem dX11_leaningRead_159 : decode cX11_leaningRead 159 = .ok (.ifCond .ne 12, 3) := dAt (x := (159, .ifCond .ne 12, 3)) DX11_leaningRead_1 24 rfl
theorem dX11_leaningRead_162 : decode cX11_leaningRead 162 = .ok (.aload_n 0, 1) := dAt (x := (162, .aload_n 0, 1)) DX11_leaningRead_1 25 rfl
theorem dX11_leaningRead_163 : decode cX11_leaningRead 163 = .ok (.bipush 15, 2) := dAt (x := (163, .bipush 15, 2)) DX11_leaningRead_1 26 rfl
theorem dX11_leaningRead_165 : decode cX11_leaningRead 165 = .ok (.invokevirtual 326, 3) := dAt (x := (165, .invokevirtual 326, 3)) DX11_leaningRead_1 27 rfl
theorem dX11_leaningRead_168 : decode cX11_leaningRead 168 = .ok (.ifCond .eq 40, 3) := dAt (x := (168, .ifCond .eq 40, 3)) DX11_leaningRead_1 28 rfl
theorem dX11_leaningRead_171 : decode cX11_leaningRead 171 = .ok (.aload_n 0, 1) := dAt (x := (171, .aload_n 0, 1)) DX11_leaningRead_1 29 rfl
theorem dX11_leaningRead_172 : decode cX11_leaningRead 172 = .ok (.invokevirtual 329, 3) := dAt (x := (172, .invokevirtual 329, 3)) DX11_leaningRead_1 30 rfl
theorem dX11_leaningRead_175 : decode cX11_leaningRead 175 = .ok (.ifCond .ne 5, 3) := dAt (x := (175, .ifCond .ne 5, 3)) DX11_leaningRead_1 31 rfl
theorem dX11_leaningRead_178 : decode cX11_leaningRead 178 = .ok (.iconst 0, 1) := dAt (x := (178, .iconst 0, 1)) DX11_leaningRead_1 32 rfl
theorem dX11_leaningRead_179 : decode cX11_leaningRead 179 = .ok (.ireturn, 1) := dAt (x := (179, .ireturn, 1)) DX11_leaningRead_1 33 rfl
theorem dX11_leaningRead_180 : decode cX11_leaningRead 180 = .ok (.aload_n 0, 1) := dAt (x := (180, .aload_n 0, 1)) DX11_leaningRead_1 34 rfl
theorem dX11_leaningRead_181 : decode cX11_leaningRead 181 = .ok (.aload_n 0, 1) := dAt (x := (181, .aload_n 0, 1)) DX11_leaningRead_1 35 rfl
theorem dX11_leaningRead_182 : decode cX11_leaningRead 182 = .ok (.getfield 189, 3) := dAt (x := (182, .getfield 189, 3)) DX11_leaningRead_1 36 rfl
theorem dX11_leaningRead_185 : decode cX11_leaningRead 185 = .ok (.invokestatic 366, 3) := dAt (x := (185, .invokestatic 366, 3)) DX11_leaningRead_1 37 rfl
theorem dX11_leaningRead_188 : decode cX11_leaningRead 188 = .ok (.invokevirtual 378, 3) := dAt (x := (188, .invokevirtual 378, 3)) DX11_leaningRead_1 38 rfl
theorem dX11_leaningRead_191 : decode cX11_leaningRead 191 = .ok (.aload_n 0, 1) := dAt (x := (191, .aload_n 0, 1)) DX11_leaningRead_1 39 rfl
theorem dX11_leaningRead_192 : decode cX11_leaningRead 192 = .ok (.aload_n 0, 1) := dAt (x := (192, .aload_n 0, 1)) DX11_leaningRead_1 40 rfl
theorem dX11_leaningRead_193 : decode cX11_leaningRead 193 = .ok (.getfield 189, 3) := dAt (x := (193, .getfield 189, 3)) DX11_leaningRead_1 41 rfl
theorem dX11_leaningRead_196 : decode cX11_leaningRead 196 = .ok (.invokevirtual 318, 3) := dAt (x := (196, .invokevirtual 318, 3)) DX11_leaningRead_1 42 rfl
theorem dX11_leaningRead_199 : decode cX11_leaningRead 199 = .ok (.aload_n 0, 1) := dAt (x := (199, .aload_n 0, 1)) DX11_leaningRead_1 43 rfl
theorem dX11_leaningRead_200 : decode cX11_leaningRead 200 = .ok (.invokevirtual 212, 3) := dAt (x := (200, .invokevirtual 212, 3)) DX11_leaningRead_1 44 rfl
theorem dX11_leaningRead_203 : decode cX11_leaningRead 203 = .ok (.iconst 1, 1) := dAt (x := (203, .iconst 1, 1)) DX11_leaningRead_1 45 rfl
theorem dX11_leaningRead_204 : decode cX11_leaningRead 204 = .ok (.istore_n 2, 1) := dAt (x := (204, .istore_n 2, 1)) DX11_leaningRead_1 46 rfl
theorem dX11_leaningRead_205 : decode cX11_leaningRead 205 = .ok (.goto (-188), 3) := dAt (x := (205, .goto (-188), 3)) DX11_leaningRead_1 47 rfl
theorem dX11_leaningRead_208 : decode cX11_leaningRead 208 = .ok (.aload_n 0, 1) := dAt (x := (208, .aload_n 0, 1)) DX11_leaningRead_1 48 rfl
theorem dX11_leaningRead_209 : decode cX11_leaningRead 209 = .ok (.getfield 315, 3) := dAt (x := (209, .getfield 315, 3)) DX11_leaningRead_1 49 rfl
theorem dX11_leaningRead_212 : decode cX11_leaningRead 212 = .ok (.ifCond .le 50, 3) := dAt (x := (212, .ifCond .le 50, 3)) DX11_leaningRead_1 50 rfl
theorem dX11_leaningRead_215 : decode cX11_leaningRead 215 = .ok (.aload_n 0, 1) := dAt (x := (215, .aload_n 0, 1)) DX11_leaningRead_1 51 rfl
theorem dX11_leaningRead_216 : decode cX11_leaningRead 216 = .ok (.bipush 41, 2) := dAt (x := (216, .bipush 41, 2)) DX11_leaningRead_1 52 rfl
theorem dX11_leaningRead_218 : decode cX11_leaningRead 218 = .ok (.invokevirtual 215, 3) := dAt (x := (218, .invokevirtual 215, 3)) DX11_leaningRead_1 53 rfl
theorem dX11_leaningRead_221 : decode cX11_leaningRead 221 = .ok (.ifCond .ne 9, 3) := dAt (x := (221, .ifCond .ne 9, 3)) DX11_leaningRead_1 54 rfl
theorem dX11_leaningRead_224 : decode cX11_leaningRead 224 = .ok (.aload_n 0, 1) := dAt (x := (224, .aload_n 0, 1)) DX11_leaningRead_1 55 rfl
theorem dX11_leaningRead_225 : decode cX11_leaningRead 225 = .ok (.iconst 1, 1) := dAt (x := (225, .iconst 1, 1)) DX11_leaningRead_1 56 rfl
theorem dX11_leaningRead_226 : decode cX11_leaningRead 226 = .ok (.invokevirtual 202, 3) := dAt (x := (226, .invokevirtual 202, 3)) DX11_leaningRead_1 57 rfl
theorem dX11_leaningRead_229 : decode cX11_leaningRead 229 = .ok (.ireturn, 1) := dAt (x := (229, .ireturn, 1)) DX11_leaningRead_1 58 rfl
theorem dX11_leaningRead_230 : decode cX11_leaningRead 230 = .ok (.aload_n 0, 1) := dAt (x := (230, .aload_n 0, 1)) DX11_leaningRead_1 59 rfl
def lDX11_leaningRead_2 : List (Nat × Instr × Nat) := [(231, .iconst 1, 1), (232, .invokevirtual 378, 3), (235, .aload_n 0, 1), (236, .dup, 1), (237, .getfield 300, 3), (240, .iconst 1, 1), (241, .isub, 1), (242, .putfield 300, 3), (245, .aload_n 0, 1), (246, .dup, 1), (247, .getfield 315, 3), (250, .iconst 1, 1), (251, .isub, 1), (252, .putfield 315, 3), (255, .aload_n 0, 1), (256, .invokevirtual 212, 3), (259, .goto (-242), 3), (262, .aload_n 0, 1), (263, .iconst 1, 1), (264, .invokevirtual 378, 3), (267, .iconst 1, 1), (268, .ireturn, 1)]
theorem DX11_leaningRead_2 : dAll cX11_leaningRead lDX11_leaningRead_2 = true := by decide +kernel
theorem dX11_leaningRead_231 : decode cX11_leaningRead 231 = .ok (.iconst 1, 1) := dAt (x := (231, .iconst 1, 1)) DX11_leaningRead_2 0 rfl
theorem dX11_leaningRead_232 : decode cX11_leaningRead 232 = .ok (.invokevirtual 378, 3) := dAt (x := (232, .invokevirtual 378, 3)) DX11_leaningRead_2 1 rfl
theorem dX11_leaningRead_235 : decode cX11_leaningRead 235 = .ok (.aload_n 0, 1) := dAt (x := (235, .aload_n 0, 1)) DX11_leaningRead_2 2 rfl
theorem dX11_leaningRead_236 : decode cX11_leaningRead 236 = .ok (.dup, 1) := dAt (x := (236, .dup, 1)) DX11_leaningRead_2 3 rfl
theorem dX11_leaningRead_237 : decode cX11_leaningRead 237 = .ok (.getfield 300, 3) := dAt (x := (237, .getfield 300, 3)) DX11_leaningRead_2 4 rfl
theorem dX11_leaningRead_240 : decode cX11_leaningRead 240 = .ok (.iconst 1, 1) := dAt (x := (240, .iconst 1, 1)) DX11_leaningRead_2 5 rfl
theorem dX11_leaningRead_241 : decode cX11_leaningRead 241 = .ok (.isub, 1) := dAt (x := (241, .isub, 1)) DX11_leaningRead_2 6 rfl
theorem dX11_leaningRead_242 : decode cX11_leaningRead 242 = .ok (.putfield 300, 3) := dAt (x := (242, .putfield 300, 3)) DX11_leaningRead_2 7 rfl
theorem dX11_leaningRead_245 : decode cX11_leaningRead 245 = .ok (.aload_n 0, 1) := dAt (x := (245, .aload_n 0, 1)) DX11_leaningRead_2 8 rfl
theorem dX11_leaningRead_246 : decode cX11_leaningRead 246 = .ok (.dup, 1) := dAt (x := (246, .dup, 1)) DX11_leaningRead_2 9 rfl
theorem dX11_leaningRead_247 : decode cX11_leaningRead 247 = .ok (.getfield 315, 3) := dAt (x := (247, .getfield 315, 3)) DX11_leaningRead_2 10 rfl
theorem dX11_leaningRead_250 : decode cX11_leaningRead 250 = .ok (.iconst 1, 1) := dAt (x := (250, .iconst 1, 1)) DX11_leaningRead_2 11 rfl
theorem dX11_leaningRead_251 : decode cX11_leaningRead 251 = .ok (.isub, 1) := dAt (x := (251, .isub, 1)) DX11_leaningRead_2 12 rfl
theorem dX11_leaningRead_252 : decode cX11_leaningRead 252 = .ok (.putfield 315, 3) := dAt (x := (252, .putfield 315, 3)) DX11_leaningRead_2 13 rfl
theorem dX11_leaningRead_255 : decode cX11_leaningRead 255 = .ok (.aload_n 0, 1) := dAt (x := (255, .aload_n 0, 1)) DX11_leaningRead_2 14 rfl
theorem dX11_leaningRead_256 : decode cX11_leaningRead 256 = .ok (.invokevirtual 212, 3) := dAt (x := (256, .invokevirtual 212, 3)) DX11_leaningRead_2 15 rfl
theorem dX11_leaningRead_259 : decode cX11_leaningRead 259 = .ok (.goto (-242), 3) := dAt (x := (259, .goto (-242), 3)) DX11_leaningRead_2 16 rfl
theorem dX11_leaningRead_262 : decode cX11_leaningRead 262 = .ok (.aload_n 0, 1) := dAt (x := (262, .aload_n 0, 1)) DX11_leaningRead_2 17 rfl
theorem dX11_leaningRead_263 : decode cX11_leaningRead 263 = .ok (.iconst 1, 1) := dAt (x := (263, .iconst 1, 1)) DX11_leaningRead_2 18 rfl
theorem dX11_leaningRead_264 : decode cX11_leaningRead 264 = .ok (.invokevirtual 378, 3) := dAt (x := (264, .invokevirtual 378, 3)) DX11_leaningRead_2 19 rfl
theorem dX11_leaningRead_267 : decode cX11_leaningRead 267 = .ok (.iconst 1, 1) := dAt (x := (267, .iconst 1, 1)) DX11_leaningRead_2 20 rfl
theorem dX11_leaningRead_268 : decode cX11_leaningRead 268 = .ok (.ireturn, 1) := dAt (x := (268, .ireturn, 1)) DX11_leaningRead_2 21 rfl
def lDX11_manyOf_0 : List (Nat × Instr × Nat) := [(0, .iconst 0, 1), (1, .istore_n 1, 1), (2, .iconst 0, 1), (3, .istore_n 2, 1), (4, .iload_n 2, 1), (5, .bipush 17, 2), (7, .if_icmp .ge 17, 3), (10, .iload_n 1, 1), (11, .iload_n 0, 1), (12, .iload_n 2, 1), (13, .ishr, 1), (14, .iconst 1, 1), (15, .iand, 1), (16, .iadd, 1), (17, .istore_n 1, 1), (18, .iinc 2 1, 3), (21, .goto (-17), 3), (24, .iload_n 1, 1), (25, .ireturn, 1)]
theorem DX11_manyOf_0 : dAll cX11_manyOf lDX11_manyOf_0 = true := by decide +kernel
theorem dX11_manyOf_0 : decode cX11_manyOf 0 = .ok (.iconst 0, 1) := dAt (x := (0, .iconst 0, 1)) DX11_manyOf_0 0 rfl
theorem dX11_manyOf_1 : decode cX11_manyOf 1 = .ok (.istore_n 1, 1) := dAt (x := (1, .istore_n 1, 1)) DX11_manyOf_0 1 rfl
theorem dX11_manyOf_2 : decode cX11_manyOf 2 = .ok (.iconst 0, 1) := dAt (x := (2, .iconst 0, 1)) DX11_manyOf_0 2 rfl
theorem dX11_manyOf_3 : decode cX11_manyOf 3 = .ok (.istore_n 2, 1) := dAt (x := (3, .istore_n 2, 1)) DX11_manyOf_0 3 rfl
theorem dX11_manyOf_4 : decode cX11_manyOf 4 = .ok (.iload_n 2, 1) := dAt (x := (4, .iload_n 2, 1)) DX11_manyOf_0 4 rfl
theorem dX11_manyOf_5 : decode cX11_manyOf 5 = .ok (.bipush 17, 2) := dAt (x := (5, .bipush 17, 2)) DX11_manyOf_0 5 rfl
theorem dX11_manyOf_7 : decode cX11_manyOf 7 = .ok (.if_icmp .ge 17, 3) := dAt (x := (7, .if_icmp .ge 17, 3)) DX11_manyOf_0 6 rfl
theorem dX11_manyOf_10 : decode cX11_manyOf 10 = .ok (.iload_n 1, 1) := dAt (x := (10, .iload_n 1, 1)) DX11_manyOf_0 7 rfl
theorem dX11_manyOf_11 : decode cX11_manyOf 11 = .ok (.iload_n 0, 1) := dAt (x := (11, .iload_n 0, 1)) DX11_manyOf_0 8 rfl
theorem dX11_manyOf_12 : decode cX11_manyOf 12 = .ok (.iload_n 2, 1) := dAt (x := (12, .iload_n 2, 1)) DX11_manyOf_0 9 rfl
theorem dX11_manyOf_13 : decode cX11_manyOf 13 = .ok (.ishr, 1) := dAt (x := (13, .ishr, 1)) DX11_manyOf_0 10 rfl
theorem dX11_manyOf_14 : decode cX11_manyOf 14 = .ok (.iconst 1, 1) := dAt (x := (14, .iconst 1, 1)) DX11_manyOf_0 11 rfl
theorem dX11_manyOf_15 : decode cX11_manyOf 15 = .ok (.iand, 1) := dAt (x := (15, .iand, 1)) DX11_manyOf_0 12 rfl
theorem dX11_manyOf_16 : decode cX11_manyOf 16 = .ok (.iadd, 1) := dAt (x := (16, .iadd, 1)) DX11_manyOf_0 13 rfl
theorem dX11_manyOf_17 : decode cX11_manyOf 17 = .ok (.istore_n 1, 1) := dAt (x := (17, .istore_n 1, 1)) DX11_manyOf_0 14 rfl
theorem dX11_manyOf_18 : decode cX11_manyOf 18 = .ok (.iinc 2 1, 3) := dAt (x := (18, .iinc 2 1, 3)) DX11_manyOf_0 15 rfl
theorem dX11_manyOf_21 : decode cX11_manyOf 21 = .ok (.goto (-17), 3) := dAt (x := (21, .goto (-17), 3)) DX11_manyOf_0 16 rfl
theorem dX11_manyOf_24 : decode cX11_manyOf 24 = .ok (.iload_n 1, 1) := dAt (x := (24, .iload_n 1, 1)) DX11_manyOf_0 17 rfl
theorem dX11_manyOf_25 : decode cX11_manyOf 25 = .ok (.ireturn, 1) := dAt (x := (25, .ireturn, 1)) DX11_manyOf_0 18 rfl
def lDX11_isSo_0 : List (Nat × Instr × Nat) := [(0, .aload_n 0, 1), (1, .getfield 51, 3), (4, .iload_n 1, 1), (5, .iaload, 1), (6, .istore 4, 2), (8, .aload_n 0, 1), (9, .getfield 48, 3), (12, .iload_n 1, 1), (13, .iaload, 1), (14, .tableswitch 135 0 5 #[38, 45, 60, 81, 89, 105], 38), (52, .iload_n 2, 1), (53, .iload 4, 2), (55, .invokestatic 372, 3), (58, .ireturn, 1), (59, .iload_n 2, 1), (60, .iload 4, 2), (62, .invokestatic 372, 3), (65, .ifCond .ne 7, 3), (68, .iconst 1, 1), (69, .goto 4, 3), (72, .iconst 0, 1), (73, .ireturn, 1), (74, .iload_n 2, 1), (75, .iconst 1, 1), (76, .iload_n 3, 1), (77, .ishl, 1), (78, .iconst (-1), 1), (79, .ixor, 1), (80, .iand, 1), (81, .invokestatic 381, 3), (84, .iload 4, 2), (86, .if_icmp .lt 7, 3), (89, .iconst 1, 1), (90, .goto 4, 3), (93, .iconst 0, 1), (94, .ireturn, 1), (95, .aload_n 0, 1), (96, .getfield 91, 3), (99, .iload 4, 2), (101, .baload, 1), (102, .ireturn, 1), (103, .aload_n 0, 1), (104, .getfield 91, 3), (107, .iload 4, 2), (109, .baload, 1), (110, .ifCond .ne 7, 3), (113, .iconst 1, 1), (114, .goto 4, 3), (117, .iconst 0, 1), (118, .ireturn, 1), (119, .aload_n 0, 1), (120, .getfield 91, 3), (123, .iload 4, 2), (125, .baload, 1), (126, .ifCond .eq 21, 3), (129, .aload_n 0, 1), (130, .getfield 91, 3), (133, .aload_n 0, 1), (134, .getfield 54, 3), (137, .iload_n 1, 1)]
theorem DX11_isSo_0 : dAll cX11_isSo lDX11_isSo_0 = true := by decide +kernel
theorem dX11_isSo_0 : decode cX11_isSo 0 = .ok (.aload_n 0, 1) := dAt (x := (0, .aload_n 0, 1)) DX11_isSo_0 0 rfl
theorem dX11_isSo_1 : decode cX11_isSo 1 = .ok (.getfield 51, 3) := dAt (x := (1, .getfield 51, 3)) DX11_isSo_0 1 rfl
theorem dX11_isSo_4 : decode cX11_isSo 4 = .ok (.iload_n 1, 1) := dAt (x := (4, .iload_n 1, 1)) DX11_isSo_0 2 rfl
theorem dX11_isSo_5 : decode cX11_isSo 5 = .ok (.iaload, 1) := dAt (x := (5, .iaload, 1)) DX11_isSo_0 3 rfl
theorem dX11_isSo_6 : decode cX11_isSo 6 = .ok (.istore 4, 2) := dAt (x := (6, .istore 4, 2)) DX11_isSo_0 4 rfl
theorem dX11_isSo_8 : decode cX11_isSo 8 = .ok (.aload_n 0, 1) := dAt (x := (8, .aload_n 0, 1)) DX11_isSo_0 5 rfl
theorem dX11_isSo_9 : decode cX11_isSo 9 = .ok (.getfield 48, 3) := dAt (x := (9, .getfield 48, 3)) DX11_isSo_0 6 rfl
theorem dX11_isSo_12 : decode cX11_isSo 12 = .ok (.iload_n 1, 1) := dAt (x := (12, .iload_n 1, 1)) DX11_isSo_0 7 rfl
theorem dX11_isSo_13 : decode cX11_isSo 13 = .ok (.iaload, 1) := dAt (x := (13, .iaload, 1)) DX11_isSo_0 8 rfl
theorem dX11_isSo_14 : decode cX11_isSo 14 = .ok (.tableswitch 135 0 5 #[38, 45, 60, 81, 89, 105], 38) := dAt (x := (14, .tableswitch 135 0 5 #[38, 45, 60, 81, 89, 105], 38)) DX11_isSo_0 9 rfl
theorem dX11_isSo_52 : decode cX11_isSo 52 = .ok (.iload_n 2, 1) := dAt (x := (52, .iload_n 2, 1)) DX11_isSo_0 10 rfl
theorem dX11_isSo_53 : decode cX11_isSo 53 = .ok (.iload 4, 2) := dAt (x := (53, .iload 4, 2)) DX11_isSo_0 11 rfl
theorem dX11_isSo_55 : decode cX11_isSo 55 = .ok (.invokestatic 372, 3) := dAt (x := (55, .invokestatic 372, 3)) DX11_isSo_0 12 rfl
theorem dX11_isSo_58 : decode cX11_isSo 58 = .ok (.ireturn, 1) := dAt (x := (58, .ireturn, 1)) DX11_isSo_0 13 rfl
theorem dX11_isSo_59 : decode cX11_isSo 59 = .ok (.iload_n 2, 1) := dAt (x := (59, .iload_n 2, 1)) DX11_isSo_0 14 rfl
theorem dX11_isSo_60 : decode cX11_isSo 60 = .ok (.iload 4, 2) := dAt (x := (60, .iload 4, 2)) DX11_isSo_0 15 rfl
theorem dX11_isSo_62 : decode cX11_isSo 62 = .ok (.invokestatic 372, 3) := dAt (x := (62, .invokestatic 372, 3)) DX11_isSo_0 16 rfl
theorem dX11_isSo_65 : decode cX11_isSo 65 = .ok (.ifCond .ne 7, 3) := dAt (x := (65, .ifCond .ne 7, 3)) DX11_isSo_0 17 rfl
theorem dX11_isSo_68 : decode cX11_isSo 68 = .ok (.iconst 1, 1) := dAt (x := (68, .iconst 1, 1)) DX11_isSo_0 18 rfl
theorem dX11_isSo_69 : decode cX11_isSo 69 = .ok (.goto 4, 3) := dAt (x := (69, .goto 4, 3)) DX11_isSo_0 19 rfl
theorem dX11_isSo_72 : decode cX11_isSo 72 = .ok (.iconst 0, 1) := dAt (x := (72, .iconst 0, 1)) DX11_isSo_0 20 rfl
theorem dX11_isSo_73 : decode cX11_isSo 73 = .ok (.ireturn, 1) := dAt (x := (73, .ireturn, 1)) DX11_isSo_0 21 rfl
theorem dX11_isSo_74 : decode cX11_isSo 74 = .ok (.iload_n 2, 1) := dAt (x := (74, .iload_n 2, 1)) DX11_isSo_0 22 rfl
theorem dX11_isSo_75 : decode cX11_isSo 75 = .ok (.iconst 1, 1) := dAt (x := (75, .iconst 1, 1)) DX11_isSo_0 23 rfl
theorem dX11_isSo_76 : decode cX11_isSo 76 = .ok (.iload_n 3, 1) := dAt (x := (76, .iload_n 3, 1)) DX11_isSo_0 24 rfl
theorem dX11_isSo_77 : decode cX11_isSo 77 = .ok (.ishl, 1) := dAt (x := (77, .ishl, 1)) DX11_isSo_0 25 rfl
theorem dX11_isSo_78 : decode cX11_isSo 78 = .ok (.iconst (-1), 1) := dAt (x := (78, .iconst (-1), 1)) DX11_isSo_0 26 rfl
theorem dX11_isSo_79 : decode cX11_isSo 79 = .ok (.ixor, 1) := dAt (x := (79, .ixor, 1)) DX11_isSo_0 27 rfl
theorem dX11_isSo_80 : decode cX11_isSo 80 = .ok (.iand, 1) := dAt (x := (80, .iand, 1)) DX11_isSo_0 28 rfl
theorem dX11_isSo_81 : decode cX11_isSo 81 = .ok (.invokestatic 381, 3) := dAt (x := (81, .invokestatic 381, 3)) DX11_isSo_0 29 rfl
theorem dX11_isSo_84 : decode cX11_isSo 84 = .ok (.iload 4, 2) := dAt (x := (84, .iload 4, 2)) DX11_isSo_0 30 rfl
theorem dX11_isSo_86 : decode cX11_isSo 86 = .ok (.if_icmp .lt 7, 3) := dAt (x := (86, .if_icmp .lt 7, 3)) DX11_isSo_0 31 rfl
theorem dX11_isSo_89 : decode cX11_isSo 89 = .ok (.iconst 1, 1) := dAt (x := (89, .iconst 1, 1)) DX11_isSo_0 32 rfl
theorem dX11_isSo_90 : decode cX11_isSo 90 = .ok (.goto 4, 3) := dAt (x := (90, .goto 4, 3)) DX11_isSo_0 33 rfl
theorem dX11_isSo_93 : decode cX11_isSo 93 = .ok (.iconst 0, 1) := dAt (x := (93, .iconst 0, 1)) DX11_isSo_0 34 rfl
theorem dX11_isSo_94 : decode cX11_isSo 94 = .ok (.ireturn, 1) := dAt (x := (94, .ireturn, 1)) DX11_isSo_0 35 rfl
theorem dX11_isSo_95 : decode cX11_isSo 95 = .ok (.aload_n 0, 1) := dAt (x := (95, .aload_n 0, 1)) DX11_isSo_0 36 rfl
theorem dX11_isSo_96 : decode cX11_isSo 96 = .ok (.getfield 91, 3) := dAt (x := (96, .getfield 91, 3)) DX11_isSo_0 37 rfl
theorem dX11_isSo_99 : decode cX11_isSo 99 = .ok (.iload 4, 2) := dAt (x := (99, .iload 4, 2)) DX11_isSo_0 38 rfl
theorem dX11_isSo_101 : decode cX11_isSo 101 = .ok (.baload, 1) := dAt (x := (101, .baload, 1)) DX11_isSo_0 39 rfl
theorem dX11_isSo_102 : decode cX11_isSo 102 = .ok (.ireturn, 1) := dAt (x := (102, .ireturn, 1)) DX11_isSo_0 40 rfl
theorem dX11_isSo_103 : decode cX11_isSo 103 = .ok (.aload_n 0, 1) := dAt (x := (103, .aload_n 0, 1)) DX11_isSo_0 41 rfl
theorem dX11_isSo_104 : decode cX11_isSo 104 = .ok (.getfield 91, 3) := dAt (x := (104, .getfield 91, 3)) DX11_isSo_0 42 rfl
theorem dX11_isSo_107 : decode cX11_isSo 107 = .ok (.iload 4, 2) := dAt (x := (107, .iload 4, 2)) DX11_isSo_0 43 rfl
theorem dX11_isSo_109 : decode cX11_isSo 109 = .ok (.baload, 1) := dAt (x := (109, .baload, 1)) DX11_isSo_0 44 rfl
theorem dX11_isSo_110 : decode cX11_isSo 110 = .ok (.ifCond .ne 7, 3) := dAt (x := (110, .ifCond .ne 7, 3)) DX11_isSo_0 45 rfl
theorem dX11_isSo_113 : decode cX11_isSo 113 = .ok (.iconst 1, 1) := dAt (x := (113, .iconst 1, 1)) DX11_isSo_0 46 rfl
theorem dX11_isSo_114 : decode cX11_isSo 114 = .ok (.goto 4, 3) := dAt (x := (114, .goto 4, 3)) DX11_isSo_0 47 rfl
theorem dX11_isSo_117 : decode cX11_isSo 117 = .ok (.iconst 0, 1) := dAt (x := (117, .iconst 0, 1)) DX11_isSo_0 48 rfl
theorem dX11_isSo_118 : decode cX11_isSo 118 = .ok (.ireturn, 1) := dAt (x := (118, .ireturn, 1)) DX11_isSo_0 49 rfl
theorem dX11_isSo_119 : decode cX11_isSo 119 = .ok (.aload_n 0, 1) := dAt (x := (119, .aload_n 0, 1)) DX11_isSo_0 50 rfl
theorem dX11_isSo_120 : decode cX11_isSo 120 = .ok (.getfield 91, 3) := dAt (x := (120, .getfield 91, 3)) DX11_isSo_0 51 rfl
theorem dX11_isSo_123 : decode cX11_isSo 123 = .ok (.iload 4, 2) := dAt (x := (123, .iload 4, 2)) DX11_isSo_0 52 rfl
theorem dX11_isSo_125 : decode cX11_isSo 125 = .ok (.baload, 1) := dAt (x := (125, .baload, 1)) DX11_isSo_0 53 rfl
theorem dX11_isSo_126 : decode cX11_isSo 126 = .ok (.ifCond .eq 21, 3) := dAt (x := (126, .ifCond .eq 21, 3)) DX11_isSo_0 54 rfl
theorem dX11_isSo_129 : decode cX11_isSo 129 = .ok (.aload_n 0, 1) := dAt (x := (129, .aload_n 0, 1)) DX11_isSo_0 55 rfl
theorem dX11_isSo_130 : decode cX11_isSo 130 = .ok (.getfield 91, 3) := dAt (x := (130, .getfield 91, 3)) DX11_isSo_0 56 rfl
theorem dX11_isSo_133 : decode cX11_isSo 133 = .ok (.aload_n 0, 1) := dAt (x := (133, .aload_n 0, 1)) DX11_isSo_0 57 rfl
theorem dX11_isSo_134 : decode cX11_isSo 134 = .ok (.getfield 54, 3) := dAt (x := (134, .getfield 54, 3)) DX11_isSo_0 58 rfl
theorem dX11_isSo_137 : decode cX11_isSo 137 = .ok (.iload_n 1, 1) := dAt (x := (137, .iload_n 1, 1)) DX11_isSo_0 59 rfl
def lDX11_isSo_1 : List (Nat × Instr × Nat) := [(138, .iaload, 1), (139, .baload, 1), (140, .ifCond .eq 7, 3), (143, .iconst 1, 1), (144, .goto 4, 3), (147, .iconst 0, 1), (148, .ireturn, 1), (149, .aload_n 0, 1), (150, .getfield 91, 3), (153, .iload 4, 2), (155, .baload, 1), (156, .ifCond .ne 17, 3), (159, .aload_n 0, 1), (160, .getfield 91, 3), (163, .aload_n 0, 1), (164, .getfield 54, 3), (167, .iload_n 1, 1), (168, .iaload, 1), (169, .baload, 1), (170, .ifCond .eq 7, 3), (173, .iconst 1, 1), (174, .goto 4, 3), (177, .iconst 0, 1), (178, .ireturn, 1)]
theorem DX11_isSo_1 : dAll cX11_isSo lDX11_isSo_1 = true := by decide +kernel
theorem dX11_isSo_138 : decode cX11_isSo 138 = .ok (.iaload, 1) := dAt (x := (138, .iaload, 1)) DX11_isSo_1 0 rfl
theorem dX11_isSo_139 : decode cX11_isSo 139 = .ok (.baload, 1) := dAt (x := (139, .baload, 1)) DX11_isSo_1 1 rfl
theorem dX11_isSo_140 : decode cX11_isSo 140 = .ok (.ifCond .eq 7, 3) := dAt (x := (140, .ifCond .eq 7, 3)) DX11_isSo_1 2 rfl
theorem dX11_isSo_143 : decode cX11_isSo 143 = .ok (.iconst 1, 1) := dAt (x := (143, .iconst 1, 1)) DX11_isSo_1 3 rfl
theorem dX11_isSo_144 : decode cX11_isSo 144 = .ok (.goto 4, 3) := dAt (x := (144, .goto 4, 3)) DX11_isSo_1 4 rfl
theorem dX11_isSo_147 : decode cX11_isSo 147 = .ok (.iconst 0, 1) := dAt (x := (147, .iconst 0, 1)) DX11_isSo_1 5 rfl
theorem dX11_isSo_148 : decode cX11_isSo 148 = .ok (.ireturn, 1) := dAt (x := (148, .ireturn, 1)) DX11_isSo_1 6 rfl
theorem dX11_isSo_149 : decode cX11_isSo 149 = .ok (.aload_n 0, 1) := dAt (x := (149, .aload_n 0, 1)) DX11_isSo_1 7 rfl
theorem dX11_isSo_150 : decode cX11_isSo 150 = .ok (.getfield 91, 3) := dAt (x := (150, .getfield 91, 3)) DX11_isSo_1 8 rfl
theorem dX11_isSo_153 : decode cX11_isSo 153 = .ok (.iload 4, 2) := dAt (x := (153, .iload 4, 2)) DX11_isSo_1 9 rfl
theorem dX11_isSo_155 : decode cX11_isSo 155 = .ok (.baload, 1) := dAt (x := (155, .baload, 1)) DX11_isSo_1 10 rfl
theorem dX11_isSo_156 : decode cX11_isSo 156 = .ok (.ifCond .ne 17, 3) := dAt (x := (156, .ifCond .ne 17, 3)) DX11_isSo_1 11 rfl
theorem dX11_isSo_159 : decode cX11_isSo 159 = .ok (.aload_n 0, 1) := dAt (x := (159, .aload_n 0, 1)) DX11_isSo_1 12 rfl
theorem dX11_isSo_160 : decode cX11_isSo 160 = .ok (.getfield 91, 3) := dAt (x := (160, .getfield 91, 3)) DX11_isSo_1 13 rfl
theorem dX11_isSo_163 : decode cX11_isSo 163 = .ok (.aload_n 0, 1) := dAt (x := (163, .aload_n 0, 1)) DX11_isSo_1 14 rfl
theorem dX11_isSo_164 : decode cX11_isSo 164 = .ok (.getfield 54, 3) := dAt (x := (164, .getfield 54, 3)) DX11_isSo_1 15 rfl
theorem dX11_isSo_167 : decode cX11_isSo 167 = .ok (.iload_n 1, 1) := dAt (x := (167, .iload_n 1, 1)) DX11_isSo_1 16 rfl
theorem dX11_isSo_168 : decode cX11_isSo 168 = .ok (.iaload, 1) := dAt (x := (168, .iaload, 1)) DX11_isSo_1 17 rfl
theorem dX11_isSo_169 : decode cX11_isSo 169 = .ok (.baload, 1) := dAt (x := (169, .baload, 1)) DX11_isSo_1 18 rfl
theorem dX11_isSo_170 : decode cX11_isSo 170 = .ok (.ifCond .eq 7, 3) := dAt (x := (170, .ifCond .eq 7, 3)) DX11_isSo_1 19 rfl
theorem dX11_isSo_173 : decode cX11_isSo 173 = .ok (.iconst 1, 1) := dAt (x := (173, .iconst 1, 1)) DX11_isSo_1 20 rfl
theorem dX11_isSo_174 : decode cX11_isSo 174 = .ok (.goto 4, 3) := dAt (x := (174, .goto 4, 3)) DX11_isSo_1 21 rfl
theorem dX11_isSo_177 : decode cX11_isSo 177 = .ok (.iconst 0, 1) := dAt (x := (177, .iconst 0, 1)) DX11_isSo_1 22 rfl
theorem dX11_isSo_178 : decode cX11_isSo 178 = .ok (.ireturn, 1) := dAt (x := (178, .ireturn, 1)) DX11_isSo_1 23 rfl
def lDX11_layMay_0 : List (Nat × Instr × Nat) := [(0, .iconst 0, 1), (1, .istore_n 1, 1), (2, .iload_n 1, 1), (3, .iconst 1, 1), (4, .aload_n 0, 1), (5, .getfield 240, 3), (8, .ishl, 1), (9, .if_icmp .ge 98, 3), (12, .aload_n 0, 1), (13, .getfield 88, 3), (16, .iload_n 1, 1), (17, .iconst 0, 1), (18, .iastore, 1), (19, .iconst 0, 1), (20, .istore_n 2, 1), (21, .iload_n 2, 1), (22, .aload_n 0, 1), (23, .getfield 240, 3), (26, .if_icmp .ge 75, 3), (29, .iconst 0, 1), (30, .istore_n 3, 1), (31, .iload_n 3, 1), (32, .aload_n 0, 1), (33, .getfield 33, 3), (36, .iload_n 2, 1), (37, .iaload, 1), (38, .if_icmp .gt 22, 3), (41, .aload_n 0, 1), (42, .getfield 91, 3), (45, .iload_n 3, 1), (46, .aload_n 0, 1), (47, .iload_n 3, 1), (48, .iload_n 1, 1), (49, .iload_n 2, 1), (50, .invokevirtual 384, 3), (53, .bastore, 1), (54, .iinc 3 1, 3), (57, .goto (-26), 3), (60, .aload_n 0, 1), (61, .getfield 33, 3), (64, .iload_n 2, 1), (65, .iaload, 1), (66, .ifCond .lt 17, 3), (69, .aload_n 0, 1), (70, .getfield 91, 3), (73, .aload_n 0, 1), (74, .getfield 33, 3), (77, .iload_n 2, 1), (78, .iaload, 1), (79, .baload, 1), (80, .ifCond .eq 15, 3), (83, .aload_n 0, 1), (84, .getfield 88, 3), (87, .iload_n 1, 1), (88, .dup2, 1), (89, .iaload, 1), (90, .iconst 1, 1), (91, .iload_n 2, 1), (92, .ishl, 1), (93, .ior, 1)]
theorem DX11_layMay_0 : dAll cX11_layMay lDX11_layMay_0 = true := by decide +kernel
theorem dX11_layMay_0 : decode cX11_layMay 0 = .ok (.iconst 0, 1) := dAt (x := (0, .iconst 0, 1)) DX11_layMay_0 0 rfl
theorem dX11_layMay_1 : decode cX11_layMay 1 = .ok (.istore_n 1, 1) := dAt (x := (1, .istore_n 1, 1)) DX11_layMay_0 1 rfl
theorem dX11_layMay_2 : decode cX11_layMay 2 = .ok (.iload_n 1, 1) := dAt (x := (2, .iload_n 1, 1)) DX11_layMay_0 2 rfl
theorem dX11_layMay_3 : decode cX11_layMay 3 = .ok (.iconst 1, 1) := dAt (x := (3, .iconst 1, 1)) DX11_layMay_0 3 rfl
theorem dX11_layMay_4 : decode cX11_layMay 4 = .ok (.aload_n 0, 1) := dAt (x := (4, .aload_n 0, 1)) DX11_layMay_0 4 rfl
theorem dX11_layMay_5 : decode cX11_layMay 5 = .ok (.getfield 240, 3) := dAt (x := (5, .getfield 240, 3)) DX11_layMay_0 5 rfl
theorem dX11_layMay_8 : decode cX11_layMay 8 = .ok (.ishl, 1) := dAt (x := (8, .ishl, 1)) DX11_layMay_0 6 rfl
theorem dX11_layMay_9 : decode cX11_layMay 9 = .ok (.if_icmp .ge 98, 3) := dAt (x := (9, .if_icmp .ge 98, 3)) DX11_layMay_0 7 rfl
theorem dX11_layMay_12 : decode cX11_layMay 12 = .ok (.aload_n 0, 1) := dAt (x := (12, .aload_n 0, 1)) DX11_layMay_0 8 rfl
theorem dX11_layMay_13 : decode cX11_layMay 13 = .ok (.getfield 88, 3) := dAt (x := (13, .getfield 88, 3)) DX11_layMay_0 9 rfl
theorem dX11_layMay_16 : decode cX11_layMay 16 = .ok (.iload_n 1, 1) := dAt (x := (16, .iload_n 1, 1)) DX11_layMay_0 10 rfl
theorem dX11_layMay_17 : decode cX11_layMay 17 = .ok (.iconst 0, 1) := dAt (x := (17, .iconst 0, 1)) DX11_layMay_0 11 rfl
theorem dX11_layMay_18 : decode cX11_layMay 18 = .ok (.iastore, 1) := dAt (x := (18, .iastore, 1)) DX11_layMay_0 12 rfl
theorem dX11_layMay_19 : decode cX11_layMay 19 = .ok (.iconst 0, 1) := dAt (x := (19, .iconst 0, 1)) DX11_layMay_0 13 rfl
theorem dX11_layMay_20 : decode cX11_layMay 20 = .ok (.istore_n 2, 1) := dAt (x := (20, .istore_n 2, 1)) DX11_layMay_0 14 rfl
theorem dX11_layMay_21 : decode cX11_layMay 21 = .ok (.iload_n 2, 1) := dAt (x := (21, .iload_n 2, 1)) DX11_layMay_0 15 rfl
theorem dX11_layMay_22 : decode cX11_layMay 22 = .ok (.aload_n 0, 1) := dAt (x := (22, .aload_n 0, 1)) DX11_layMay_0 16 rfl
theorem dX11_layMay_23 : decode cX11_layMay 23 = .ok (.getfield 240, 3) := dAt (x := (23, .getfield 240, 3)) DX11_layMay_0 17 rfl
theorem dX11_layMay_26 : decode cX11_layMay 26 = .ok (.if_icmp .ge 75, 3) := dAt (x := (26, .if_icmp .ge 75, 3)) DX11_layMay_0 18 rfl
theorem dX11_layMay_29 : decode cX11_layMay 29 = .ok (.iconst 0, 1) := dAt (x := (29, .iconst 0, 1)) DX11_layMay_0 19 rfl
theorem dX11_layMay_30 : decode cX11_layMay 30 = .ok (.istore_n 3, 1) := dAt (x := (30, .istore_n 3, 1)) DX11_layMay_0 20 rfl
theorem dX11_layMay_31 : decode cX11_layMay 31 = .ok (.iload_n 3, 1) := dAt (x := (31, .iload_n 3, 1)) DX11_layMay_0 21 rfl
theorem dX11_layMay_32 : decode cX11_layMay 32 = .ok (.aload_n 0, 1) := dAt (x := (32, .aload_n 0, 1)) DX11_layMay_0 22 rfl
theorem dX11_layMay_33 : decode cX11_layMay 33 = .ok (.getfield 33, 3) := dAt (x := (33, .getfield 33, 3)) DX11_layMay_0 23 rfl
theorem dX11_layMay_36 : decode cX11_layMay 36 = .ok (.iload_n 2, 1) := dAt (x := (36, .iload_n 2, 1)) DX11_layMay_0 24 rfl
theorem dX11_layMay_37 : decode cX11_layMay 37 = .ok (.iaload, 1) := dAt (x := (37, .iaload, 1)) DX11_layMay_0 25 rfl
theorem dX11_layMay_38 : decode cX11_layMay 38 = .ok (.if_icmp .gt 22, 3) := dAt (x := (38, .if_icmp .gt 22, 3)) DX11_layMay_0 26 rfl
theorem dX11_layMay_41 : decode cX11_layMay 41 = .ok (.aload_n 0, 1) := dAt (x := (41, .aload_n 0, 1)) DX11_layMay_0 27 rfl
theorem dX11_layMay_42 : decode cX11_layMay 42 = .ok (.getfield 91, 3) := dAt (x := (42, .getfield 91, 3)) DX11_layMay_0 28 rfl
theorem dX11_layMay_45 : decode cX11_layMay 45 = .ok (.iload_n 3, 1) := dAt (x := (45, .iload_n 3, 1)) DX11_layMay_0 29 rfl
theorem dX11_layMay_46 : decode cX11_layMay 46 = .ok (.aload_n 0, 1) := dAt (x := (46, .aload_n 0, 1)) DX11_layMay_0 30 rfl
theorem dX11_layMay_47 : decode cX11_layMay 47 = .ok (.iload_n 3, 1) := dAt (x := (47, .iload_n 3, 1)) DX11_layMay_0 31 rfl
theorem dX11_layMay_48 : decode cX11_layMay 48 = .ok (.iload_n 1, 1) := dAt (x := (48, .iload_n 1, 1)) DX11_layMay_0 32 rfl
theorem dX11_layMay_49 : decode cX11_layMay 49 = .ok (.iload_n 2, 1) := dAt (x := (49, .iload_n 2, 1)) DX11_layMay_0 33 rfl
theorem dX11_layMay_50 : decode cX11_layMay 50 = .ok (.invokevirtual 384, 3) := dAt (x := (50, .invokevirtual 384, 3)) DX11_layMay_0 34 rfl
theorem dX11_layMay_53 : decode cX11_layMay 53 = .ok (.bastore, 1) := dAt (x := (53, .bastore, 1)) DX11_layMay_0 35 rfl
theorem dX11_layMay_54 : decode cX11_layMay 54 = .ok (.iinc 3 1, 3) := dAt (x := (54, .iinc 3 1, 3)) DX11_layMay_0 36 rfl
theorem dX11_layMay_57 : decode cX11_layMay 57 = .ok (.goto (-26), 3) := dAt (x := (57, .goto (-26), 3)) DX11_layMay_0 37 rfl
theorem dX11_layMay_60 : decode cX11_layMay 60 = .ok (.aload_n 0, 1) := dAt (x := (60, .aload_n 0, 1)) DX11_layMay_0 38 rfl
theorem dX11_layMay_61 : decode cX11_layMay 61 = .ok (.getfield 33, 3) := dAt (x := (61, .getfield 33, 3)) DX11_layMay_0 39 rfl
theorem dX11_layMay_64 : decode cX11_layMay 64 = .ok (.iload_n 2, 1) := dAt (x := (64, .iload_n 2, 1)) DX11_layMay_0 40 rfl
theorem dX11_layMay_65 : decode cX11_layMay 65 = .ok (.iaload, 1) := dAt (x := (65, .iaload, 1)) DX11_layMay_0 41 rfl
theorem dX11_layMay_66 : decode cX11_layMay 66 = .ok (.ifCond .lt 17, 3) := dAt (x := (66, .ifCond .lt 17, 3)) DX11_layMay_0 42 rfl
theorem dX11_layMay_69 : decode cX11_layMay 69 = .ok (.aload_n 0, 1) := dAt (x := (69, .aload_n 0, 1)) DX11_layMay_0 43 rfl
theorem dX11_layMay_70 : decode cX11_layMay 70 = .ok (.getfield 91, 3) := dAt (x := (70, .getfield 91, 3)) DX11_layMay_0 44 rfl
theorem dX11_layMay_73 : decode cX11_layMay 73 = .ok (.aload_n 0, 1) := dAt (x := (73, .aload_n 0, 1)) DX11_layMay_0 45 rfl
theorem dX11_layMay_74 : decode cX11_layMay 74 = .ok (.getfield 33, 3) := dAt (x := (74, .getfield 33, 3)) DX11_layMay_0 46 rfl
theorem dX11_layMay_77 : decode cX11_layMay 77 = .ok (.iload_n 2, 1) := dAt (x := (77, .iload_n 2, 1)) DX11_layMay_0 47 rfl
theorem dX11_layMay_78 : decode cX11_layMay 78 = .ok (.iaload, 1) := dAt (x := (78, .iaload, 1)) DX11_layMay_0 48 rfl
theorem dX11_layMay_79 : decode cX11_layMay 79 = .ok (.baload, 1) := dAt (x := (79, .baload, 1)) DX11_layMay_0 49 rfl
theorem dX11_layMay_80 : decode cX11_layMay 80 = .ok (.ifCond .eq 15, 3) := dAt (x := (80, .ifCond .eq 15, 3)) DX11_layMay_0 50 rfl
theorem dX11_layMay_83 : decode cX11_layMay 83 = .ok (.aload_n 0, 1) := dAt (x := (83, .aload_n 0, 1)) DX11_layMay_0 51 rfl
theorem dX11_layMay_84 : decode cX11_layMay 84 = .ok (.getfield 88, 3) := dAt (x := (84, .getfield 88, 3)) DX11_layMay_0 52 rfl
theorem dX11_layMay_87 : decode cX11_layMay 87 = .ok (.iload_n 1, 1) := dAt (x := (87, .iload_n 1, 1)) DX11_layMay_0 53 rfl
theorem dX11_layMay_88 : decode cX11_layMay 88 = .ok (.dup2, 1) := dAt (x := (88, .dup2, 1)) DX11_layMay_0 54 rfl
theorem dX11_layMay_89 : decode cX11_layMay 89 = .ok (.iaload, 1) := dAt (x := (89, .iaload, 1)) DX11_layMay_0 55 rfl
theorem dX11_layMay_90 : decode cX11_layMay 90 = .ok (.iconst 1, 1) := dAt (x := (90, .iconst 1, 1)) DX11_layMay_0 56 rfl
theorem dX11_layMay_91 : decode cX11_layMay 91 = .ok (.iload_n 2, 1) := dAt (x := (91, .iload_n 2, 1)) DX11_layMay_0 57 rfl
theorem dX11_layMay_92 : decode cX11_layMay 92 = .ok (.ishl, 1) := dAt (x := (92, .ishl, 1)) DX11_layMay_0 58 rfl
theorem dX11_layMay_93 : decode cX11_layMay 93 = .ok (.ior, 1) := dAt (x := (93, .ior, 1)) DX11_layMay_0 59 rfl
def lDX11_layMay_1 : List (Nat × Instr × Nat) := [(94, .iastore, 1), (95, .iinc 2 1, 3), (98, .goto (-77), 3), (101, .iinc 1 1, 3), (104, .goto (-102), 3), (107, .return_, 1)]
theorem DX11_layMay_1 : dAll cX11_layMay lDX11_layMay_1 = true := by decide +kernel
theorem dX11_layMay_94 : decode cX11_layMay 94 = .ok (.iastore, 1) := dAt (x := (94, .iastore, 1)) DX11_layMay_1 0 rfl
theorem dX11_layMay_95 : decode cX11_layMay 95 = .ok (.iinc 2 1, 3) := dAt (x := (95, .iinc 2 1, 3)) DX11_layMay_1 1 rfl
theorem dX11_layMay_98 : decode cX11_layMay 98 = .ok (.goto (-77), 3) := dAt (x := (98, .goto (-77), 3)) DX11_layMay_1 2 rfl
theorem dX11_layMay_101 : decode cX11_layMay 101 = .ok (.iinc 1 1, 3) := dAt (x := (101, .iinc 1 1, 3)) DX11_layMay_1 3 rfl
theorem dX11_layMay_104 : decode cX11_layMay 104 = .ok (.goto (-102), 3) := dAt (x := (104, .goto (-102), 3)) DX11_layMay_1 4 rfl
theorem dX11_layMay_107 : decode cX11_layMay 107 = .ok (.return_, 1) := dAt (x := (107, .return_, 1)) DX11_layMay_1 5 rfl
def lDX11_begin_0 : List (Nat × Instr × Nat) := [(0, .aload_n 0, 1), (1, .getfield 94, 3), (4, .iconst 0, 1), (5, .iconst 0, 1), (6, .iastore, 1), (7, .iconst 0, 1), (8, .istore_n 1, 1), (9, .iload_n 1, 1), (10, .aload_n 0, 1), (11, .getfield 240, 3), (14, .if_icmp .ge 26, 3), (17, .aload_n 0, 1), (18, .getfield 94, 3), (21, .iconst 0, 1), (22, .dup2, 1), (23, .iaload, 1), (24, .aload_n 0, 1), (25, .getfield 30, 3), (28, .iload_n 1, 1), (29, .iaload, 1), (30, .iload_n 1, 1), (31, .ishl, 1), (32, .ior, 1), (33, .iastore, 1), (34, .iinc 1 1, 3), (37, .goto (-28), 3), (40, .iconst 0, 1), (41, .istore_n 1, 1), (42, .iload_n 1, 1), (43, .bipush 8, 2), (45, .if_icmp .ge 16, 3), (48, .aload_n 0, 1), (49, .getfield 109, 3), (52, .iload_n 1, 1), (53, .iconst 0, 1), (54, .iastore, 1), (55, .iinc 1 1, 3), (58, .goto (-16), 3), (61, .aload_n 0, 1), (62, .getfield 97, 3), (65, .iconst 0, 1), (66, .iconst 0, 1), (67, .iastore, 1), (68, .aload_n 0, 1), (69, .getfield 100, 3), (72, .iconst 0, 1), (73, .iconst 0, 1), (74, .iastore, 1), (75, .aload_n 0, 1), (76, .getfield 103, 3), (79, .iconst 0, 1), (80, .iconst 0, 1), (81, .iastore, 1), (82, .aload_n 0, 1), (83, .getfield 106, 3), (86, .iconst 0, 1), (87, .iconst 0, 1), (88, .iastore, 1), (89, .aload_n 0, 1), (90, .aload_n 0, 1)]
theorem DX11_begin_0 : dAll cX11_begin lDX11_begin_0 = true := by decide +kernel
theorem dX11_begin_0 : decode cX11_begin 0 = .ok (.aload_n 0, 1) := dAt (x := (0, .aload_n 0, 1)) DX11_begin_0 0 rfl
theorem dX11_begin_1 : decode cX11_begin 1 = .ok (.getfield 94, 3) := dAt (x := (1, .getfield 94, 3)) DX11_begin_0 1 rfl
theorem dX11_begin_4 : decode cX11_begin 4 = .ok (.iconst 0, 1) := dAt (x := (4, .iconst 0, 1)) DX11_begin_0 2 rfl
theorem dX11_begin_5 : decode cX11_begin 5 = .ok (.iconst 0, 1) := dAt (x := (5, .iconst 0, 1)) DX11_begin_0 3 rfl
theorem dX11_begin_6 : decode cX11_begin 6 = .ok (.iastore, 1) := dAt (x := (6, .iastore, 1)) DX11_begin_0 4 rfl
theorem dX11_begin_7 : decode cX11_begin 7 = .ok (.iconst 0, 1) := dAt (x := (7, .iconst 0, 1)) DX11_begin_0 5 rfl
theorem dX11_begin_8 : decode cX11_begin 8 = .ok (.istore_n 1, 1) := dAt (x := (8, .istore_n 1, 1)) DX11_begin_0 6 rfl
theorem dX11_begin_9 : decode cX11_begin 9 = .ok (.iload_n 1, 1) := dAt (x := (9, .iload_n 1, 1)) DX11_begin_0 7 rfl
theorem dX11_begin_10 : decode cX11_begin 10 = .ok (.aload_n 0, 1) := dAt (x := (10, .aload_n 0, 1)) DX11_begin_0 8 rfl
theorem dX11_begin_11 : decode cX11_begin 11 = .ok (.getfield 240, 3) := dAt (x := (11, .getfield 240, 3)) DX11_begin_0 9 rfl
theorem dX11_begin_14 : decode cX11_begin 14 = .ok (.if_icmp .ge 26, 3) := dAt (x := (14, .if_icmp .ge 26, 3)) DX11_begin_0 10 rfl
theorem dX11_begin_17 : decode cX11_begin 17 = .ok (.aload_n 0, 1) := dAt (x := (17, .aload_n 0, 1)) DX11_begin_0 11 rfl
theorem dX11_begin_18 : decode cX11_begin 18 = .ok (.getfield 94, 3) := dAt (x := (18, .getfield 94, 3)) DX11_begin_0 12 rfl
theorem dX11_begin_21 : decode cX11_begin 21 = .ok (.iconst 0, 1) := dAt (x := (21, .iconst 0, 1)) DX11_begin_0 13 rfl
theorem dX11_begin_22 : decode cX11_begin 22 = .ok (.dup2, 1) := dAt (x := (22, .dup2, 1)) DX11_begin_0 14 rfl
theorem dX11_begin_23 : decode cX11_begin 23 = .ok (.iaload, 1) := dAt (x := (23, .iaload, 1)) DX11_begin_0 15 rfl
theorem dX11_begin_24 : decode cX11_begin 24 = .ok (.aload_n 0, 1) := dAt (x := (24, .aload_n 0, 1)) DX11_begin_0 16 rfl
theorem dX11_begin_25 : decode cX11_begin 25 = .ok (.getfield 30, 3) := dAt (x := (25, .getfield 30, 3)) DX11_begin_0 17 rfl
theorem dX11_begin_28 : decode cX11_begin 28 = .ok (.iload_n 1, 1) := dAt (x := (28, .iload_n 1, 1)) DX11_begin_0 18 rfl
theorem dX11_begin_29 : decode cX11_begin 29 = .ok (.iaload, 1) := dAt (x := (29, .iaload, 1)) DX11_begin_0 19 rfl
theorem dX11_begin_30 : decode cX11_begin 30 = .ok (.iload_n 1, 1) := dAt (x := (30, .iload_n 1, 1)) DX11_begin_0 20 rfl
theorem dX11_begin_31 : decode cX11_begin 31 = .ok (.ishl, 1) := dAt (x := (31, .ishl, 1)) DX11_begin_0 21 rfl
theorem dX11_begin_32 : decode cX11_begin 32 = .ok (.ior, 1) := dAt (x := (32, .ior, 1)) DX11_begin_0 22 rfl
theorem dX11_begin_33 : decode cX11_begin 33 = .ok (.iastore, 1) := dAt (x := (33, .iastore, 1)) DX11_begin_0 23 rfl
theorem dX11_begin_34 : decode cX11_begin 34 = .ok (.iinc 1 1, 3) := dAt (x := (34, .iinc 1 1, 3)) DX11_begin_0 24 rfl
theorem dX11_begin_37 : decode cX11_begin 37 = .ok (.goto (-28), 3) := dAt (x := (37, .goto (-28), 3)) DX11_begin_0 25 rfl
theorem dX11_begin_40 : decode cX11_begin 40 = .ok (.iconst 0, 1) := dAt (x := (40, .iconst 0, 1)) DX11_begin_0 26 rfl
theorem dX11_begin_41 : decode cX11_begin 41 = .ok (.istore_n 1, 1) := dAt (x := (41, .istore_n 1, 1)) DX11_begin_0 27 rfl
theorem dX11_begin_42 : decode cX11_begin 42 = .ok (.iload_n 1, 1) := dAt (x := (42, .iload_n 1, 1)) DX11_begin_0 28 rfl
theorem dX11_begin_43 : decode cX11_begin 43 = .ok (.bipush 8, 2) := dAt (x := (43, .bipush 8, 2)) DX11_begin_0 29 rfl
theorem dX11_begin_45 : decode cX11_begin 45 = .ok (.if_icmp .ge 16, 3) := dAt (x := (45, .if_icmp .ge 16, 3)) DX11_begin_0 30 rfl
theorem dX11_begin_48 : decode cX11_begin 48 = .ok (.aload_n 0, 1) := dAt (x := (48, .aload_n 0, 1)) DX11_begin_0 31 rfl
theorem dX11_begin_49 : decode cX11_begin 49 = .ok (.getfield 109, 3) := dAt (x := (49, .getfield 109, 3)) DX11_begin_0 32 rfl
theorem dX11_begin_52 : decode cX11_begin 52 = .ok (.iload_n 1, 1) := dAt (x := (52, .iload_n 1, 1)) DX11_begin_0 33 rfl
theorem dX11_begin_53 : decode cX11_begin 53 = .ok (.iconst 0, 1) := dAt (x := (53, .iconst 0, 1)) DX11_begin_0 34 rfl
theorem dX11_begin_54 : decode cX11_begin 54 = .ok (.iastore, 1) := dAt (x := (54, .iastore, 1)) DX11_begin_0 35 rfl
theorem dX11_begin_55 : decode cX11_begin 55 = .ok (.iinc 1 1, 3) := dAt (x := (55, .iinc 1 1, 3)) DX11_begin_0 36 rfl
theorem dX11_begin_58 : decode cX11_begin 58 = .ok (.goto (-16), 3) := dAt (x := (58, .goto (-16), 3)) DX11_begin_0 37 rfl
theorem dX11_begin_61 : decode cX11_begin 61 = .ok (.aload_n 0, 1) := dAt (x := (61, .aload_n 0, 1)) DX11_begin_0 38 rfl
theorem dX11_begin_62 : decode cX11_begin 62 = .ok (.getfield 97, 3) := dAt (x := (62, .getfield 97, 3)) DX11_begin_0 39 rfl
theorem dX11_begin_65 : decode cX11_begin 65 = .ok (.iconst 0, 1) := dAt (x := (65, .iconst 0, 1)) DX11_begin_0 40 rfl
theorem dX11_begin_66 : decode cX11_begin 66 = .ok (.iconst 0, 1) := dAt (x := (66, .iconst 0, 1)) DX11_begin_0 41 rfl
theorem dX11_begin_67 : decode cX11_begin 67 = .ok (.iastore, 1) := dAt (x := (67, .iastore, 1)) DX11_begin_0 42 rfl
theorem dX11_begin_68 : decode cX11_begin 68 = .ok (.aload_n 0, 1) := dAt (x := (68, .aload_n 0, 1)) DX11_begin_0 43 rfl
theorem dX11_begin_69 : decode cX11_begin 69 = .ok (.getfield 100, 3) := dAt (x := (69, .getfield 100, 3)) DX11_begin_0 44 rfl
theorem dX11_begin_72 : decode cX11_begin 72 = .ok (.iconst 0, 1) := dAt (x := (72, .iconst 0, 1)) DX11_begin_0 45 rfl
theorem dX11_begin_73 : decode cX11_begin 73 = .ok (.iconst 0, 1) := dAt (x := (73, .iconst 0, 1)) DX11_begin_0 46 rfl
theorem dX11_begin_74 : decode cX11_begin 74 = .ok (.iastore, 1) := dAt (x := (74, .iastore, 1)) DX11_begin_0 47 rfl
theorem dX11_begin_75 : decode cX11_begin 75 = .ok (.aload_n 0, 1) := dAt (x := (75, .aload_n 0, 1)) DX11_begin_0 48 rfl
theorem dX11_begin_76 : decode cX11_begin 76 = .ok (.getfield 103, 3) := dAt (x := (76, .getfield 103, 3)) DX11_begin_0 49 rfl
theorem dX11_begin_79 : decode cX11_begin 79 = .ok (.iconst 0, 1) := dAt (x := (79, .iconst 0, 1)) DX11_begin_0 50 rfl
theorem dX11_begin_80 : decode cX11_begin 80 = .ok (.iconst 0, 1) := dAt (x := (80, .iconst 0, 1)) DX11_begin_0 51 rfl
theorem dX11_begin_81 : decode cX11_begin 81 = .ok (.iastore, 1) := dAt (x := (81, .iastore, 1)) DX11_begin_0 52 rfl
theorem dX11_begin_82 : decode cX11_begin 82 = .ok (.aload_n 0, 1) := dAt (x := (82, .aload_n 0, 1)) DX11_begin_0 53 rfl
theorem dX11_begin_83 : decode cX11_begin 83 = .ok (.getfield 106, 3) := dAt (x := (83, .getfield 106, 3)) DX11_begin_0 54 rfl
theorem dX11_begin_86 : decode cX11_begin 86 = .ok (.iconst 0, 1) := dAt (x := (86, .iconst 0, 1)) DX11_begin_0 55 rfl
theorem dX11_begin_87 : decode cX11_begin 87 = .ok (.iconst 0, 1) := dAt (x := (87, .iconst 0, 1)) DX11_begin_0 56 rfl
theorem dX11_begin_88 : decode cX11_begin 88 = .ok (.iastore, 1) := dAt (x := (88, .iastore, 1)) DX11_begin_0 57 rfl
theorem dX11_begin_89 : decode cX11_begin 89 = .ok (.aload_n 0, 1) := dAt (x := (89, .aload_n 0, 1)) DX11_begin_0 58 rfl
theorem dX11_begin_90 : decode cX11_begin 90 = .ok (.aload_n 0, 1) := dAt (x := (90, .aload_n 0, 1)) DX11_begin_0 59 rfl
def lDX11_begin_1 : List (Nat × Instr × Nat) := [(91, .getfield 24, 3), (94, .iconst 1, 1), (95, .iaload, 1), (96, .i2l, 1), (97, .putfield 387, 3), (100, .aload_n 0, 1), (101, .invokevirtual 391, 3), (104, .aload_n 0, 1), (105, .iconst 0, 1), (106, .putfield 394, 3), (109, .aload_n 0, 1), (110, .iconst (-1), 1), (111, .putfield 139, 3), (114, .aload_n 0, 1), (115, .iconst 0, 1), (116, .putfield 397, 3), (119, .aload_n 0, 1), (120, .iconst 0, 1), (121, .putfield 400, 3), (124, .return_, 1)]
theorem DX11_begin_1 : dAll cX11_begin lDX11_begin_1 = true := by decide +kernel
theorem dX11_begin_91 : decode cX11_begin 91 = .ok (.getfield 24, 3) := dAt (x := (91, .getfield 24, 3)) DX11_begin_1 0 rfl
theorem dX11_begin_94 : decode cX11_begin 94 = .ok (.iconst 1, 1) := dAt (x := (94, .iconst 1, 1)) DX11_begin_1 1 rfl
theorem dX11_begin_95 : decode cX11_begin 95 = .ok (.iaload, 1) := dAt (x := (95, .iaload, 1)) DX11_begin_1 2 rfl
theorem dX11_begin_96 : decode cX11_begin 96 = .ok (.i2l, 1) := dAt (x := (96, .i2l, 1)) DX11_begin_1 3 rfl
theorem dX11_begin_97 : decode cX11_begin 97 = .ok (.putfield 387, 3) := dAt (x := (97, .putfield 387, 3)) DX11_begin_1 4 rfl
theorem dX11_begin_100 : decode cX11_begin 100 = .ok (.aload_n 0, 1) := dAt (x := (100, .aload_n 0, 1)) DX11_begin_1 5 rfl
theorem dX11_begin_101 : decode cX11_begin 101 = .ok (.invokevirtual 391, 3) := dAt (x := (101, .invokevirtual 391, 3)) DX11_begin_1 6 rfl
theorem dX11_begin_104 : decode cX11_begin 104 = .ok (.aload_n 0, 1) := dAt (x := (104, .aload_n 0, 1)) DX11_begin_1 7 rfl
theorem dX11_begin_105 : decode cX11_begin 105 = .ok (.iconst 0, 1) := dAt (x := (105, .iconst 0, 1)) DX11_begin_1 8 rfl
theorem dX11_begin_106 : decode cX11_begin 106 = .ok (.putfield 394, 3) := dAt (x := (106, .putfield 394, 3)) DX11_begin_1 9 rfl
theorem dX11_begin_109 : decode cX11_begin 109 = .ok (.aload_n 0, 1) := dAt (x := (109, .aload_n 0, 1)) DX11_begin_1 10 rfl
theorem dX11_begin_110 : decode cX11_begin 110 = .ok (.iconst (-1), 1) := dAt (x := (110, .iconst (-1), 1)) DX11_begin_1 11 rfl
theorem dX11_begin_111 : decode cX11_begin 111 = .ok (.putfield 139, 3) := dAt (x := (111, .putfield 139, 3)) DX11_begin_1 12 rfl
theorem dX11_begin_114 : decode cX11_begin 114 = .ok (.aload_n 0, 1) := dAt (x := (114, .aload_n 0, 1)) DX11_begin_1 13 rfl
theorem dX11_begin_115 : decode cX11_begin 115 = .ok (.iconst 0, 1) := dAt (x := (115, .iconst 0, 1)) DX11_begin_1 14 rfl
theorem dX11_begin_116 : decode cX11_begin 116 = .ok (.putfield 397, 3) := dAt (x := (116, .putfield 397, 3)) DX11_begin_1 15 rfl
theorem dX11_begin_119 : decode cX11_begin 119 = .ok (.aload_n 0, 1) := dAt (x := (119, .aload_n 0, 1)) DX11_begin_1 16 rfl
theorem dX11_begin_120 : decode cX11_begin 120 = .ok (.iconst 0, 1) := dAt (x := (120, .iconst 0, 1)) DX11_begin_1 17 rfl
theorem dX11_begin_121 : decode cX11_begin 121 = .ok (.putfield 400, 3) := dAt (x := (121, .putfield 400, 3)) DX11_begin_1 18 rfl
theorem dX11_begin_124 : decode cX11_begin 124 = .ok (.return_, 1) := dAt (x := (124, .return_, 1)) DX11_begin_1 19 rfl
def lDX11_plainTried_0 : List (Nat × Instr × Nat) := [(0, .aload_n 0, 1), (1, .iconst 0, 1), (2, .putfield 403, 3), (5, .aload_n 0, 1), (6, .iconst 0, 1), (7, .putfield 406, 3), (10, .aload_n 0, 1), (11, .iconst 0, 1), (12, .putfield 409, 3), (15, .aload_n 0, 1), (16, .iconst 0, 1), (17, .putfield 412, 3), (20, .aload_n 0, 1), (21, .iconst 0, 1), (22, .putfield 415, 3), (25, .aload_n 0, 1), (26, .iconst (-1), 1), (27, .putfield 418, 3), (30, .return_, 1)]
theorem DX11_plainTried_0 : dAll cX11_plainTried lDX11_plainTried_0 = true := by decide +kernel
theorem dX11_plainTried_0 : decode cX11_plainTried 0 = .ok (.aload_n 0, 1) := dAt (x := (0, .aload_n 0, 1)) DX11_plainTried_0 0 rfl
theorem dX11_plainTried_1 : decode cX11_plainTried 1 = .ok (.iconst 0, 1) := dAt (x := (1, .iconst 0, 1)) DX11_plainTried_0 1 rfl
theorem dX11_plainTried_2 : decode cX11_plainTried 2 = .ok (.putfield 403, 3) := dAt (x := (2, .putfield 403, 3)) DX11_plainTried_0 2 rfl
theorem dX11_plainTried_5 : decode cX11_plainTried 5 = .ok (.aload_n 0, 1) := dAt (x := (5, .aload_n 0, 1)) DX11_plainTried_0 3 rfl
theorem dX11_plainTried_6 : decode cX11_plainTried 6 = .ok (.iconst 0, 1) := dAt (x := (6, .iconst 0, 1)) DX11_plainTried_0 4 rfl
theorem dX11_plainTried_7 : decode cX11_plainTried 7 = .ok (.putfield 406, 3) := dAt (x := (7, .putfield 406, 3)) DX11_plainTried_0 5 rfl
theorem dX11_plainTried_10 : decode cX11_plainTried 10 = .ok (.aload_n 0, 1) := dAt (x := (10, .aload_n 0, 1)) DX11_plainTried_0 6 rfl
theorem dX11_plainTried_11 : decode cX11_plainTried 11 = .ok (.iconst 0, 1) := dAt (x := (11, .iconst 0, 1)) DX11_plainTried_0 7 rfl
theorem dX11_plainTried_12 : decode cX11_plainTried 12 = .ok (.putfield 409, 3) := dAt (x := (12, .putfield 409, 3)) DX11_plainTried_0 8 rfl
theorem dX11_plainTried_15 : decode cX11_plainTried 15 = .ok (.aload_n 0, 1) := dAt (x := (15, .aload_n 0, 1)) DX11_plainTried_0 9 rfl
theorem dX11_plainTried_16 : decode cX11_plainTried 16 = .ok (.iconst 0, 1) := dAt (x := (16, .iconst 0, 1)) DX11_plainTried_0 10 rfl
theorem dX11_plainTried_17 : decode cX11_plainTried 17 = .ok (.putfield 412, 3) := dAt (x := (17, .putfield 412, 3)) DX11_plainTried_0 11 rfl
theorem dX11_plainTried_20 : decode cX11_plainTried 20 = .ok (.aload_n 0, 1) := dAt (x := (20, .aload_n 0, 1)) DX11_plainTried_0 12 rfl
theorem dX11_plainTried_21 : decode cX11_plainTried 21 = .ok (.iconst 0, 1) := dAt (x := (21, .iconst 0, 1)) DX11_plainTried_0 13 rfl
theorem dX11_plainTried_22 : decode cX11_plainTried 22 = .ok (.putfield 415, 3) := dAt (x := (22, .putfield 415, 3)) DX11_plainTried_0 14 rfl
theorem dX11_plainTried_25 : decode cX11_plainTried 25 = .ok (.aload_n 0, 1) := dAt (x := (25, .aload_n 0, 1)) DX11_plainTried_0 15 rfl
theorem dX11_plainTried_26 : decode cX11_plainTried 26 = .ok (.iconst (-1), 1) := dAt (x := (26, .iconst (-1), 1)) DX11_plainTried_0 16 rfl
theorem dX11_plainTried_27 : decode cX11_plainTried 27 = .ok (.putfield 418, 3) := dAt (x := (27, .putfield 418, 3)) DX11_plainTried_0 17 rfl
theorem dX11_plainTried_30 : decode cX11_plainTried 30 = .ok (.return_, 1) := dAt (x := (30, .return_, 1)) DX11_plainTried_0 18 rfl
def lDX11_layTried_0 : List (Nat × Instr × Nat) := [(0, .aload_n 0, 1), (1, .getfield 94, 3), (4, .iconst 1, 1), (5, .aload_n 0, 1), (6, .getfield 94, 3), (9, .iconst 0, 1), (10, .iaload, 1), (11, .iastore, 1), (12, .aload_n 0, 1), (13, .getfield 97, 3), (16, .iconst 1, 1), (17, .aload_n 0, 1), (18, .getfield 97, 3), (21, .iconst 0, 1), (22, .iaload, 1), (23, .iastore, 1), (24, .aload_n 0, 1), (25, .getfield 100, 3), (28, .iconst 1, 1), (29, .aload_n 0, 1), (30, .getfield 100, 3), (33, .iconst 0, 1), (34, .iaload, 1), (35, .iastore, 1), (36, .aload_n 0, 1), (37, .getfield 103, 3), (40, .iconst 1, 1), (41, .aload_n 0, 1), (42, .getfield 103, 3), (45, .iconst 0, 1), (46, .iaload, 1), (47, .iastore, 1), (48, .aload_n 0, 1), (49, .getfield 106, 3), (52, .iconst 1, 1), (53, .aload_n 0, 1), (54, .getfield 106, 3), (57, .iconst 0, 1), (58, .iaload, 1), (59, .iastore, 1), (60, .iconst 0, 1), (61, .istore_n 1, 1), (62, .iload_n 1, 1), (63, .bipush 8, 2), (65, .if_icmp .ge 24, 3), (68, .aload_n 0, 1), (69, .getfield 109, 3), (72, .bipush 8, 2), (74, .iload_n 1, 1), (75, .iadd, 1), (76, .aload_n 0, 1), (77, .getfield 109, 3), (80, .iload_n 1, 1), (81, .iaload, 1), (82, .iastore, 1), (83, .iinc 1 1, 3), (86, .goto (-24), 3), (89, .aload_n 0, 1), (90, .invokevirtual 391, 3), (93, .return_, 1)]
theorem DX11_layTried_0 : dAll cX11_layTried lDX11_layTried_0 = true := by decide +kernel
theorem dX11_layTried_0 : decode cX11_layTried 0 = .ok (.aload_n 0, 1) := dAt (x := (0, .aload_n 0, 1)) DX11_layTried_0 0 rfl
theorem dX11_layTried_1 : decode cX11_layTried 1 = .ok (.getfield 94, 3) := dAt (x := (1, .getfield 94, 3)) DX11_layTried_0 1 rfl
theorem dX11_layTried_4 : decode cX11_layTried 4 = .ok (.iconst 1, 1) := dAt (x := (4, .iconst 1, 1)) DX11_layTried_0 2 rfl
theorem dX11_layTried_5 : decode cX11_layTried 5 = .ok (.aload_n 0, 1) := dAt (x := (5, .aload_n 0, 1)) DX11_layTried_0 3 rfl
theorem dX11_layTried_6 : decode cX11_layTried 6 = .ok (.getfield 94, 3) := dAt (x := (6, .getfield 94, 3)) DX11_layTried_0 4 rfl
theorem dX11_layTried_9 : decode cX11_layTried 9 = .ok (.iconst 0, 1) := dAt (x := (9, .iconst 0, 1)) DX11_layTried_0 5 rfl
theorem dX11_layTried_10 : decode cX11_layTried 10 = .ok (.iaload, 1) := dAt (x := (10, .iaload, 1)) DX11_layTried_0 6 rfl
theorem dX11_layTried_11 : decode cX11_layTried 11 = .ok (.iastore, 1) := dAt (x := (11, .iastore, 1)) DX11_layTried_0 7 rfl
theorem dX11_layTried_12 : decode cX11_layTried 12 = .ok (.aload_n 0, 1) := dAt (x := (12, .aload_n 0, 1)) DX11_layTried_0 8 rfl
theorem dX11_layTried_13 : decode cX11_layTried 13 = .ok (.getfield 97, 3) := dAt (x := (13, .getfield 97, 3)) DX11_layTried_0 9 rfl
theorem dX11_layTried_16 : decode cX11_layTried 16 = .ok (.iconst 1, 1) := dAt (x := (16, .iconst 1, 1)) DX11_layTried_0 10 rfl
theorem dX11_layTried_17 : decode cX11_layTried 17 = .ok (.aload_n 0, 1) := dAt (x := (17, .aload_n 0, 1)) DX11_layTried_0 11 rfl
theorem dX11_layTried_18 : decode cX11_layTried 18 = .ok (.getfield 97, 3) := dAt (x := (18, .getfield 97, 3)) DX11_layTried_0 12 rfl
theorem dX11_layTried_21 : decode cX11_layTried 21 = .ok (.iconst 0, 1) := dAt (x := (21, .iconst 0, 1)) DX11_layTried_0 13 rfl
theorem dX11_layTried_22 : decode cX11_layTried 22 = .ok (.iaload, 1) := dAt (x := (22, .iaload, 1)) DX11_layTried_0 14 rfl
theorem dX11_layTried_23 : decode cX11_layTried 23 = .ok (.iastore, 1) := dAt (x := (23, .iastore, 1)) DX11_layTried_0 15 rfl
theorem dX11_layTried_24 : decode cX11_layTried 24 = .ok (.aload_n 0, 1) := dAt (x := (24, .aload_n 0, 1)) DX11_layTried_0 16 rfl
theorem dX11_layTried_25 : decode cX11_layTried 25 = .ok (.getfield 100, 3) := dAt (x := (25, .getfield 100, 3)) DX11_layTried_0 17 rfl
theorem dX11_layTried_28 : decode cX11_layTried 28 = .ok (.iconst 1, 1) := dAt (x := (28, .iconst 1, 1)) DX11_layTried_0 18 rfl
theorem dX11_layTried_29 : decode cX11_layTried 29 = .ok (.aload_n 0, 1) := dAt (x := (29, .aload_n 0, 1)) DX11_layTried_0 19 rfl
theorem dX11_layTried_30 : decode cX11_layTried 30 = .ok (.getfield 100, 3) := dAt (x := (30, .getfield 100, 3)) DX11_layTried_0 20 rfl
theorem dX11_layTried_33 : decode cX11_layTried 33 = .ok (.iconst 0, 1) := dAt (x := (33, .iconst 0, 1)) DX11_layTried_0 21 rfl
theorem dX11_layTried_34 : decode cX11_layTried 34 = .ok (.iaload, 1) := dAt (x := (34, .iaload, 1)) DX11_layTried_0 22 rfl
theorem dX11_layTried_35 : decode cX11_layTried 35 = .ok (.iastore, 1) := dAt (x := (35, .iastore, 1)) DX11_layTried_0 23 rfl
theorem dX11_layTried_36 : decode cX11_layTried 36 = .ok (.aload_n 0, 1) := dAt (x := (36, .aload_n 0, 1)) DX11_layTried_0 24 rfl
theorem dX11_layTried_37 : decode cX11_layTried 37 = .ok (.getfield 103, 3) := dAt (x := (37, .getfield 103, 3)) DX11_layTried_0 25 rfl
theorem dX11_layTried_40 : decode cX11_layTried 40 = .ok (.iconst 1, 1) := dAt (x := (40, .iconst 1, 1)) DX11_layTried_0 26 rfl
theorem dX11_layTried_41 : decode cX11_layTried 41 = .ok (.aload_n 0, 1) := dAt (x := (41, .aload_n 0, 1)) DX11_layTried_0 27 rfl
theorem dX11_layTried_42 : decode cX11_layTried 42 = .ok (.getfield 103, 3) := dAt (x := (42, .getfield 103, 3)) DX11_layTried_0 28 rfl
theorem dX11_layTried_45 : decode cX11_layTried 45 = .ok (.iconst 0, 1) := dAt (x := (45, .iconst 0, 1)) DX11_layTried_0 29 rfl
theorem dX11_layTried_46 : decode cX11_layTried 46 = .ok (.iaload, 1) := dAt (x := (46, .iaload, 1)) DX11_layTried_0 30 rfl
theorem dX11_layTried_47 : decode cX11_layTried 47 = .ok (.iastore, 1) := dAt (x := (47, .iastore, 1)) DX11_layTried_0 31 rfl
theorem dX11_layTried_48 : decode cX11_layTried 48 = .ok (.aload_n 0, 1) := dAt (x := (48, .aload_n 0, 1)) DX11_layTried_0 32 rfl
theorem dX11_layTried_49 : decode cX11_layTried 49 = .ok (.getfield 106, 3) := dAt (x := (49, .getfield 106, 3)) DX11_layTried_0 33 rfl
theorem dX11_layTried_52 : decode cX11_layTried 52 = .ok (.iconst 1, 1) := dAt (x := (52, .iconst 1, 1)) DX11_layTried_0 34 rfl
theorem dX11_layTried_53 : decode cX11_layTried 53 = .ok (.aload_n 0, 1) := dAt (x := (53, .aload_n 0, 1)) DX11_layTried_0 35 rfl
theorem dX11_layTried_54 : decode cX11_layTried 54 = .ok (.getfield 106, 3) := dAt (x := (54, .getfield 106, 3)) DX11_layTried_0 36 rfl
theorem dX11_layTried_57 : decode cX11_layTried 57 = .ok (.iconst 0, 1) := dAt (x := (57, .iconst 0, 1)) DX11_layTried_0 37 rfl
theorem dX11_layTried_58 : decode cX11_layTried 58 = .ok (.iaload, 1) := dAt (x := (58, .iaload, 1)) DX11_layTried_0 38 rfl
theorem dX11_layTried_59 : decode cX11_layTried 59 = .ok (.iastore, 1) := dAt (x := (59, .iastore, 1)) DX11_layTried_0 39 rfl
theorem dX11_layTried_60 : decode cX11_layTried 60 = .ok (.iconst 0, 1) := dAt (x := (60, .iconst 0, 1)) DX11_layTried_0 40 rfl
theorem dX11_layTried_61 : decode cX11_layTried 61 = .ok (.istore_n 1, 1) := dAt (x := (61, .istore_n 1, 1)) DX11_layTried_0 41 rfl
theorem dX11_layTried_62 : decode cX11_layTried 62 = .ok (.iload_n 1, 1) := dAt (x := (62, .iload_n 1, 1)) DX11_layTried_0 42 rfl
theorem dX11_layTried_63 : decode cX11_layTried 63 = .ok (.bipush 8, 2) := dAt (x := (63, .bipush 8, 2)) DX11_layTried_0 43 rfl
theorem dX11_layTried_65 : decode cX11_layTried 65 = .ok (.if_icmp .ge 24, 3) := dAt (x := (65, .if_icmp .ge 24, 3)) DX11_layTried_0 44 rfl
theorem dX11_layTried_68 : decode cX11_layTried 68 = .ok (.aload_n 0, 1) := dAt (x := (68, .aload_n 0, 1)) DX11_layTried_0 45 rfl
theorem dX11_layTried_69 : decode cX11_layTried 69 = .ok (.getfield 109, 3) := dAt (x := (69, .getfield 109, 3)) DX11_layTried_0 46 rfl
theorem dX11_layTried_72 : decode cX11_layTried 72 = .ok (.bipush 8, 2) := dAt (x := (72, .bipush 8, 2)) DX11_layTried_0 47 rfl
theorem dX11_layTried_74 : decode cX11_layTried 74 = .ok (.iload_n 1, 1) := dAt (x := (74, .iload_n 1, 1)) DX11_layTried_0 48 rfl
theorem dX11_layTried_75 : decode cX11_layTried 75 = .ok (.iadd, 1) := dAt (x := (75, .iadd, 1)) DX11_layTried_0 49 rfl
theorem dX11_layTried_76 : decode cX11_layTried 76 = .ok (.aload_n 0, 1) := dAt (x := (76, .aload_n 0, 1)) DX11_layTried_0 50 rfl
theorem dX11_layTried_77 : decode cX11_layTried 77 = .ok (.getfield 109, 3) := dAt (x := (77, .getfield 109, 3)) DX11_layTried_0 51 rfl
theorem dX11_layTried_80 : decode cX11_layTried 80 = .ok (.iload_n 1, 1) := dAt (x := (80, .iload_n 1, 1)) DX11_layTried_0 52 rfl
theorem dX11_layTried_81 : decode cX11_layTried 81 = .ok (.iaload, 1) := dAt (x := (81, .iaload, 1)) DX11_layTried_0 53 rfl
theorem dX11_layTried_82 : decode cX11_layTried 82 = .ok (.iastore, 1) := dAt (x := (82, .iastore, 1)) DX11_layTried_0 54 rfl
theorem dX11_layTried_83 : decode cX11_layTried 83 = .ok (.iinc 1 1, 3) := dAt (x := (83, .iinc 1 1, 3)) DX11_layTried_0 55 rfl
theorem dX11_layTried_86 : decode cX11_layTried 86 = .ok (.goto (-24), 3) := dAt (x := (86, .goto (-24), 3)) DX11_layTried_0 56 rfl
theorem dX11_layTried_89 : decode cX11_layTried 89 = .ok (.aload_n 0, 1) := dAt (x := (89, .aload_n 0, 1)) DX11_layTried_0 57 rfl
theorem dX11_layTried_90 : decode cX11_layTried 90 = .ok (.invokevirtual 391, 3) := dAt (x := (90, .invokevirtual 391, 3)) DX11_layTried_0 58 rfl
theorem dX11_layTried_93 : decode cX11_layTried 93 = .ok (.return_, 1) := dAt (x := (93, .return_, 1)) DX11_layTried_0 59 rfl
def lDX11_isLatch_0 : List (Nat × Instr × Nat) := [(0, .iload_n 1, 1), (1, .ifCond .lt 15, 3), (4, .iload_n 1, 1), (5, .aload_n 0, 1), (6, .getfield 240, 3), (9, .if_icmp .ge 7, 3), (12, .iconst 1, 1), (13, .goto 4, 3), (16, .iconst 0, 1), (17, .ireturn, 1)]
theorem DX11_isLatch_0 : dAll cX11_isLatch lDX11_isLatch_0 = true := by decide +kernel
theorem dX11_isLatch_0 : decode cX11_isLatch 0 = .ok (.iload_n 1, 1) := dAt (x := (0, .iload_n 1, 1)) DX11_isLatch_0 0 rfl
theorem dX11_isLatch_1 : decode cX11_isLatch 1 = .ok (.ifCond .lt 15, 3) := dAt (x := (1, .ifCond .lt 15, 3)) DX11_isLatch_0 1 rfl
theorem dX11_isLatch_4 : decode cX11_isLatch 4 = .ok (.iload_n 1, 1) := dAt (x := (4, .iload_n 1, 1)) DX11_isLatch_0 2 rfl
theorem dX11_isLatch_5 : decode cX11_isLatch 5 = .ok (.aload_n 0, 1) := dAt (x := (5, .aload_n 0, 1)) DX11_isLatch_0 3 rfl
theorem dX11_isLatch_6 : decode cX11_isLatch 6 = .ok (.getfield 240, 3) := dAt (x := (6, .getfield 240, 3)) DX11_isLatch_0 4 rfl
theorem dX11_isLatch_9 : decode cX11_isLatch 9 = .ok (.if_icmp .ge 7, 3) := dAt (x := (9, .if_icmp .ge 7, 3)) DX11_isLatch_0 5 rfl
theorem dX11_isLatch_12 : decode cX11_isLatch 12 = .ok (.iconst 1, 1) := dAt (x := (12, .iconst 1, 1)) DX11_isLatch_0 6 rfl
theorem dX11_isLatch_13 : decode cX11_isLatch 13 = .ok (.goto 4, 3) := dAt (x := (13, .goto 4, 3)) DX11_isLatch_0 7 rfl
theorem dX11_isLatch_16 : decode cX11_isLatch 16 = .ok (.iconst 0, 1) := dAt (x := (16, .iconst 0, 1)) DX11_isLatch_0 8 rfl
theorem dX11_isLatch_17 : decode cX11_isLatch 17 = .ok (.ireturn, 1) := dAt (x := (17, .ireturn, 1)) DX11_isLatch_0 9 rfl
def lDX11_isRow_0 : List (Nat × Instr × Nat) := [(0, .iload_n 1, 1), (1, .ifCond .lt 17, 3), (4, .iload_n 1, 1), (5, .iconst 1, 1), (6, .aload_n 0, 1), (7, .getfield 240, 3), (10, .ishl, 1), (11, .if_icmp .ge 7, 3), (14, .iconst 1, 1), (15, .goto 4, 3), (18, .iconst 0, 1), (19, .ireturn, 1)]
theorem DX11_isRow_0 : dAll cX11_isRow lDX11_isRow_0 = true := by decide +kernel
theorem dX11_isRow_0 : decode cX11_isRow 0 = .ok (.iload_n 1, 1) := dAt (x := (0, .iload_n 1, 1)) DX11_isRow_0 0 rfl
theorem dX11_isRow_1 : decode cX11_isRow 1 = .ok (.ifCond .lt 17, 3) := dAt (x := (1, .ifCond .lt 17, 3)) DX11_isRow_0 1 rfl
theorem dX11_isRow_4 : decode cX11_isRow 4 = .ok (.iload_n 1, 1) := dAt (x := (4, .iload_n 1, 1)) DX11_isRow_0 2 rfl
theorem dX11_isRow_5 : decode cX11_isRow 5 = .ok (.iconst 1, 1) := dAt (x := (5, .iconst 1, 1)) DX11_isRow_0 3 rfl
theorem dX11_isRow_6 : decode cX11_isRow 6 = .ok (.aload_n 0, 1) := dAt (x := (6, .aload_n 0, 1)) DX11_isRow_0 4 rfl
theorem dX11_isRow_7 : decode cX11_isRow 7 = .ok (.getfield 240, 3) := dAt (x := (7, .getfield 240, 3)) DX11_isRow_0 5 rfl
theorem dX11_isRow_10 : decode cX11_isRow 10 = .ok (.ishl, 1) := dAt (x := (10, .ishl, 1)) DX11_isRow_0 6 rfl
theorem dX11_isRow_11 : decode cX11_isRow 11 = .ok (.if_icmp .ge 7, 3) := dAt (x := (11, .if_icmp .ge 7, 3)) DX11_isRow_0 7 rfl
theorem dX11_isRow_14 : decode cX11_isRow 14 = .ok (.iconst 1, 1) := dAt (x := (14, .iconst 1, 1)) DX11_isRow_0 8 rfl
theorem dX11_isRow_15 : decode cX11_isRow 15 = .ok (.goto 4, 3) := dAt (x := (15, .goto 4, 3)) DX11_isRow_0 9 rfl
theorem dX11_isRow_18 : decode cX11_isRow 18 = .ok (.iconst 0, 1) := dAt (x := (18, .iconst 0, 1)) DX11_isRow_0 10 rfl
theorem dX11_isRow_19 : decode cX11_isRow 19 = .ok (.ireturn, 1) := dAt (x := (19, .ireturn, 1)) DX11_isRow_0 11 rfl
def lDX11_canNow_0 : List (Nat × Instr × Nat) := [(0, .aload_n 0, 1), (1, .getfield 409, 3), (4, .ifCond .eq 9, 3), (7, .sipush 255, 3), (10, .goto 14, 3), (13, .aload_n 0, 1), (14, .getfield 88, 3), (17, .aload_n 0, 1), (18, .getfield 94, 3), (21, .iload_n 1, 1), (22, .iaload, 1), (23, .iaload, 1), (24, .aload_n 0, 1), (25, .getfield 97, 3), (28, .iload_n 1, 1), (29, .iaload, 1), (30, .iconst (-1), 1), (31, .ixor, 1), (32, .iand, 1), (33, .ireturn, 1)]
theorem DX11_canNow_0 : dAll cX11_canNow lDX11_canNow_0 = true := by decide +kernel
theorem dX11_canNow_0 : decode cX11_canNow 0 = .ok (.aload_n 0, 1) := dAt (x := (0, .aload_n 0, 1)) DX11_canNow_0 0 rfl
theorem dX11_canNow_1 : decode cX11_canNow 1 = .ok (.getfield 409, 3) := dAt (x := (1, .getfield 409, 3)) DX11_canNow_0 1 rfl
theorem dX11_canNow_4 : decode cX11_canNow 4 = .ok (.ifCond .eq 9, 3) := dAt (x := (4, .ifCond .eq 9, 3)) DX11_canNow_0 2 rfl
theorem dX11_canNow_7 : decode cX11_canNow 7 = .ok (.sipush 255, 3) := dAt (x := (7, .sipush 255, 3)) DX11_canNow_0 3 rfl
theorem dX11_canNow_10 : decode cX11_canNow 10 = .ok (.goto 14, 3) := dAt (x := (10, .goto 14, 3)) DX11_canNow_0 4 rfl
theorem dX11_canNow_13 : decode cX11_canNow 13 = .ok (.aload_n 0, 1) := dAt (x := (13, .aload_n 0, 1)) DX11_canNow_0 5 rfl
theorem dX11_canNow_14 : decode cX11_canNow 14 = .ok (.getfield 88, 3) := dAt (x := (14, .getfield 88, 3)) DX11_canNow_0 6 rfl
theorem dX11_canNow_17 : decode cX11_canNow 17 = .ok (.aload_n 0, 1) := dAt (x := (17, .aload_n 0, 1)) DX11_canNow_0 7 rfl
theorem dX11_canNow_18 : decode cX11_canNow 18 = .ok (.getfield 94, 3) := dAt (x := (18, .getfield 94, 3)) DX11_canNow_0 8 rfl
theorem dX11_canNow_21 : decode cX11_canNow 21 = .ok (.iload_n 1, 1) := dAt (x := (21, .iload_n 1, 1)) DX11_canNow_0 9 rfl
theorem dX11_canNow_22 : decode cX11_canNow 22 = .ok (.iaload, 1) := dAt (x := (22, .iaload, 1)) DX11_canNow_0 10 rfl
theorem dX11_canNow_23 : decode cX11_canNow 23 = .ok (.iaload, 1) := dAt (x := (23, .iaload, 1)) DX11_canNow_0 11 rfl
theorem dX11_canNow_24 : decode cX11_canNow 24 = .ok (.aload_n 0, 1) := dAt (x := (24, .aload_n 0, 1)) DX11_canNow_0 12 rfl
theorem dX11_canNow_25 : decode cX11_canNow 25 = .ok (.getfield 97, 3) := dAt (x := (25, .getfield 97, 3)) DX11_canNow_0 13 rfl
theorem dX11_canNow_28 : decode cX11_canNow 28 = .ok (.iload_n 1, 1) := dAt (x := (28, .iload_n 1, 1)) DX11_canNow_0 14 rfl
theorem dX11_canNow_29 : decode cX11_canNow 29 = .ok (.iaload, 1) := dAt (x := (29, .iaload, 1)) DX11_canNow_0 15 rfl
theorem dX11_canNow_30 : decode cX11_canNow 30 = .ok (.iconst (-1), 1) := dAt (x := (30, .iconst (-1), 1)) DX11_canNow_0 16 rfl
theorem dX11_canNow_31 : decode cX11_canNow 31 = .ok (.ixor, 1) := dAt (x := (31, .ixor, 1)) DX11_canNow_0 17 rfl
theorem dX11_canNow_32 : decode cX11_canNow 32 = .ok (.iand, 1) := dAt (x := (32, .iand, 1)) DX11_canNow_0 18 rfl
theorem dX11_canNow_33 : decode cX11_canNow 33 = .ok (.ireturn, 1) := dAt (x := (33, .ireturn, 1)) DX11_canNow_0 19 rfl
def lDX11_lay_0 : List (Nat × Instr × Nat) := [(0, .aload_n 0, 1), (1, .getfield 81, 3), (4, .iconst 0, 1), (5, .aload_n 0, 1), (6, .getfield 109, 3), (9, .bipush 8, 2), (11, .iload_n 1, 1), (12, .imul, 1), (13, .iload_n 2, 1), (14, .iadd, 1), (15, .iaload, 1), (16, .i2l, 1), (17, .lastore, 1), (18, .aload_n 0, 1), (19, .getfield 81, 3), (22, .iconst 1, 1), (23, .iload_n 2, 1), (24, .i2l, 1), (25, .lastore, 1), (26, .aload_n 0, 1), (27, .getfield 81, 3), (30, .iconst 2, 1), (31, .aload_n 0, 1), (32, .getfield 94, 3), (35, .iload_n 1, 1), (36, .iaload, 1), (37, .invokestatic 381, 3), (40, .i2l, 1), (41, .lastore, 1), (42, .aload_n 0, 1), (43, .getfield 81, 3), (46, .iconst 3, 1), (47, .aload_n 0, 1), (48, .getfield 97, 3), (51, .iload_n 1, 1), (52, .iaload, 1), (53, .invokestatic 381, 3), (56, .i2l, 1), (57, .lastore, 1), (58, .aload_n 0, 1), (59, .getfield 81, 3), (62, .iconst 4, 1), (63, .aload_n 0, 1), (64, .getfield 94, 3), (67, .iload_n 1, 1), (68, .iaload, 1), (69, .iload_n 2, 1), (70, .ishr, 1), (71, .iconst 1, 1), (72, .iand, 1), (73, .i2l, 1), (74, .lastore, 1), (75, .aload_n 0, 1), (76, .getfield 81, 3), (79, .iconst 5, 1), (80, .aload_n 0, 1), (81, .getfield 100, 3), (84, .iload_n 1, 1), (85, .iaload, 1), (86, .i2l, 1)]
theorem DX11_lay_0 : dAll cX11_lay lDX11_lay_0 = true := by decide +kernel
theorem dX11_lay_0 : decode cX11_lay 0 = .ok (.aload_n 0, 1) := dAt (x := (0, .aload_n 0, 1)) DX11_lay_0 0 rfl
theorem dX11_lay_1 : decode cX11_lay 1 = .ok (.getfield 81, 3) := dAt (x := (1, .getfield 81, 3)) DX11_lay_0 1 rfl
theorem dX11_lay_4 : decode cX11_lay 4 = .ok (.iconst 0, 1) := dAt (x := (4, .iconst 0, 1)) DX11_lay_0 2 rfl
theorem dX11_lay_5 : decode cX11_lay 5 = .ok (.aload_n 0, 1) := dAt (x := (5, .aload_n 0, 1)) DX11_lay_0 3 rfl
theorem dX11_lay_6 : decode cX11_lay 6 = .ok (.getfield 109, 3) := dAt (x := (6, .getfield 109, 3)) DX11_lay_0 4 rfl
theorem dX11_lay_9 : decode cX11_lay 9 = .ok (.bipush 8, 2) := dAt (x := (9, .bipush 8, 2)) DX11_lay_0 5 rfl
theorem dX11_lay_11 : decode cX11_lay 11 = .ok (.iload_n 1, 1) := dAt (x := (11, .iload_n 1, 1)) DX11_lay_0 6 rfl
theorem dX11_lay_12 : decode cX11_lay 12 = .ok (.imul, 1) := dAt (x := (12, .imul, 1)) DX11_lay_0 7 rfl
theorem dX11_lay_13 : decode cX11_lay 13 = .ok (.iload_n 2, 1) := dAt (x := (13, .iload_n 2, 1)) DX11_lay_0 8 rfl
theorem dX11_lay_14 : decode cX11_lay 14 = .ok (.iadd, 1) := dAt (x := (14, .iadd, 1)) DX11_lay_0 9 rfl
theorem dX11_lay_15 : decode cX11_lay 15 = .ok (.iaload, 1) := dAt (x := (15, .iaload, 1)) DX11_lay_0 10 rfl
theorem dX11_lay_16 : decode cX11_lay 16 = .ok (.i2l, 1) := dAt (x := (16, .i2l, 1)) DX11_lay_0 11 rfl
theorem dX11_lay_17 : decode cX11_lay 17 = .ok (.lastore, 1) := dAt (x := (17, .lastore, 1)) DX11_lay_0 12 rfl
theorem dX11_lay_18 : decode cX11_lay 18 = .ok (.aload_n 0, 1) := dAt (x := (18, .aload_n 0, 1)) DX11_lay_0 13 rfl
theorem dX11_lay_19 : decode cX11_lay 19 = .ok (.getfield 81, 3) := dAt (x := (19, .getfield 81, 3)) DX11_lay_0 14 rfl
theorem dX11_lay_22 : decode cX11_lay 22 = .ok (.iconst 1, 1) := dAt (x := (22, .iconst 1, 1)) DX11_lay_0 15 rfl
theorem dX11_lay_23 : decode cX11_lay 23 = .ok (.iload_n 2, 1) := dAt (x := (23, .iload_n 2, 1)) DX11_lay_0 16 rfl
theorem dX11_lay_24 : decode cX11_lay 24 = .ok (.i2l, 1) := dAt (x := (24, .i2l, 1)) DX11_lay_0 17 rfl
theorem dX11_lay_25 : decode cX11_lay 25 = .ok (.lastore, 1) := dAt (x := (25, .lastore, 1)) DX11_lay_0 18 rfl
theorem dX11_lay_26 : decode cX11_lay 26 = .ok (.aload_n 0, 1) := dAt (x := (26, .aload_n 0, 1)) DX11_lay_0 19 rfl
theorem dX11_lay_27 : decode cX11_lay 27 = .ok (.getfield 81, 3) := dAt (x := (27, .getfield 81, 3)) DX11_lay_0 20 rfl
theorem dX11_lay_30 : decode cX11_lay 30 = .ok (.iconst 2, 1) := dAt (x := (30, .iconst 2, 1)) DX11_lay_0 21 rfl
theorem dX11_lay_31 : decode cX11_lay 31 = .ok (.aload_n 0, 1) := dAt (x := (31, .aload_n 0, 1)) DX11_lay_0 22 rfl
theorem dX11_lay_32 : decode cX11_lay 32 = .ok (.getfield 94, 3) := dAt (x := (32, .getfield 94, 3)) DX11_lay_0 23 rfl
theorem dX11_lay_35 : decode cX11_lay 35 = .ok (.iload_n 1, 1) := dAt (x := (35, .iload_n 1, 1)) DX11_lay_0 24 rfl
theorem dX11_lay_36 : decode cX11_lay 36 = .ok (.iaload, 1) := dAt (x := (36, .iaload, 1)) DX11_lay_0 25 rfl
theorem dX11_lay_37 : decode cX11_lay 37 = .ok (.invokestatic 381, 3) := dAt (x := (37, .invokestatic 381, 3)) DX11_lay_0 26 rfl
theorem dX11_lay_40 : decode cX11_lay 40 = .ok (.i2l, 1) := dAt (x := (40, .i2l, 1)) DX11_lay_0 27 rfl
theorem dX11_lay_41 : decode cX11_lay 41 = .ok (.lastore, 1) := dAt (x := (41, .lastore, 1)) DX11_lay_0 28 rfl
theorem dX11_lay_42 : decode cX11_lay 42 = .ok (.aload_n 0, 1) := dAt (x := (42, .aload_n 0, 1)) DX11_lay_0 29 rfl
theorem dX11_lay_43 : decode cX11_lay 43 = .ok (.getfield 81, 3) := dAt (x := (43, .getfield 81, 3)) DX11_lay_0 30 rfl
theorem dX11_lay_46 : decode cX11_lay 46 = .ok (.iconst 3, 1) := dAt (x := (46, .iconst 3, 1)) DX11_lay_0 31 rfl
theorem dX11_lay_47 : decode cX11_lay 47 = .ok (.aload_n 0, 1) := dAt (x := (47, .aload_n 0, 1)) DX11_lay_0 32 rfl
theorem dX11_lay_48 : decode cX11_lay 48 = .ok (.getfield 97, 3) := dAt (x := (48, .getfield 97, 3)) DX11_lay_0 33 rfl
theorem dX11_lay_51 : decode cX11_lay 51 = .ok (.iload_n 1, 1) := dAt (x := (51, .iload_n 1, 1)) DX11_lay_0 34 rfl
theorem dX11_lay_52 : decode cX11_lay 52 = .ok (.iaload, 1) := dAt (x := (52, .iaload, 1)) DX11_lay_0 35 rfl
theorem dX11_lay_53 : decode cX11_lay 53 = .ok (.invokestatic 381, 3) := dAt (x := (53, .invokestatic 381, 3)) DX11_lay_0 36 rfl
theorem dX11_lay_56 : decode cX11_lay 56 = .ok (.i2l, 1) := dAt (x := (56, .i2l, 1)) DX11_lay_0 37 rfl
theorem dX11_lay_57 : decode cX11_lay 57 = .ok (.lastore, 1) := dAt (x := (57, .lastore, 1)) DX11_lay_0 38 rfl
theorem dX11_lay_58 : decode cX11_lay 58 = .ok (.aload_n 0, 1) := dAt (x := (58, .aload_n 0, 1)) DX11_lay_0 39 rfl
theorem dX11_lay_59 : decode cX11_lay 59 = .ok (.getfield 81, 3) := dAt (x := (59, .getfield 81, 3)) DX11_lay_0 40 rfl
theorem dX11_lay_62 : decode cX11_lay 62 = .ok (.iconst 4, 1) := dAt (x := (62, .iconst 4, 1)) DX11_lay_0 41 rfl
theorem dX11_lay_63 : decode cX11_lay 63 = .ok (.aload_n 0, 1) := dAt (x := (63, .aload_n 0, 1)) DX11_lay_0 42 rfl
theorem dX11_lay_64 : decode cX11_lay 64 = .ok (.getfield 94, 3) := dAt (x := (64, .getfield 94, 3)) DX11_lay_0 43 rfl
theorem dX11_lay_67 : decode cX11_lay 67 = .ok (.iload_n 1, 1) := dAt (x := (67, .iload_n 1, 1)) DX11_lay_0 44 rfl
theorem dX11_lay_68 : decode cX11_lay 68 = .ok (.iaload, 1) := dAt (x := (68, .iaload, 1)) DX11_lay_0 45 rfl
theorem dX11_lay_69 : decode cX11_lay 69 = .ok (.iload_n 2, 1) := dAt (x := (69, .iload_n 2, 1)) DX11_lay_0 46 rfl
theorem dX11_lay_70 : decode cX11_lay 70 = .ok (.ishr, 1) := dAt (x := (70, .ishr, 1)) DX11_lay_0 47 rfl
theorem dX11_lay_71 : decode cX11_lay 71 = .ok (.iconst 1, 1) := dAt (x := (71, .iconst 1, 1)) DX11_lay_0 48 rfl
theorem dX11_lay_72 : decode cX11_lay 72 = .ok (.iand, 1) := dAt (x := (72, .iand, 1)) DX11_lay_0 49 rfl
theorem dX11_lay_73 : decode cX11_lay 73 = .ok (.i2l, 1) := dAt (x := (73, .i2l, 1)) DX11_lay_0 50 rfl
theorem dX11_lay_74 : decode cX11_lay 74 = .ok (.lastore, 1) := dAt (x := (74, .lastore, 1)) DX11_lay_0 51 rfl
theorem dX11_lay_75 : decode cX11_lay 75 = .ok (.aload_n 0, 1) := dAt (x := (75, .aload_n 0, 1)) DX11_lay_0 52 rfl
theorem dX11_lay_76 : decode cX11_lay 76 = .ok (.getfield 81, 3) := dAt (x := (76, .getfield 81, 3)) DX11_lay_0 53 rfl
theorem dX11_lay_79 : decode cX11_lay 79 = .ok (.iconst 5, 1) := dAt (x := (79, .iconst 5, 1)) DX11_lay_0 54 rfl
theorem dX11_lay_80 : decode cX11_lay 80 = .ok (.aload_n 0, 1) := dAt (x := (80, .aload_n 0, 1)) DX11_lay_0 55 rfl
theorem dX11_lay_81 : decode cX11_lay 81 = .ok (.getfield 100, 3) := dAt (x := (81, .getfield 100, 3)) DX11_lay_0 56 rfl
theorem dX11_lay_84 : decode cX11_lay 84 = .ok (.iload_n 1, 1) := dAt (x := (84, .iload_n 1, 1)) DX11_lay_0 57 rfl
theorem dX11_lay_85 : decode cX11_lay 85 = .ok (.iaload, 1) := dAt (x := (85, .iaload, 1)) DX11_lay_0 58 rfl
theorem dX11_lay_86 : decode cX11_lay 86 = .ok (.i2l, 1) := dAt (x := (86, .i2l, 1)) DX11_lay_0 59 rfl
def lDX11_lay_1 : List (Nat × Instr × Nat) := [(87, .lastore, 1), (88, .aload_n 0, 1), (89, .getfield 81, 3), (92, .bipush 6, 2), (94, .aload_n 0, 1), (95, .getfield 106, 3), (98, .iload_n 1, 1), (99, .iaload, 1), (100, .i2l, 1), (101, .lastore, 1), (102, .return_, 1)]
theorem DX11_lay_1 : dAll cX11_lay lDX11_lay_1 = true := by decide +kernel
theorem dX11_lay_87 : decode cX11_lay 87 = .ok (.lastore, 1) := dAt (x := (87, .lastore, 1)) DX11_lay_1 0 rfl
theorem dX11_lay_88 : decode cX11_lay 88 = .ok (.aload_n 0, 1) := dAt (x := (88, .aload_n 0, 1)) DX11_lay_1 1 rfl
theorem dX11_lay_89 : decode cX11_lay 89 = .ok (.getfield 81, 3) := dAt (x := (89, .getfield 81, 3)) DX11_lay_1 2 rfl
theorem dX11_lay_92 : decode cX11_lay 92 = .ok (.bipush 6, 2) := dAt (x := (92, .bipush 6, 2)) DX11_lay_1 3 rfl
theorem dX11_lay_94 : decode cX11_lay 94 = .ok (.aload_n 0, 1) := dAt (x := (94, .aload_n 0, 1)) DX11_lay_1 4 rfl
theorem dX11_lay_95 : decode cX11_lay 95 = .ok (.getfield 106, 3) := dAt (x := (95, .getfield 106, 3)) DX11_lay_1 5 rfl
theorem dX11_lay_98 : decode cX11_lay 98 = .ok (.iload_n 1, 1) := dAt (x := (98, .iload_n 1, 1)) DX11_lay_1 6 rfl
theorem dX11_lay_99 : decode cX11_lay 99 = .ok (.iaload, 1) := dAt (x := (99, .iaload, 1)) DX11_lay_1 7 rfl
theorem dX11_lay_100 : decode cX11_lay 100 = .ok (.i2l, 1) := dAt (x := (100, .i2l, 1)) DX11_lay_1 8 rfl
theorem dX11_lay_101 : decode cX11_lay 101 = .ok (.lastore, 1) := dAt (x := (101, .lastore, 1)) DX11_lay_1 9 rfl
theorem dX11_lay_102 : decode cX11_lay 102 = .ok (.return_, 1) := dAt (x := (102, .return_, 1)) DX11_lay_1 10 rfl
def lDX11_lawOf_0 : List (Nat × Instr × Nat) := [(0, .aload_n 0, 1), (1, .iconst 0, 1), (2, .putfield 347, 3), (5, .aload_n 0, 1), (6, .getfield 60, 3), (9, .iload_n 1, 1), (10, .iaload, 1), (11, .istore_n 2, 1), (12, .iload_n 2, 1), (13, .aload_n 0, 1), (14, .getfield 63, 3), (17, .iload_n 1, 1), (18, .iaload, 1), (19, .if_icmp .ge 20, 3), (22, .aload_n 0, 1), (23, .getfield 85, 3), (26, .iload_n 2, 1), (27, .aload_n 0, 1), (28, .iload_n 2, 1), (29, .invokevirtual 421, 3), (32, .lastore, 1), (33, .iinc 2 1, 3), (36, .goto (-24), 3), (39, .aload_n 0, 1), (40, .getfield 347, 3), (43, .ifCond .eq 7, 3), (46, .lconst 0, 1), (47, .goto 16, 3), (50, .aload_n 0, 1), (51, .getfield 85, 3), (54, .aload_n 0, 1), (55, .getfield 63, 3), (58, .iload_n 1, 1), (59, .iaload, 1), (60, .iconst 1, 1), (61, .isub, 1), (62, .laload, 1), (63, .lreturn, 1)]
theorem DX11_lawOf_0 : dAll cX11_lawOf lDX11_lawOf_0 = true := by decide +kernel
theorem dX11_lawOf_0 : decode cX11_lawOf 0 = .ok (.aload_n 0, 1) := dAt (x := (0, .aload_n 0, 1)) DX11_lawOf_0 0 rfl
theorem dX11_lawOf_1 : decode cX11_lawOf 1 = .ok (.iconst 0, 1) := dAt (x := (1, .iconst 0, 1)) DX11_lawOf_0 1 rfl
theorem dX11_lawOf_2 : decode cX11_lawOf 2 = .ok (.putfield 347, 3) := dAt (x := (2, .putfield 347, 3)) DX11_lawOf_0 2 rfl
theorem dX11_lawOf_5 : decode cX11_lawOf 5 = .ok (.aload_n 0, 1) := dAt (x := (5, .aload_n 0, 1)) DX11_lawOf_0 3 rfl
theorem dX11_lawOf_6 : decode cX11_lawOf 6 = .ok (.getfield 60, 3) := dAt (x := (6, .getfield 60, 3)) DX11_lawOf_0 4 rfl
theorem dX11_lawOf_9 : decode cX11_lawOf 9 = .ok (.iload_n 1, 1) := dAt (x := (9, .iload_n 1, 1)) DX11_lawOf_0 5 rfl
theorem dX11_lawOf_10 : decode cX11_lawOf 10 = .ok (.iaload, 1) := dAt (x := (10, .iaload, 1)) DX11_lawOf_0 6 rfl
theorem dX11_lawOf_11 : decode cX11_lawOf 11 = .ok (.istore_n 2, 1) := dAt (x := (11, .istore_n 2, 1)) DX11_lawOf_0 7 rfl
theorem dX11_lawOf_12 : decode cX11_lawOf 12 = .ok (.iload_n 2, 1) := dAt (x := (12, .iload_n 2, 1)) DX11_lawOf_0 8 rfl
theorem dX11_lawOf_13 : decode cX11_lawOf 13 = .ok (.aload_n 0, 1) := dAt (x := (13, .aload_n 0, 1)) DX11_lawOf_0 9 rfl
theorem dX11_lawOf_14 : decode cX11_lawOf 14 = .ok (.getfield 63, 3) := dAt (x := (14, .getfield 63, 3)) DX11_lawOf_0 10 rfl
theorem dX11_lawOf_17 : decode cX11_lawOf 17 = .ok (.iload_n 1, 1) := dAt (x := (17, .iload_n 1, 1)) DX11_lawOf_0 11 rfl
theorem dX11_lawOf_18 : decode cX11_lawOf 18 = .ok (.iaload, 1) := dAt (x := (18, .iaload, 1)) DX11_lawOf_0 12 rfl
theorem dX11_lawOf_19 : decode cX11_lawOf 19 = .ok (.if_icmp .ge 20, 3) := dAt (x := (19, .if_icmp .ge 20, 3)) DX11_lawOf_0 13 rfl
theorem dX11_lawOf_22 : decode cX11_lawOf 22 = .ok (.aload_n 0, 1) := dAt (x := (22, .aload_n 0, 1)) DX11_lawOf_0 14 rfl
theorem dX11_lawOf_23 : decode cX11_lawOf 23 = .ok (.getfield 85, 3) := dAt (x := (23, .getfield 85, 3)) DX11_lawOf_0 15 rfl
theorem dX11_lawOf_26 : decode cX11_lawOf 26 = .ok (.iload_n 2, 1) := dAt (x := (26, .iload_n 2, 1)) DX11_lawOf_0 16 rfl
theorem dX11_lawOf_27 : decode cX11_lawOf 27 = .ok (.aload_n 0, 1) := dAt (x := (27, .aload_n 0, 1)) DX11_lawOf_0 17 rfl
theorem dX11_lawOf_28 : decode cX11_lawOf 28 = .ok (.iload_n 2, 1) := dAt (x := (28, .iload_n 2, 1)) DX11_lawOf_0 18 rfl
theorem dX11_lawOf_29 : decode cX11_lawOf 29 = .ok (.invokevirtual 421, 3) := dAt (x := (29, .invokevirtual 421, 3)) DX11_lawOf_0 19 rfl
theorem dX11_lawOf_32 : decode cX11_lawOf 32 = .ok (.lastore, 1) := dAt (x := (32, .lastore, 1)) DX11_lawOf_0 20 rfl
theorem dX11_lawOf_33 : decode cX11_lawOf 33 = .ok (.iinc 2 1, 3) := dAt (x := (33, .iinc 2 1, 3)) DX11_lawOf_0 21 rfl
theorem dX11_lawOf_36 : decode cX11_lawOf 36 = .ok (.goto (-24), 3) := dAt (x := (36, .goto (-24), 3)) DX11_lawOf_0 22 rfl
theorem dX11_lawOf_39 : decode cX11_lawOf 39 = .ok (.aload_n 0, 1) := dAt (x := (39, .aload_n 0, 1)) DX11_lawOf_0 23 rfl
theorem dX11_lawOf_40 : decode cX11_lawOf 40 = .ok (.getfield 347, 3) := dAt (x := (40, .getfield 347, 3)) DX11_lawOf_0 24 rfl
theorem dX11_lawOf_43 : decode cX11_lawOf 43 = .ok (.ifCond .eq 7, 3) := dAt (x := (43, .ifCond .eq 7, 3)) DX11_lawOf_0 25 rfl
theorem dX11_lawOf_46 : decode cX11_lawOf 46 = .ok (.lconst 0, 1) := dAt (x := (46, .lconst 0, 1)) DX11_lawOf_0 26 rfl
theorem dX11_lawOf_47 : decode cX11_lawOf 47 = .ok (.goto 16, 3) := dAt (x := (47, .goto 16, 3)) DX11_lawOf_0 27 rfl
theorem dX11_lawOf_50 : decode cX11_lawOf 50 = .ok (.aload_n 0, 1) := dAt (x := (50, .aload_n 0, 1)) DX11_lawOf_0 28 rfl
theorem dX11_lawOf_51 : decode cX11_lawOf 51 = .ok (.getfield 85, 3) := dAt (x := (51, .getfield 85, 3)) DX11_lawOf_0 29 rfl
theorem dX11_lawOf_54 : decode cX11_lawOf 54 = .ok (.aload_n 0, 1) := dAt (x := (54, .aload_n 0, 1)) DX11_lawOf_0 30 rfl
theorem dX11_lawOf_55 : decode cX11_lawOf 55 = .ok (.getfield 63, 3) := dAt (x := (55, .getfield 63, 3)) DX11_lawOf_0 31 rfl
theorem dX11_lawOf_58 : decode cX11_lawOf 58 = .ok (.iload_n 1, 1) := dAt (x := (58, .iload_n 1, 1)) DX11_lawOf_0 32 rfl
theorem dX11_lawOf_59 : decode cX11_lawOf 59 = .ok (.iaload, 1) := dAt (x := (59, .iaload, 1)) DX11_lawOf_0 33 rfl
theorem dX11_lawOf_60 : decode cX11_lawOf 60 = .ok (.iconst 1, 1) := dAt (x := (60, .iconst 1, 1)) DX11_lawOf_0 34 rfl
theorem dX11_lawOf_61 : decode cX11_lawOf 61 = .ok (.isub, 1) := dAt (x := (61, .isub, 1)) DX11_lawOf_0 35 rfl
theorem dX11_lawOf_62 : decode cX11_lawOf 62 = .ok (.laload, 1) := dAt (x := (62, .laload, 1)) DX11_lawOf_0 36 rfl
theorem dX11_lawOf_63 : decode cX11_lawOf 63 = .ok (.lreturn, 1) := dAt (x := (63, .lreturn, 1)) DX11_lawOf_0 37 rfl
def lDX11_boundLaw_0 : List (Nat × Instr × Nat) := [(0, .aload_n 0, 1), (1, .getfield 57, 3), (4, .iload_n 1, 1), (5, .baload, 1), (6, .ifCond .ne 5, 3), (9, .iload_n 2, 1), (10, .ireturn, 1), (11, .aload_n 0, 1), (12, .iload_n 1, 1), (13, .invokevirtual 425, 3), (16, .lstore 4, 2), (18, .aload_n 0, 1), (19, .getfield 347, 3), (22, .ifCond .eq 5, 3), (25, .iload_n 2, 1), (26, .ireturn, 1), (27, .lload 4, 2), (29, .lconst 0, 1), (30, .lcmp, 1), (31, .ifCond .ge 7, 3), (34, .iconst 0, 1), (35, .goto 18, 3), (38, .lload 4, 2), (40, .iload_n 3, 1), (41, .i2l, 1), (42, .lcmp, 1), (43, .ifCond .le 7, 3), (46, .iload_n 3, 1), (47, .goto 6, 3), (50, .lload 4, 2), (52, .l2i, 1), (53, .ireturn, 1)]
theorem DX11_boundLaw_0 : dAll cX11_boundLaw lDX11_boundLaw_0 = true := by decide +kernel
theorem dX11_boundLaw_0 : decode cX11_boundLaw 0 = .ok (.aload_n 0, 1) := dAt (x := (0, .aload_n 0, 1)) DX11_boundLaw_0 0 rfl
theorem dX11_boundLaw_1 : decode cX11_boundLaw 1 = .ok (.getfield 57, 3) := dAt (x := (1, .getfield 57, 3)) DX11_boundLaw_0 1 rfl
theorem dX11_boundLaw_4 : decode cX11_boundLaw 4 = .ok (.iload_n 1, 1) := dAt (x := (4, .iload_n 1, 1)) DX11_boundLaw_0 2 rfl
theorem dX11_boundLaw_5 : decode cX11_boundLaw 5 = .ok (.baload, 1) := dAt (x := (5, .baload, 1)) DX11_boundLaw_0 3 rfl
theorem dX11_boundLaw_6 : decode cX11_boundLaw 6 = .ok (.ifCond .ne 5, 3) := dAt (x := (6, .ifCond .ne 5, 3)) DX11_boundLaw_0 4 rfl
theorem dX11_boundLaw_9 : decode cX11_boundLaw 9 = .ok (.iload_n 2, 1) := dAt (x := (9, .iload_n 2, 1)) DX11_boundLaw_0 5 rfl
theorem dX11_boundLaw_10 : decode cX11_boundLaw 10 = .ok (.ireturn, 1) := dAt (x := (10, .ireturn, 1)) DX11_boundLaw_0 6 rfl
theorem dX11_boundLaw_11 : decode cX11_boundLaw 11 = .ok (.aload_n 0, 1) := dAt (x := (11, .aload_n 0, 1)) DX11_boundLaw_0 7 rfl
theorem dX11_boundLaw_12 : decode cX11_boundLaw 12 = .ok (.iload_n 1, 1) := dAt (x := (12, .iload_n 1, 1)) DX11_boundLaw_0 8 rfl
theorem dX11_boundLaw_13 : decode cX11_boundLaw 13 = .ok (.invokevirtual 425, 3) := dAt (x := (13, .invokevirtual 425, 3)) DX11_boundLaw_0 9 rfl
theorem dX11_boundLaw_16 : decode cX11_boundLaw 16 = .ok (.lstore 4, 2) := dAt (x := (16, .lstore 4, 2)) DX11_boundLaw_0 10 rfl
theorem dX11_boundLaw_18 : decode cX11_boundLaw 18 = .ok (.aload_n 0, 1) := dAt (x := (18, .aload_n 0, 1)) DX11_boundLaw_0 11 rfl
theorem dX11_boundLaw_19 : decode cX11_boundLaw 19 = .ok (.getfield 347, 3) := dAt (x := (19, .getfield 347, 3)) DX11_boundLaw_0 12 rfl
theorem dX11_boundLaw_22 : decode cX11_boundLaw 22 = .ok (.ifCond .eq 5, 3) := dAt (x := (22, .ifCond .eq 5, 3)) DX11_boundLaw_0 13 rfl
theorem dX11_boundLaw_25 : decode cX11_boundLaw 25 = .ok (.iload_n 2, 1) := dAt (x := (25, .iload_n 2, 1)) DX11_boundLaw_0 14 rfl
theorem dX11_boundLaw_26 : decode cX11_boundLaw 26 = .ok (.ireturn, 1) := dAt (x := (26, .ireturn, 1)) DX11_boundLaw_0 15 rfl
theorem dX11_boundLaw_27 : decode cX11_boundLaw 27 = .ok (.lload 4, 2) := dAt (x := (27, .lload 4, 2)) DX11_boundLaw_0 16 rfl
theorem dX11_boundLaw_29 : decode cX11_boundLaw 29 = .ok (.lconst 0, 1) := dAt (x := (29, .lconst 0, 1)) DX11_boundLaw_0 17 rfl
theorem dX11_boundLaw_30 : decode cX11_boundLaw 30 = .ok (.lcmp, 1) := dAt (x := (30, .lcmp, 1)) DX11_boundLaw_0 18 rfl
theorem dX11_boundLaw_31 : decode cX11_boundLaw 31 = .ok (.ifCond .ge 7, 3) := dAt (x := (31, .ifCond .ge 7, 3)) DX11_boundLaw_0 19 rfl
theorem dX11_boundLaw_34 : decode cX11_boundLaw 34 = .ok (.iconst 0, 1) := dAt (x := (34, .iconst 0, 1)) DX11_boundLaw_0 20 rfl
theorem dX11_boundLaw_35 : decode cX11_boundLaw 35 = .ok (.goto 18, 3) := dAt (x := (35, .goto 18, 3)) DX11_boundLaw_0 21 rfl
theorem dX11_boundLaw_38 : decode cX11_boundLaw 38 = .ok (.lload 4, 2) := dAt (x := (38, .lload 4, 2)) DX11_boundLaw_0 22 rfl
theorem dX11_boundLaw_40 : decode cX11_boundLaw 40 = .ok (.iload_n 3, 1) := dAt (x := (40, .iload_n 3, 1)) DX11_boundLaw_0 23 rfl
theorem dX11_boundLaw_41 : decode cX11_boundLaw 41 = .ok (.i2l, 1) := dAt (x := (41, .i2l, 1)) DX11_boundLaw_0 24 rfl
theorem dX11_boundLaw_42 : decode cX11_boundLaw 42 = .ok (.lcmp, 1) := dAt (x := (42, .lcmp, 1)) DX11_boundLaw_0 25 rfl
theorem dX11_boundLaw_43 : decode cX11_boundLaw 43 = .ok (.ifCond .le 7, 3) := dAt (x := (43, .ifCond .le 7, 3)) DX11_boundLaw_0 26 rfl
theorem dX11_boundLaw_46 : decode cX11_boundLaw 46 = .ok (.iload_n 3, 1) := dAt (x := (46, .iload_n 3, 1)) DX11_boundLaw_0 27 rfl
theorem dX11_boundLaw_47 : decode cX11_boundLaw 47 = .ok (.goto 6, 3) := dAt (x := (47, .goto 6, 3)) DX11_boundLaw_0 28 rfl
theorem dX11_boundLaw_50 : decode cX11_boundLaw 50 = .ok (.lload 4, 2) := dAt (x := (50, .lload 4, 2)) DX11_boundLaw_0 29 rfl
theorem dX11_boundLaw_52 : decode cX11_boundLaw 52 = .ok (.l2i, 1) := dAt (x := (52, .l2i, 1)) DX11_boundLaw_0 30 rfl
theorem dX11_boundLaw_53 : decode cX11_boundLaw 53 = .ok (.ireturn, 1) := dAt (x := (53, .ireturn, 1)) DX11_boundLaw_0 31 rfl
def lDX11_number1_0 : List (Nat × Instr × Nat) := [(0, .aload_n 0, 1), (1, .aload_n 0, 1), (2, .getfield 387, 3), (5, .ldc2_w 428, 3), (8, .lmul, 1), (9, .ldc2_w 430, 3), (12, .ladd, 1), (13, .ldc2_w 432, 3), (16, .land, 1), (17, .putfield 387, 3), (20, .aload_n 0, 1), (21, .getfield 387, 3), (24, .ldc2_w 434, 3), (27, .ldiv, 1), (28, .iload_n 1, 1), (29, .i2l, 1), (30, .lrem, 1), (31, .l2i, 1), (32, .ireturn, 1)]
theorem DX11_number1_0 : dAll cX11_number1 lDX11_number1_0 = true := by decide +kernel
theorem dX11_number1_0 : decode cX11_number1 0 = .ok (.aload_n 0, 1) := dAt (x := (0, .aload_n 0, 1)) DX11_number1_0 0 rfl
theorem dX11_number1_1 : decode cX11_number1 1 = .ok (.aload_n 0, 1) := dAt (x := (1, .aload_n 0, 1)) DX11_number1_0 1 rfl
theorem dX11_number1_2 : decode cX11_number1 2 = .ok (.getfield 387, 3) := dAt (x := (2, .getfield 387, 3)) DX11_number1_0 2 rfl
theorem dX11_number1_5 : decode cX11_number1 5 = .ok (.ldc2_w 428, 3) := dAt (x := (5, .ldc2_w 428, 3)) DX11_number1_0 3 rfl
theorem dX11_number1_8 : decode cX11_number1 8 = .ok (.lmul, 1) := dAt (x := (8, .lmul, 1)) DX11_number1_0 4 rfl
theorem dX11_number1_9 : decode cX11_number1 9 = .ok (.ldc2_w 430, 3) := dAt (x := (9, .ldc2_w 430, 3)) DX11_number1_0 5 rfl
theorem dX11_number1_12 : decode cX11_number1 12 = .ok (.ladd, 1) := dAt (x := (12, .ladd, 1)) DX11_number1_0 6 rfl
theorem dX11_number1_13 : decode cX11_number1 13 = .ok (.ldc2_w 432, 3) := dAt (x := (13, .ldc2_w 432, 3)) DX11_number1_0 7 rfl
theorem dX11_number1_16 : decode cX11_number1 16 = .ok (.land, 1) := dAt (x := (16, .land, 1)) DX11_number1_0 8 rfl
theorem dX11_number1_17 : decode cX11_number1 17 = .ok (.putfield 387, 3) := dAt (x := (17, .putfield 387, 3)) DX11_number1_0 9 rfl
theorem dX11_number1_20 : decode cX11_number1 20 = .ok (.aload_n 0, 1) := dAt (x := (20, .aload_n 0, 1)) DX11_number1_0 10 rfl
theorem dX11_number1_21 : decode cX11_number1 21 = .ok (.getfield 387, 3) := dAt (x := (21, .getfield 387, 3)) DX11_number1_0 11 rfl
theorem dX11_number1_24 : decode cX11_number1 24 = .ok (.ldc2_w 434, 3) := dAt (x := (24, .ldc2_w 434, 3)) DX11_number1_0 12 rfl
theorem dX11_number1_27 : decode cX11_number1 27 = .ok (.ldiv, 1) := dAt (x := (27, .ldiv, 1)) DX11_number1_0 13 rfl
theorem dX11_number1_28 : decode cX11_number1 28 = .ok (.iload_n 1, 1) := dAt (x := (28, .iload_n 1, 1)) DX11_number1_0 14 rfl
theorem dX11_number1_29 : decode cX11_number1 29 = .ok (.i2l, 1) := dAt (x := (29, .i2l, 1)) DX11_number1_0 15 rfl
theorem dX11_number1_30 : decode cX11_number1 30 = .ok (.lrem, 1) := dAt (x := (30, .lrem, 1)) DX11_number1_0 16 rfl
theorem dX11_number1_31 : decode cX11_number1 31 = .ok (.l2i, 1) := dAt (x := (31, .l2i, 1)) DX11_number1_0 17 rfl
theorem dX11_number1_32 : decode cX11_number1 32 = .ok (.ireturn, 1) := dAt (x := (32, .ireturn, 1)) DX11_number1_0 18 rfl
def lDX11_pushesOne_0 : List (Nat × Instr × Nat) := [(0, .aload_n 0, 1), (1, .iload_n 1, 1), (2, .invokevirtual 436, 3), (5, .iload_n 2, 1), (6, .invokestatic 372, 3), (9, .ifCond .ne 5, 3), (12, .iconst 0, 1), (13, .ireturn, 1), (14, .aload_n 0, 1), (15, .iload_n 1, 1), (16, .iload_n 2, 1), (17, .invokevirtual 439, 3), (20, .aload_n 0, 1), (21, .iconst 0, 1), (22, .iconst 1, 1), (23, .sipush 999, 3), (26, .invokevirtual 443, 3), (29, .istore_n 3, 1), (30, .aload_n 0, 1), (31, .getfield 94, 3), (34, .iload_n 1, 1), (35, .dup2, 1), (36, .iaload, 1), (37, .iconst 1, 1), (38, .iload_n 2, 1), (39, .ishl, 1), (40, .ixor, 1), (41, .iastore, 1), (42, .aload_n 0, 1), (43, .getfield 100, 3), (46, .iload_n 1, 1), (47, .aload_n 0, 1), (48, .getfield 100, 3), (51, .iload_n 1, 1), (52, .iaload, 1), (53, .iload_n 3, 1), (54, .iadd, 1), (55, .ldc 198, 2), (57, .if_icmp .ge 14, 3), (60, .aload_n 0, 1), (61, .getfield 100, 3), (64, .iload_n 1, 1), (65, .iaload, 1), (66, .iload_n 3, 1), (67, .iadd, 1), (68, .goto 5, 3), (71, .ldc 198, 2), (73, .iastore, 1), (74, .aload_n 0, 1), (75, .getfield 109, 3), (78, .bipush 8, 2), (80, .iload_n 1, 1), (81, .imul, 1), (82, .iload_n 2, 1), (83, .iadd, 1), (84, .aload_n 0, 1), (85, .getfield 109, 3), (88, .bipush 8, 2), (90, .iload_n 1, 1), (91, .imul, 1)]
theorem DX11_pushesOne_0 : dAll cX11_pushesOne lDX11_pushesOne_0 = true := by decide +kernel
theorem dX11_pushesOne_0 : decode cX11_pushesOne 0 = .ok (.aload_n 0, 1) := dAt (x := (0, .aload_n 0, 1)) DX11_pushesOne_0 0 rfl
theorem dX11_pushesOne_1 : decode cX11_pushesOne 1 = .ok (.iload_n 1, 1) := dAt (x := (1, .iload_n 1, 1)) DX11_pushesOne_0 1 rfl
theorem dX11_pushesOne_2 : decode cX11_pushesOne 2 = .ok (.invokevirtual 436, 3) := dAt (x := (2, .invokevirtual 436, 3)) DX11_pushesOne_0 2 rfl
theorem dX11_pushesOne_5 : decode cX11_pushesOne 5 = .ok (.iload_n 2, 1) := dAt (x := (5, .iload_n 2, 1)) DX11_pushesOne_0 3 rfl
theorem dX11_pushesOne_6 : decode cX11_pushesOne 6 = .ok (.invokestatic 372, 3) := dAt (x := (6, .invokestatic 372, 3)) DX11_pushesOne_0 4 rfl
theorem dX11_pushesOne_9 : decode cX11_pushesOne 9 = .ok (.ifCond .ne 5, 3) := dAt (x := (9, .ifCond .ne 5, 3)) DX11_pushesOne_0 5 rfl
theorem dX11_pushesOne_12 : decode cX11_pushesOne 12 = .ok (.iconst 0, 1) := dAt (x := (12, .iconst 0, 1)) DX11_pushesOne_0 6 rfl
theorem dX11_pushesOne_13 : decode cX11_pushesOne 13 = .ok (.ireturn, 1) := dAt (x := (13, .ireturn, 1)) DX11_pushesOne_0 7 rfl
theorem dX11_pushesOne_14 : decode cX11_pushesOne 14 = .ok (.aload_n 0, 1) := dAt (x := (14, .aload_n 0, 1)) DX11_pushesOne_0 8 rfl
theorem dX11_pushesOne_15 : decode cX11_pushesOne 15 = .ok (.iload_n 1, 1) := dAt (x := (15, .iload_n 1, 1)) DX11_pushesOne_0 9 rfl
theorem dX11_pushesOne_16 : decode cX11_pushesOne 16 = .ok (.iload_n 2, 1) := dAt (x := (16, .iload_n 2, 1)) DX11_pushesOne_0 10 rfl
theorem dX11_pushesOne_17 : decode cX11_pushesOne 17 = .ok (.invokevirtual 439, 3) := dAt (x := (17, .invokevirtual 439, 3)) DX11_pushesOne_0 11 rfl
theorem dX11_pushesOne_20 : decode cX11_pushesOne 20 = .ok (.aload_n 0, 1) := dAt (x := (20, .aload_n 0, 1)) DX11_pushesOne_0 12 rfl
theorem dX11_pushesOne_21 : decode cX11_pushesOne 21 = .ok (.iconst 0, 1) := dAt (x := (21, .iconst 0, 1)) DX11_pushesOne_0 13 rfl
theorem dX11_pushesOne_22 : decode cX11_pushesOne 22 = .ok (.iconst 1, 1) := dAt (x := (22, .iconst 1, 1)) DX11_pushesOne_0 14 rfl
theorem dX11_pushesOne_23 : decode cX11_pushesOne 23 = .ok (.sipush 999, 3) := dAt (x := (23, .sipush 999, 3)) DX11_pushesOne_0 15 rfl
theorem dX11_pushesOne_26 : decode cX11_pushesOne 26 = .ok (.invokevirtual 443, 3) := dAt (x := (26, .invokevirtual 443, 3)) DX11_pushesOne_0 16 rfl
theorem dX11_pushesOne_29 : decode cX11_pushesOne 29 = .ok (.istore_n 3, 1) := dAt (x := (29, .istore_n 3, 1)) DX11_pushesOne_0 17 rfl
theorem dX11_pushesOne_30 : decode cX11_pushesOne 30 = .ok (.aload_n 0, 1) := dAt (x := (30, .aload_n 0, 1)) DX11_pushesOne_0 18 rfl
theorem dX11_pushesOne_31 : decode cX11_pushesOne 31 = .ok (.getfield 94, 3) := dAt (x := (31, .getfield 94, 3)) DX11_pushesOne_0 19 rfl
theorem dX11_pushesOne_34 : decode cX11_pushesOne 34 = .ok (.iload_n 1, 1) := dAt (x := (34, .iload_n 1, 1)) DX11_pushesOne_0 20 rfl
theorem dX11_pushesOne_35 : decode cX11_pushesOne 35 = .ok (.dup2, 1) := dAt (x := (35, .dup2, 1)) DX11_pushesOne_0 21 rfl
theorem dX11_pushesOne_36 : decode cX11_pushesOne 36 = .ok (.iaload, 1) := dAt (x := (36, .iaload, 1)) DX11_pushesOne_0 22 rfl
theorem dX11_pushesOne_37 : decode cX11_pushesOne 37 = .ok (.iconst 1, 1) := dAt (x := (37, .iconst 1, 1)) DX11_pushesOne_0 23 rfl
theorem dX11_pushesOne_38 : decode cX11_pushesOne 38 = .ok (.iload_n 2, 1) := dAt (x := (38, .iload_n 2, 1)) DX11_pushesOne_0 24 rfl
theorem dX11_pushesOne_39 : decode cX11_pushesOne 39 = .ok (.ishl, 1) := dAt (x := (39, .ishl, 1)) DX11_pushesOne_0 25 rfl
theorem dX11_pushesOne_40 : decode cX11_pushesOne 40 = .ok (.ixor, 1) := dAt (x := (40, .ixor, 1)) DX11_pushesOne_0 26 rfl
theorem dX11_pushesOne_41 : decode cX11_pushesOne 41 = .ok (.iastore, 1) := dAt (x := (41, .iastore, 1)) DX11_pushesOne_0 27 rfl
theorem dX11_pushesOne_42 : decode cX11_pushesOne 42 = .ok (.aload_n 0, 1) := dAt (x := (42, .aload_n 0, 1)) DX11_pushesOne_0 28 rfl
theorem dX11_pushesOne_43 : decode cX11_pushesOne 43 = .ok (.getfield 100, 3) := dAt (x := (43, .getfield 100, 3)) DX11_pushesOne_0 29 rfl
theorem dX11_pushesOne_46 : decode cX11_pushesOne 46 = .ok (.iload_n 1, 1) := dAt (x := (46, .iload_n 1, 1)) DX11_pushesOne_0 30 rfl
theorem dX11_pushesOne_47 : decode cX11_pushesOne 47 = .ok (.aload_n 0, 1) := dAt (x := (47, .aload_n 0, 1)) DX11_pushesOne_0 31 rfl
theorem dX11_pushesOne_48 : decode cX11_pushesOne 48 = .ok (.getfield 100, 3) := dAt (x := (48, .getfield 100, 3)) DX11_pushesOne_0 32 rfl
theorem dX11_pushesOne_51 : decode cX11_pushesOne 51 = .ok (.iload_n 1, 1) := dAt (x := (51, .iload_n 1, 1)) DX11_pushesOne_0 33 rfl
theorem dX11_pushesOne_52 : decode cX11_pushesOne 52 = .ok (.iaload, 1) := dAt (x := (52, .iaload, 1)) DX11_pushesOne_0 34 rfl
theorem dX11_pushesOne_53 : decode cX11_pushesOne 53 = .ok (.iload_n 3, 1) := dAt (x := (53, .iload_n 3, 1)) DX11_pushesOne_0 35 rfl
theorem dX11_pushesOne_54 : decode cX11_pushesOne 54 = .ok (.iadd, 1) := dAt (x := (54, .iadd, 1)) DX11_pushesOne_0 36 rfl
theorem dX11_pushesOne_55 : decode cX11_pushesOne 55 = .ok (.ldc 198, 2) := dAt (x := (55, .ldc 198, 2)) DX11_pushesOne_0 37 rfl
theorem dX11_pushesOne_57 : decode cX11_pushesOne 57 = .ok (.if_icmp .ge 14, 3) := dAt (x := (57, .if_icmp .ge 14, 3)) DX11_pushesOne_0 38 rfl
theorem dX11_pushesOne_60 : decode cX11_pushesOne 60 = .ok (.aload_n 0, 1) := dAt (x := (60, .aload_n 0, 1)) DX11_pushesOne_0 39 rfl
theorem dX11_pushesOne_61 : decode cX11_pushesOne 61 = .ok (.getfield 100, 3) := dAt (x := (61, .getfield 100, 3)) DX11_pushesOne_0 40 rfl
theorem dX11_pushesOne_64 : decode cX11_pushesOne 64 = .ok (.iload_n 1, 1) := dAt (x := (64, .iload_n 1, 1)) DX11_pushesOne_0 41 rfl
theorem dX11_pushesOne_65 : decode cX11_pushesOne 65 = .ok (.iaload, 1) := dAt (x := (65, .iaload, 1)) DX11_pushesOne_0 42 rfl
theorem dX11_pushesOne_66 : decode cX11_pushesOne 66 = .ok (.iload_n 3, 1) := dAt (x := (66, .iload_n 3, 1)) DX11_pushesOne_0 43 rfl
theorem dX11_pushesOne_67 : decode cX11_pushesOne 67 = .ok (.iadd, 1) := dAt (x := (67, .iadd, 1)) DX11_pushesOne_0 44 rfl
theorem dX11_pushesOne_68 : decode cX11_pushesOne 68 = .ok (.goto 5, 3) := dAt (x := (68, .goto 5, 3)) DX11_pushesOne_0 45 rfl
theorem dX11_pushesOne_71 : decode cX11_pushesOne 71 = .ok (.ldc 198, 2) := dAt (x := (71, .ldc 198, 2)) DX11_pushesOne_0 46 rfl
theorem dX11_pushesOne_73 : decode cX11_pushesOne 73 = .ok (.iastore, 1) := dAt (x := (73, .iastore, 1)) DX11_pushesOne_0 47 rfl
theorem dX11_pushesOne_74 : decode cX11_pushesOne 74 = .ok (.aload_n 0, 1) := dAt (x := (74, .aload_n 0, 1)) DX11_pushesOne_0 48 rfl
theorem dX11_pushesOne_75 : decode cX11_pushesOne 75 = .ok (.getfield 109, 3) := dAt (x := (75, .getfield 109, 3)) DX11_pushesOne_0 49 rfl
theorem dX11_pushesOne_78 : decode cX11_pushesOne 78 = .ok (.bipush 8, 2) := dAt (x := (78, .bipush 8, 2)) DX11_pushesOne_0 50 rfl
theorem dX11_pushesOne_80 : decode cX11_pushesOne 80 = .ok (.iload_n 1, 1) := dAt (x := (80, .iload_n 1, 1)) DX11_pushesOne_0 51 rfl
theorem dX11_pushesOne_81 : decode cX11_pushesOne 81 = .ok (.imul, 1) := dAt (x := (81, .imul, 1)) DX11_pushesOne_0 52 rfl
theorem dX11_pushesOne_82 : decode cX11_pushesOne 82 = .ok (.iload_n 2, 1) := dAt (x := (82, .iload_n 2, 1)) DX11_pushesOne_0 53 rfl
theorem dX11_pushesOne_83 : decode cX11_pushesOne 83 = .ok (.iadd, 1) := dAt (x := (83, .iadd, 1)) DX11_pushesOne_0 54 rfl
theorem dX11_pushesOne_84 : decode cX11_pushesOne 84 = .ok (.aload_n 0, 1) := dAt (x := (84, .aload_n 0, 1)) DX11_pushesOne_0 55 rfl
theorem dX11_pushesOne_85 : decode cX11_pushesOne 85 = .ok (.getfield 109, 3) := dAt (x := (85, .getfield 109, 3)) DX11_pushesOne_0 56 rfl
theorem dX11_pushesOne_88 : decode cX11_pushesOne 88 = .ok (.bipush 8, 2) := dAt (x := (88, .bipush 8, 2)) DX11_pushesOne_0 57 rfl
theorem dX11_pushesOne_90 : decode cX11_pushesOne 90 = .ok (.iload_n 1, 1) := dAt (x := (90, .iload_n 1, 1)) DX11_pushesOne_0 58 rfl
theorem dX11_pushesOne_91 : decode cX11_pushesOne 91 = .ok (.imul, 1) := dAt (x := (91, .imul, 1)) DX11_pushesOne_0 59 rfl
def lDX11_pushesOne_1 : List (Nat × Instr × Nat) := [(92, .iload_n 2, 1), (93, .iadd, 1), (94, .iaload, 1), (95, .sipush 999, 3), (98, .if_icmp .ge 19, 3), (101, .aload_n 0, 1), (102, .getfield 109, 3), (105, .bipush 8, 2), (107, .iload_n 1, 1), (108, .imul, 1), (109, .iload_n 2, 1), (110, .iadd, 1), (111, .iaload, 1), (112, .iconst 1, 1), (113, .iadd, 1), (114, .goto 6, 3), (117, .sipush 999, 3), (120, .iastore, 1), (121, .aload_n 0, 1), (122, .getfield 406, 3), (125, .ifCond .eq 5, 3), (128, .iconst 1, 1), (129, .ireturn, 1), (130, .aload_n 0, 1), (131, .iload_n 1, 1), (132, .iload_n 2, 1), (133, .invokevirtual 439, 3), (136, .aload_n 0, 1), (137, .getfield 57, 3), (140, .iconst 1, 1), (141, .baload, 1), (142, .ifCond .eq 17, 3), (145, .aload_n 0, 1), (146, .iconst 1, 1), (147, .invokevirtual 425, 3), (150, .lconst 0, 1), (151, .lcmp, 1), (152, .ifCond .eq 7, 3), (155, .iconst 1, 1), (156, .goto 4, 3), (159, .iconst 0, 1), (160, .istore 4, 2), (162, .aload_n 0, 1), (163, .iconst 2, 1), (164, .aload_n 0, 1), (165, .getfield 24, 3), (168, .iconst 0, 1), (169, .iaload, 1), (170, .bipush 100, 2), (172, .invokevirtual 443, 3), (175, .istore 5, 2), (177, .iload 5, 2), (179, .bipush 100, 2), (181, .if_icmp .eq 36, 3), (184, .iload 5, 2), (186, .ifCond .le 35, 3), (189, .aload_n 0, 1), (190, .getfield 403, 3), (193, .ifCond .eq 17, 3), (196, .aload_n 0, 1)]
theorem DX11_pushesOne_1 : dAll cX11_pushesOne lDX11_pushesOne_1 = true := by decide +kernel
theorem dX11_pushesOne_92 : decode cX11_pushesOne 92 = .ok (.iload_n 2, 1) := dAt (x := (92, .iload_n 2, 1)) DX11_pushesOne_1 0 rfl
theorem dX11_pushesOne_93 : decode cX11_pushesOne 93 = .ok (.iadd, 1) := dAt (x := (93, .iadd, 1)) DX11_pushesOne_1 1 rfl
theorem dX11_pushesOne_94 : decode cX11_pushesOne 94 = .ok (.iaload, 1) := dAt (x := (94, .iaload, 1)) DX11_pushesOne_1 2 rfl
theorem dX11_pushesOne_95 : decode cX11_pushesOne 95 = .ok (.sipush 999, 3) := dAt (x := (95, .sipush 999, 3)) DX11_pushesOne_1 3 rfl
theorem dX11_pushesOne_98 : decode cX11_pushesOne 98 = .ok (.if_icmp .ge 19, 3) := dAt (x := (98, .if_icmp .ge 19, 3)) DX11_pushesOne_1 4 rfl
theorem dX11_pushesOne_101 : decode cX11_pushesOne 101 = .ok (.aload_n 0, 1) := dAt (x := (101, .aload_n 0, 1)) DX11_pushesOne_1 5 rfl
theorem dX11_pushesOne_102 : decode cX11_pushesOne 102 = .ok (.getfield 109, 3) := dAt (x := (102, .getfield 109, 3)) DX11_pushesOne_1 6 rfl
theorem dX11_pushesOne_105 : decode cX11_pushesOne 105 = .ok (.bipush 8, 2) := dAt (x := (105, .bipush 8, 2)) DX11_pushesOne_1 7 rfl
theorem dX11_pushesOne_107 : decode cX11_pushesOne 107 = .ok (.iload_n 1, 1) := dAt (x := (107, .iload_n 1, 1)) DX11_pushesOne_1 8 rfl
theorem dX11_pushesOne_108 : decode cX11_pushesOne 108 = .ok (.imul, 1) := dAt (x := (108, .imul, 1)) DX11_pushesOne_1 9 rfl
theorem dX11_pushesOne_109 : decode cX11_pushesOne 109 = .ok (.iload_n 2, 1) := dAt (x := (109, .iload_n 2, 1)) DX11_pushesOne_1 10 rfl
theorem dX11_pushesOne_110 : decode cX11_pushesOne 110 = .ok (.iadd, 1) := dAt (x := (110, .iadd, 1)) DX11_pushesOne_1 11 rfl
theorem dX11_pushesOne_111 : decode cX11_pushesOne 111 = .ok (.iaload, 1) := dAt (x := (111, .iaload, 1)) DX11_pushesOne_1 12 rfl
theorem dX11_pushesOne_112 : decode cX11_pushesOne 112 = .ok (.iconst 1, 1) := dAt (x := (112, .iconst 1, 1)) DX11_pushesOne_1 13 rfl
theorem dX11_pushesOne_113 : decode cX11_pushesOne 113 = .ok (.iadd, 1) := dAt (x := (113, .iadd, 1)) DX11_pushesOne_1 14 rfl
theorem dX11_pushesOne_114 : decode cX11_pushesOne 114 = .ok (.goto 6, 3) := dAt (x := (114, .goto 6, 3)) DX11_pushesOne_1 15 rfl
theorem dX11_pushesOne_117 : decode cX11_pushesOne 117 = .ok (.sipush 999, 3) := dAt (x := (117, .sipush 999, 3)) DX11_pushesOne_1 16 rfl
theorem dX11_pushesOne_120 : decode cX11_pushesOne 120 = .ok (.iastore, 1) := dAt (x := (120, .iastore, 1)) DX11_pushesOne_1 17 rfl
theorem dX11_pushesOne_121 : decode cX11_pushesOne 121 = .ok (.aload_n 0, 1) := dAt (x := (121, .aload_n 0, 1)) DX11_pushesOne_1 18 rfl
theorem dX11_pushesOne_122 : decode cX11_pushesOne 122 = .ok (.getfield 406, 3) := dAt (x := (122, .getfield 406, 3)) DX11_pushesOne_1 19 rfl
theorem dX11_pushesOne_125 : decode cX11_pushesOne 125 = .ok (.ifCond .eq 5, 3) := dAt (x := (125, .ifCond .eq 5, 3)) DX11_pushesOne_1 20 rfl
theorem dX11_pushesOne_128 : decode cX11_pushesOne 128 = .ok (.iconst 1, 1) := dAt (x := (128, .iconst 1, 1)) DX11_pushesOne_1 21 rfl
theorem dX11_pushesOne_129 : decode cX11_pushesOne 129 = .ok (.ireturn, 1) := dAt (x := (129, .ireturn, 1)) DX11_pushesOne_1 22 rfl
theorem dX11_pushesOne_130 : decode cX11_pushesOne 130 = .ok (.aload_n 0, 1) := dAt (x := (130, .aload_n 0, 1)) DX11_pushesOne_1 23 rfl
theorem dX11_pushesOne_131 : decode cX11_pushesOne 131 = .ok (.iload_n 1, 1) := dAt (x := (131, .iload_n 1, 1)) DX11_pushesOne_1 24 rfl
theorem dX11_pushesOne_132 : decode cX11_pushesOne 132 = .ok (.iload_n 2, 1) := dAt (x := (132, .iload_n 2, 1)) DX11_pushesOne_1 25 rfl
theorem dX11_pushesOne_133 : decode cX11_pushesOne 133 = .ok (.invokevirtual 439, 3) := dAt (x := (133, .invokevirtual 439, 3)) DX11_pushesOne_1 26 rfl
theorem dX11_pushesOne_136 : decode cX11_pushesOne 136 = .ok (.aload_n 0, 1) := dAt (x := (136, .aload_n 0, 1)) DX11_pushesOne_1 27 rfl
theorem dX11_pushesOne_137 : decode cX11_pushesOne 137 = .ok (.getfield 57, 3) := dAt (x := (137, .getfield 57, 3)) DX11_pushesOne_1 28 rfl
theorem dX11_pushesOne_140 : decode cX11_pushesOne 140 = .ok (.iconst 1, 1) := dAt (x := (140, .iconst 1, 1)) DX11_pushesOne_1 29 rfl
theorem dX11_pushesOne_141 : decode cX11_pushesOne 141 = .ok (.baload, 1) := dAt (x := (141, .baload, 1)) DX11_pushesOne_1 30 rfl
theorem dX11_pushesOne_142 : decode cX11_pushesOne 142 = .ok (.ifCond .eq 17, 3) := dAt (x := (142, .ifCond .eq 17, 3)) DX11_pushesOne_1 31 rfl
theorem dX11_pushesOne_145 : decode cX11_pushesOne 145 = .ok (.aload_n 0, 1) := dAt (x := (145, .aload_n 0, 1)) DX11_pushesOne_1 32 rfl
theorem dX11_pushesOne_146 : decode cX11_pushesOne 146 = .ok (.iconst 1, 1) := dAt (x := (146, .iconst 1, 1)) DX11_pushesOne_1 33 rfl
theorem dX11_pushesOne_147 : decode cX11_pushesOne 147 = .ok (.invokevirtual 425, 3) := dAt (x := (147, .invokevirtual 425, 3)) DX11_pushesOne_1 34 rfl
theorem dX11_pushesOne_150 : decode cX11_pushesOne 150 = .ok (.lconst 0, 1) := dAt (x := (150, .lconst 0, 1)) DX11_pushesOne_1 35 rfl
theorem dX11_pushesOne_151 : decode cX11_pushesOne 151 = .ok (.lcmp, 1) := dAt (x := (151, .lcmp, 1)) DX11_pushesOne_1 36 rfl
theorem dX11_pushesOne_152 : decode cX11_pushesOne 152 = .ok (.ifCond .eq 7, 3) := dAt (x := (152, .ifCond .eq 7, 3)) DX11_pushesOne_1 37 rfl
theorem dX11_pushesOne_155 : decode cX11_pushesOne 155 = .ok (.iconst 1, 1) := dAt (x := (155, .iconst 1, 1)) DX11_pushesOne_1 38 rfl
theorem dX11_pushesOne_156 : decode cX11_pushesOne 156 = .ok (.goto 4, 3) := dAt (x := (156, .goto 4, 3)) DX11_pushesOne_1 39 rfl
theorem dX11_pushesOne_159 : decode cX11_pushesOne 159 = .ok (.iconst 0, 1) := dAt (x := (159, .iconst 0, 1)) DX11_pushesOne_1 40 rfl
theorem dX11_pushesOne_160 : decode cX11_pushesOne 160 = .ok (.istore 4, 2) := dAt (x := (160, .istore 4, 2)) DX11_pushesOne_1 41 rfl
theorem dX11_pushesOne_162 : decode cX11_pushesOne 162 = .ok (.aload_n 0, 1) := dAt (x := (162, .aload_n 0, 1)) DX11_pushesOne_1 42 rfl
theorem dX11_pushesOne_163 : decode cX11_pushesOne 163 = .ok (.iconst 2, 1) := dAt (x := (163, .iconst 2, 1)) DX11_pushesOne_1 43 rfl
theorem dX11_pushesOne_164 : decode cX11_pushesOne 164 = .ok (.aload_n 0, 1) := dAt (x := (164, .aload_n 0, 1)) DX11_pushesOne_1 44 rfl
theorem dX11_pushesOne_165 : decode cX11_pushesOne 165 = .ok (.getfield 24, 3) := dAt (x := (165, .getfield 24, 3)) DX11_pushesOne_1 45 rfl
theorem dX11_pushesOne_168 : decode cX11_pushesOne 168 = .ok (.iconst 0, 1) := dAt (x := (168, .iconst 0, 1)) DX11_pushesOne_1 46 rfl
theorem dX11_pushesOne_169 : decode cX11_pushesOne 169 = .ok (.iaload, 1) := dAt (x := (169, .iaload, 1)) DX11_pushesOne_1 47 rfl
theorem dX11_pushesOne_170 : decode cX11_pushesOne 170 = .ok (.bipush 100, 2) := dAt (x := (170, .bipush 100, 2)) DX11_pushesOne_1 48 rfl
theorem dX11_pushesOne_172 : decode cX11_pushesOne 172 = .ok (.invokevirtual 443, 3) := dAt (x := (172, .invokevirtual 443, 3)) DX11_pushesOne_1 49 rfl
theorem dX11_pushesOne_175 : decode cX11_pushesOne 175 = .ok (.istore 5, 2) := dAt (x := (175, .istore 5, 2)) DX11_pushesOne_1 50 rfl
theorem dX11_pushesOne_177 : decode cX11_pushesOne 177 = .ok (.iload 5, 2) := dAt (x := (177, .iload 5, 2)) DX11_pushesOne_1 51 rfl
theorem dX11_pushesOne_179 : decode cX11_pushesOne 179 = .ok (.bipush 100, 2) := dAt (x := (179, .bipush 100, 2)) DX11_pushesOne_1 52 rfl
theorem dX11_pushesOne_181 : decode cX11_pushesOne 181 = .ok (.if_icmp .eq 36, 3) := dAt (x := (181, .if_icmp .eq 36, 3)) DX11_pushesOne_1 53 rfl
theorem dX11_pushesOne_184 : decode cX11_pushesOne 184 = .ok (.iload 5, 2) := dAt (x := (184, .iload 5, 2)) DX11_pushesOne_1 54 rfl
theorem dX11_pushesOne_186 : decode cX11_pushesOne 186 = .ok (.ifCond .le 35, 3) := dAt (x := (186, .ifCond .le 35, 3)) DX11_pushesOne_1 55 rfl
theorem dX11_pushesOne_189 : decode cX11_pushesOne 189 = .ok (.aload_n 0, 1) := dAt (x := (189, .aload_n 0, 1)) DX11_pushesOne_1 56 rfl
theorem dX11_pushesOne_190 : decode cX11_pushesOne 190 = .ok (.getfield 403, 3) := dAt (x := (190, .getfield 403, 3)) DX11_pushesOne_1 57 rfl
theorem dX11_pushesOne_193 : decode cX11_pushesOne 193 = .ok (.ifCond .eq 17, 3) := dAt (x := (193, .ifCond .eq 17, 3)) DX11_pushesOne_1 58 rfl
theorem dX11_pushesOne_196 : decode cX11_pushesOne 196 = .ok (.aload_n 0, 1) := dAt (x := (196, .aload_n 0, 1)) DX11_pushesOne_1 59 rfl
def lDX11_pushesOne_2 : List (Nat × Instr × Nat) := [(197, .bipush 100, 2), (199, .invokevirtual 447, 3), (202, .iload 5, 2), (204, .if_icmp .ge 17, 3), (207, .goto 10, 3), (210, .iload 5, 2), (212, .bipush 50, 2), (214, .if_icmp .lt 7, 3), (217, .iconst 1, 1), (218, .goto 4, 3), (221, .iconst 0, 1), (222, .istore 6, 2), (224, .iload 4, 2), (226, .ifCond .ne 8, 3), (229, .iload 6, 2), (231, .ifCond .eq 15, 3), (234, .aload_n 0, 1), (235, .getfield 97, 3), (238, .iload_n 1, 1), (239, .dup2, 1), (240, .iaload, 1), (241, .iconst 1, 1), (242, .iload_n 2, 1), (243, .ishl, 1), (244, .ior, 1), (245, .iastore, 1), (246, .iconst 1, 1), (247, .ireturn, 1)]
theorem DX11_pushesOne_2 : dAll cX11_pushesOne lDX11_pushesOne_2 = true := by decide +kernel
theorem dX11_pushesOne_197 : decode cX11_pushesOne 197 = .ok (.bipush 100, 2) := dAt (x := (197, .bipush 100, 2)) DX11_pushesOne_2 0 rfl
theorem dX11_pushesOne_199 : decode cX11_pushesOne 199 = .ok (.invokevirtual 447, 3) := dAt (x := (199, .invokevirtual 447, 3)) DX11_pushesOne_2 1 rfl
theorem dX11_pushesOne_202 : decode cX11_pushesOne 202 = .ok (.iload 5, 2) := dAt (x := (202, .iload 5, 2)) DX11_pushesOne_2 2 rfl
theorem dX11_pushesOne_204 : decode cX11_pushesOne 204 = .ok (.if_icmp .ge 17, 3) := dAt (x := (204, .if_icmp .ge 17, 3)) DX11_pushesOne_2 3 rfl
theorem dX11_pushesOne_207 : decode cX11_pushesOne 207 = .ok (.goto 10, 3) := dAt (x := (207, .goto 10, 3)) DX11_pushesOne_2 4 rfl
theorem dX11_pushesOne_210 : decode cX11_pushesOne 210 = .ok (.iload 5, 2) := dAt (x := (210, .iload 5, 2)) DX11_pushesOne_2 5 rfl
theorem dX11_pushesOne_212 : decode cX11_pushesOne 212 = .ok (.bipush 50, 2) := dAt (x := (212, .bipush 50, 2)) DX11_pushesOne_2 6 rfl
theorem dX11_pushesOne_214 : decode cX11_pushesOne 214 = .ok (.if_icmp .lt 7, 3) := dAt (x := (214, .if_icmp .lt 7, 3)) DX11_pushesOne_2 7 rfl
theorem dX11_pushesOne_217 : decode cX11_pushesOne 217 = .ok (.iconst 1, 1) := dAt (x := (217, .iconst 1, 1)) DX11_pushesOne_2 8 rfl
theorem dX11_pushesOne_218 : decode cX11_pushesOne 218 = .ok (.goto 4, 3) := dAt (x := (218, .goto 4, 3)) DX11_pushesOne_2 9 rfl
theorem dX11_pushesOne_221 : decode cX11_pushesOne 221 = .ok (.iconst 0, 1) := dAt (x := (221, .iconst 0, 1)) DX11_pushesOne_2 10 rfl
theorem dX11_pushesOne_222 : decode cX11_pushesOne 222 = .ok (.istore 6, 2) := dAt (x := (222, .istore 6, 2)) DX11_pushesOne_2 11 rfl
theorem dX11_pushesOne_224 : decode cX11_pushesOne 224 = .ok (.iload 4, 2) := dAt (x := (224, .iload 4, 2)) DX11_pushesOne_2 12 rfl
theorem dX11_pushesOne_226 : decode cX11_pushesOne 226 = .ok (.ifCond .ne 8, 3) := dAt (x := (226, .ifCond .ne 8, 3)) DX11_pushesOne_2 13 rfl
theorem dX11_pushesOne_229 : decode cX11_pushesOne 229 = .ok (.iload 6, 2) := dAt (x := (229, .iload 6, 2)) DX11_pushesOne_2 14 rfl
theorem dX11_pushesOne_231 : decode cX11_pushesOne 231 = .ok (.ifCond .eq 15, 3) := dAt (x := (231, .ifCond .eq 15, 3)) DX11_pushesOne_2 15 rfl
theorem dX11_pushesOne_234 : decode cX11_pushesOne 234 = .ok (.aload_n 0, 1) := dAt (x := (234, .aload_n 0, 1)) DX11_pushesOne_2 16 rfl
theorem dX11_pushesOne_235 : decode cX11_pushesOne 235 = .ok (.getfield 97, 3) := dAt (x := (235, .getfield 97, 3)) DX11_pushesOne_2 17 rfl
theorem dX11_pushesOne_238 : decode cX11_pushesOne 238 = .ok (.iload_n 1, 1) := dAt (x := (238, .iload_n 1, 1)) DX11_pushesOne_2 18 rfl
theorem dX11_pushesOne_239 : decode cX11_pushesOne 239 = .ok (.dup2, 1) := dAt (x := (239, .dup2, 1)) DX11_pushesOne_2 19 rfl
theorem dX11_pushesOne_240 : decode cX11_pushesOne 240 = .ok (.iaload, 1) := dAt (x := (240, .iaload, 1)) DX11_pushesOne_2 20 rfl
theorem dX11_pushesOne_241 : decode cX11_pushesOne 241 = .ok (.iconst 1, 1) := dAt (x := (241, .iconst 1, 1)) DX11_pushesOne_2 21 rfl
theorem dX11_pushesOne_242 : decode cX11_pushesOne 242 = .ok (.iload_n 2, 1) := dAt (x := (242, .iload_n 2, 1)) DX11_pushesOne_2 22 rfl
theorem dX11_pushesOne_243 : decode cX11_pushesOne 243 = .ok (.ishl, 1) := dAt (x := (243, .ishl, 1)) DX11_pushesOne_2 23 rfl
theorem dX11_pushesOne_244 : decode cX11_pushesOne 244 = .ok (.ior, 1) := dAt (x := (244, .ior, 1)) DX11_pushesOne_2 24 rfl
theorem dX11_pushesOne_245 : decode cX11_pushesOne 245 = .ok (.iastore, 1) := dAt (x := (245, .iastore, 1)) DX11_pushesOne_2 25 rfl
theorem dX11_pushesOne_246 : decode cX11_pushesOne 246 = .ok (.iconst 1, 1) := dAt (x := (246, .iconst 1, 1)) DX11_pushesOne_2 26 rfl
theorem dX11_pushesOne_247 : decode cX11_pushesOne 247 = .ok (.ireturn, 1) := dAt (x := (247, .ireturn, 1)) DX11_pushesOne_2 27 rfl
def lDX11_minuteGoes_0 : List (Nat × Instr × Nat) := [(0, .iconst 0, 1), (1, .istore_n 2, 1), (2, .iload_n 2, 1), (3, .aload_n 0, 1), (4, .getfield 246, 3), (7, .if_icmp .ge 47, 3), (10, .aload_n 0, 1), (11, .getfield 412, 3), (14, .ifCond .ne 40, 3), (17, .aload_n 0, 1), (18, .getfield 97, 3), (21, .iload_n 1, 1), (22, .aload_n 0, 1), (23, .getfield 45, 3), (26, .iload_n 2, 1), (27, .iaload, 1), (28, .aload_n 0, 1), (29, .getfield 106, 3), (32, .iload_n 1, 1), (33, .iaload, 1), (34, .if_icmp .ne 7, 3), (37, .iconst 0, 1), (38, .goto 9, 3), (41, .aload_n 0, 1), (42, .getfield 97, 3), (45, .iload_n 1, 1), (46, .iaload, 1), (47, .iastore, 1), (48, .iinc 2 1, 3), (51, .goto (-49), 3), (54, .iconst 0, 1), (55, .istore_n 2, 1), (56, .iload_n 2, 1), (57, .aload_n 0, 1), (58, .getfield 243, 3), (61, .if_icmp .ge 92, 3), (64, .aload_n 0, 1), (65, .getfield 42, 3), (68, .iload_n 2, 1), (69, .iaload, 1), (70, .aload_n 0, 1), (71, .getfield 106, 3), (74, .iload_n 1, 1), (75, .iaload, 1), (76, .if_icmp .ne 71, 3), (79, .aload_n 0, 1), (80, .getfield 39, 3), (83, .iload_n 2, 1), (84, .iaload, 1), (85, .aload_n 0, 1), (86, .getfield 418, 3), (89, .if_icmp .ne 6, 3), (92, .goto 55, 3), (95, .iconst 0, 1), (96, .istore_n 3, 1), (97, .iload_n 3, 1), (98, .aload_n 0, 1), (99, .getfield 415, 3), (102, .ifCond .eq 7, 3), (105, .iconst 2, 1)]
theorem DX11_minuteGoes_0 : dAll cX11_minuteGoes lDX11_minuteGoes_0 = true := by decide +kernel
theorem dX11_minuteGoes_0 : decode cX11_minuteGoes 0 = .ok (.iconst 0, 1) := dAt (x := (0, .iconst 0, 1)) DX11_minuteGoes_0 0 rfl
theorem dX11_minuteGoes_1 : decode cX11_minuteGoes 1 = .ok (.istore_n 2, 1) := dAt (x := (1, .istore_n 2, 1)) DX11_minuteGoes_0 1 rfl
theorem dX11_minuteGoes_2 : decode cX11_minuteGoes 2 = .ok (.iload_n 2, 1) := dAt (x := (2, .iload_n 2, 1)) DX11_minuteGoes_0 2 rfl
theorem dX11_minuteGoes_3 : decode cX11_minuteGoes 3 = .ok (.aload_n 0, 1) := dAt (x := (3, .aload_n 0, 1)) DX11_minuteGoes_0 3 rfl
theorem dX11_minuteGoes_4 : decode cX11_minuteGoes 4 = .ok (.getfield 246, 3) := dAt (x := (4, .getfield 246, 3)) DX11_minuteGoes_0 4 rfl
theorem dX11_minuteGoes_7 : decode cX11_minuteGoes 7 = .ok (.if_icmp .ge 47, 3) := dAt (x := (7, .if_icmp .ge 47, 3)) DX11_minuteGoes_0 5 rfl
theorem dX11_minuteGoes_10 : decode cX11_minuteGoes 10 = .ok (.aload_n 0, 1) := dAt (x := (10, .aload_n 0, 1)) DX11_minuteGoes_0 6 rfl
theorem dX11_minuteGoes_11 : decode cX11_minuteGoes 11 = .ok (.getfield 412, 3) := dAt (x := (11, .getfield 412, 3)) DX11_minuteGoes_0 7 rfl
theorem dX11_minuteGoes_14 : decode cX11_minuteGoes 14 = .ok (.ifCond .ne 40, 3) := dAt (x := (14, .ifCond .ne 40, 3)) DX11_minuteGoes_0 8 rfl
theorem dX11_minuteGoes_17 : decode cX11_minuteGoes 17 = .ok (.aload_n 0, 1) := dAt (x := (17, .aload_n 0, 1)) DX11_minuteGoes_0 9 rfl
theorem dX11_minuteGoes_18 : decode cX11_minuteGoes 18 = .ok (.getfield 97, 3) := dAt (x := (18, .getfield 97, 3)) DX11_minuteGoes_0 10 rfl
theorem dX11_minuteGoes_21 : decode cX11_minuteGoes 21 = .ok (.iload_n 1, 1) := dAt (x := (21, .iload_n 1, 1)) DX11_minuteGoes_0 11 rfl
theorem dX11_minuteGoes_22 : decode cX11_minuteGoes 22 = .ok (.aload_n 0, 1) := dAt (x := (22, .aload_n 0, 1)) DX11_minuteGoes_0 12 rfl
theorem dX11_minuteGoes_23 : decode cX11_minuteGoes 23 = .ok (.getfield 45, 3) := dAt (x := (23, .getfield 45, 3)) DX11_minuteGoes_0 13 rfl
theorem dX11_minuteGoes_26 : decode cX11_minuteGoes 26 = .ok (.iload_n 2, 1) := dAt (x := (26, .iload_n 2, 1)) DX11_minuteGoes_0 14 rfl
theorem dX11_minuteGoes_27 : decode cX11_minuteGoes 27 = .ok (.iaload, 1) := dAt (x := (27, .iaload, 1)) DX11_minuteGoes_0 15 rfl
theorem dX11_minuteGoes_28 : decode cX11_minuteGoes 28 = .ok (.aload_n 0, 1) := dAt (x := (28, .aload_n 0, 1)) DX11_minuteGoes_0 16 rfl
theorem dX11_minuteGoes_29 : decode cX11_minuteGoes 29 = .ok (.getfield 106, 3) := dAt (x := (29, .getfield 106, 3)) DX11_minuteGoes_0 17 rfl
theorem dX11_minuteGoes_32 : decode cX11_minuteGoes 32 = .ok (.iload_n 1, 1) := dAt (x := (32, .iload_n 1, 1)) DX11_minuteGoes_0 18 rfl
theorem dX11_minuteGoes_33 : decode cX11_minuteGoes 33 = .ok (.iaload, 1) := dAt (x := (33, .iaload, 1)) DX11_minuteGoes_0 19 rfl
theorem dX11_minuteGoes_34 : decode cX11_minuteGoes 34 = .ok (.if_icmp .ne 7, 3) := dAt (x := (34, .if_icmp .ne 7, 3)) DX11_minuteGoes_0 20 rfl
theorem dX11_minuteGoes_37 : decode cX11_minuteGoes 37 = .ok (.iconst 0, 1) := dAt (x := (37, .iconst 0, 1)) DX11_minuteGoes_0 21 rfl
theorem dX11_minuteGoes_38 : decode cX11_minuteGoes 38 = .ok (.goto 9, 3) := dAt (x := (38, .goto 9, 3)) DX11_minuteGoes_0 22 rfl
theorem dX11_minuteGoes_41 : decode cX11_minuteGoes 41 = .ok (.aload_n 0, 1) := dAt (x := (41, .aload_n 0, 1)) DX11_minuteGoes_0 23 rfl
theorem dX11_minuteGoes_42 : decode cX11_minuteGoes 42 = .ok (.getfield 97, 3) := dAt (x := (42, .getfield 97, 3)) DX11_minuteGoes_0 24 rfl
theorem dX11_minuteGoes_45 : decode cX11_minuteGoes 45 = .ok (.iload_n 1, 1) := dAt (x := (45, .iload_n 1, 1)) DX11_minuteGoes_0 25 rfl
theorem dX11_minuteGoes_46 : decode cX11_minuteGoes 46 = .ok (.iaload, 1) := dAt (x := (46, .iaload, 1)) DX11_minuteGoes_0 26 rfl
theorem dX11_minuteGoes_47 : decode cX11_minuteGoes 47 = .ok (.iastore, 1) := dAt (x := (47, .iastore, 1)) DX11_minuteGoes_0 27 rfl
theorem dX11_minuteGoes_48 : decode cX11_minuteGoes 48 = .ok (.iinc 2 1, 3) := dAt (x := (48, .iinc 2 1, 3)) DX11_minuteGoes_0 28 rfl
theorem dX11_minuteGoes_51 : decode cX11_minuteGoes 51 = .ok (.goto (-49), 3) := dAt (x := (51, .goto (-49), 3)) DX11_minuteGoes_0 29 rfl
theorem dX11_minuteGoes_54 : decode cX11_minuteGoes 54 = .ok (.iconst 0, 1) := dAt (x := (54, .iconst 0, 1)) DX11_minuteGoes_0 30 rfl
theorem dX11_minuteGoes_55 : decode cX11_minuteGoes 55 = .ok (.istore_n 2, 1) := dAt (x := (55, .istore_n 2, 1)) DX11_minuteGoes_0 31 rfl
theorem dX11_minuteGoes_56 : decode cX11_minuteGoes 56 = .ok (.iload_n 2, 1) := dAt (x := (56, .iload_n 2, 1)) DX11_minuteGoes_0 32 rfl
theorem dX11_minuteGoes_57 : decode cX11_minuteGoes 57 = .ok (.aload_n 0, 1) := dAt (x := (57, .aload_n 0, 1)) DX11_minuteGoes_0 33 rfl
theorem dX11_minuteGoes_58 : decode cX11_minuteGoes 58 = .ok (.getfield 243, 3) := dAt (x := (58, .getfield 243, 3)) DX11_minuteGoes_0 34 rfl
theorem dX11_minuteGoes_61 : decode cX11_minuteGoes 61 = .ok (.if_icmp .ge 92, 3) := dAt (x := (61, .if_icmp .ge 92, 3)) DX11_minuteGoes_0 35 rfl
theorem dX11_minuteGoes_64 : decode cX11_minuteGoes 64 = .ok (.aload_n 0, 1) := dAt (x := (64, .aload_n 0, 1)) DX11_minuteGoes_0 36 rfl
theorem dX11_minuteGoes_65 : decode cX11_minuteGoes 65 = .ok (.getfield 42, 3) := dAt (x := (65, .getfield 42, 3)) DX11_minuteGoes_0 37 rfl
theorem dX11_minuteGoes_68 : decode cX11_minuteGoes 68 = .ok (.iload_n 2, 1) := dAt (x := (68, .iload_n 2, 1)) DX11_minuteGoes_0 38 rfl
theorem dX11_minuteGoes_69 : decode cX11_minuteGoes 69 = .ok (.iaload, 1) := dAt (x := (69, .iaload, 1)) DX11_minuteGoes_0 39 rfl
theorem dX11_minuteGoes_70 : decode cX11_minuteGoes 70 = .ok (.aload_n 0, 1) := dAt (x := (70, .aload_n 0, 1)) DX11_minuteGoes_0 40 rfl
theorem dX11_minuteGoes_71 : decode cX11_minuteGoes 71 = .ok (.getfield 106, 3) := dAt (x := (71, .getfield 106, 3)) DX11_minuteGoes_0 41 rfl
theorem dX11_minuteGoes_74 : decode cX11_minuteGoes 74 = .ok (.iload_n 1, 1) := dAt (x := (74, .iload_n 1, 1)) DX11_minuteGoes_0 42 rfl
theorem dX11_minuteGoes_75 : decode cX11_minuteGoes 75 = .ok (.iaload, 1) := dAt (x := (75, .iaload, 1)) DX11_minuteGoes_0 43 rfl
theorem dX11_minuteGoes_76 : decode cX11_minuteGoes 76 = .ok (.if_icmp .ne 71, 3) := dAt (x := (76, .if_icmp .ne 71, 3)) DX11_minuteGoes_0 44 rfl
theorem dX11_minuteGoes_79 : decode cX11_minuteGoes 79 = .ok (.aload_n 0, 1) := dAt (x := (79, .aload_n 0, 1)) DX11_minuteGoes_0 45 rfl
theorem dX11_minuteGoes_80 : decode cX11_minuteGoes 80 = .ok (.getfield 39, 3) := dAt (x := (80, .getfield 39, 3)) DX11_minuteGoes_0 46 rfl
theorem dX11_minuteGoes_83 : decode cX11_minuteGoes 83 = .ok (.iload_n 2, 1) := dAt (x := (83, .iload_n 2, 1)) DX11_minuteGoes_0 47 rfl
theorem dX11_minuteGoes_84 : decode cX11_minuteGoes 84 = .ok (.iaload, 1) := dAt (x := (84, .iaload, 1)) DX11_minuteGoes_0 48 rfl
theorem dX11_minuteGoes_85 : decode cX11_minuteGoes 85 = .ok (.aload_n 0, 1) := dAt (x := (85, .aload_n 0, 1)) DX11_minuteGoes_0 49 rfl
theorem dX11_minuteGoes_86 : decode cX11_minuteGoes 86 = .ok (.getfield 418, 3) := dAt (x := (86, .getfield 418, 3)) DX11_minuteGoes_0 50 rfl
theorem dX11_minuteGoes_89 : decode cX11_minuteGoes 89 = .ok (.if_icmp .ne 6, 3) := dAt (x := (89, .if_icmp .ne 6, 3)) DX11_minuteGoes_0 51 rfl
theorem dX11_minuteGoes_92 : decode cX11_minuteGoes 92 = .ok (.goto 55, 3) := dAt (x := (92, .goto 55, 3)) DX11_minuteGoes_0 52 rfl
theorem dX11_minuteGoes_95 : decode cX11_minuteGoes 95 = .ok (.iconst 0, 1) := dAt (x := (95, .iconst 0, 1)) DX11_minuteGoes_0 53 rfl
theorem dX11_minuteGoes_96 : decode cX11_minuteGoes 96 = .ok (.istore_n 3, 1) := dAt (x := (96, .istore_n 3, 1)) DX11_minuteGoes_0 54 rfl
theorem dX11_minuteGoes_97 : decode cX11_minuteGoes 97 = .ok (.iload_n 3, 1) := dAt (x := (97, .iload_n 3, 1)) DX11_minuteGoes_0 55 rfl
theorem dX11_minuteGoes_98 : decode cX11_minuteGoes 98 = .ok (.aload_n 0, 1) := dAt (x := (98, .aload_n 0, 1)) DX11_minuteGoes_0 56 rfl
theorem dX11_minuteGoes_99 : decode cX11_minuteGoes 99 = .ok (.getfield 415, 3) := dAt (x := (99, .getfield 415, 3)) DX11_minuteGoes_0 57 rfl
theorem dX11_minuteGoes_102 : decode cX11_minuteGoes 102 = .ok (.ifCond .eq 7, 3) := dAt (x := (102, .ifCond .eq 7, 3)) DX11_minuteGoes_0 58 rfl
theorem dX11_minuteGoes_105 : decode cX11_minuteGoes 105 = .ok (.iconst 2, 1) := dAt (x := (105, .iconst 2, 1)) DX11_minuteGoes_0 59 rfl
def lDX11_minuteGoes_1 : List (Nat × Instr × Nat) := [(106, .goto 4, 3), (109, .iconst 1, 1), (110, .if_icmp .ge 37, 3), (113, .aload_n 0, 1), (114, .getfield 103, 3), (117, .iload_n 1, 1), (118, .dup2, 1), (119, .iaload, 1), (120, .aload_n 0, 1), (121, .iload_n 1, 1), (122, .aload_n 0, 1), (123, .getfield 39, 3), (126, .iload_n 2, 1), (127, .iaload, 1), (128, .invokevirtual 450, 3), (131, .ifCond .eq 7, 3), (134, .iconst 0, 1), (135, .goto 4, 3), (138, .iconst 1, 1), (139, .iadd, 1), (140, .iastore, 1), (141, .iinc 3 1, 3), (144, .goto (-47), 3), (147, .iinc 2 1, 3), (150, .goto (-94), 3), (153, .aload_n 0, 1), (154, .getfield 106, 3), (157, .iload_n 1, 1), (158, .dup2, 1), (159, .iaload, 1), (160, .iconst 1, 1), (161, .iadd, 1), (162, .iastore, 1), (163, .return_, 1)]
theorem DX11_minuteGoes_1 : dAll cX11_minuteGoes lDX11_minuteGoes_1 = true := by decide +kernel
theorem dX11_minuteGoes_106 : decode cX11_minuteGoes 106 = .ok (.goto 4, 3) := dAt (x := (106, .goto 4, 3)) DX11_minuteGoes_1 0 rfl
theorem dX11_minuteGoes_109 : decode cX11_minuteGoes 109 = .ok (.iconst 1, 1) := dAt (x := (109, .iconst 1, 1)) DX11_minuteGoes_1 1 rfl
theorem dX11_minuteGoes_110 : decode cX11_minuteGoes 110 = .ok (.if_icmp .ge 37, 3) := dAt (x := (110, .if_icmp .ge 37, 3)) DX11_minuteGoes_1 2 rfl
theorem dX11_minuteGoes_113 : decode cX11_minuteGoes 113 = .ok (.aload_n 0, 1) := dAt (x := (113, .aload_n 0, 1)) DX11_minuteGoes_1 3 rfl
theorem dX11_minuteGoes_114 : decode cX11_minuteGoes 114 = .ok (.getfield 103, 3) := dAt (x := (114, .getfield 103, 3)) DX11_minuteGoes_1 4 rfl
theorem dX11_minuteGoes_117 : decode cX11_minuteGoes 117 = .ok (.iload_n 1, 1) := dAt (x := (117, .iload_n 1, 1)) DX11_minuteGoes_1 5 rfl
theorem dX11_minuteGoes_118 : decode cX11_minuteGoes 118 = .ok (.dup2, 1) := dAt (x := (118, .dup2, 1)) DX11_minuteGoes_1 6 rfl
theorem dX11_minuteGoes_119 : decode cX11_minuteGoes 119 = .ok (.iaload, 1) := dAt (x := (119, .iaload, 1)) DX11_minuteGoes_1 7 rfl
theorem dX11_minuteGoes_120 : decode cX11_minuteGoes 120 = .ok (.aload_n 0, 1) := dAt (x := (120, .aload_n 0, 1)) DX11_minuteGoes_1 8 rfl
theorem dX11_minuteGoes_121 : decode cX11_minuteGoes 121 = .ok (.iload_n 1, 1) := dAt (x := (121, .iload_n 1, 1)) DX11_minuteGoes_1 9 rfl
theorem dX11_minuteGoes_122 : decode cX11_minuteGoes 122 = .ok (.aload_n 0, 1) := dAt (x := (122, .aload_n 0, 1)) DX11_minuteGoes_1 10 rfl
theorem dX11_minuteGoes_123 : decode cX11_minuteGoes 123 = .ok (.getfield 39, 3) := dAt (x := (123, .getfield 39, 3)) DX11_minuteGoes_1 11 rfl
theorem dX11_minuteGoes_126 : decode cX11_minuteGoes 126 = .ok (.iload_n 2, 1) := dAt (x := (126, .iload_n 2, 1)) DX11_minuteGoes_1 12 rfl
theorem dX11_minuteGoes_127 : decode cX11_minuteGoes 127 = .ok (.iaload, 1) := dAt (x := (127, .iaload, 1)) DX11_minuteGoes_1 13 rfl
theorem dX11_minuteGoes_128 : decode cX11_minuteGoes 128 = .ok (.invokevirtual 450, 3) := dAt (x := (128, .invokevirtual 450, 3)) DX11_minuteGoes_1 14 rfl
theorem dX11_minuteGoes_131 : decode cX11_minuteGoes 131 = .ok (.ifCond .eq 7, 3) := dAt (x := (131, .ifCond .eq 7, 3)) DX11_minuteGoes_1 15 rfl
theorem dX11_minuteGoes_134 : decode cX11_minuteGoes 134 = .ok (.iconst 0, 1) := dAt (x := (134, .iconst 0, 1)) DX11_minuteGoes_1 16 rfl
theorem dX11_minuteGoes_135 : decode cX11_minuteGoes 135 = .ok (.goto 4, 3) := dAt (x := (135, .goto 4, 3)) DX11_minuteGoes_1 17 rfl
theorem dX11_minuteGoes_138 : decode cX11_minuteGoes 138 = .ok (.iconst 1, 1) := dAt (x := (138, .iconst 1, 1)) DX11_minuteGoes_1 18 rfl
theorem dX11_minuteGoes_139 : decode cX11_minuteGoes 139 = .ok (.iadd, 1) := dAt (x := (139, .iadd, 1)) DX11_minuteGoes_1 19 rfl
theorem dX11_minuteGoes_140 : decode cX11_minuteGoes 140 = .ok (.iastore, 1) := dAt (x := (140, .iastore, 1)) DX11_minuteGoes_1 20 rfl
theorem dX11_minuteGoes_141 : decode cX11_minuteGoes 141 = .ok (.iinc 3 1, 3) := dAt (x := (141, .iinc 3 1, 3)) DX11_minuteGoes_1 21 rfl
theorem dX11_minuteGoes_144 : decode cX11_minuteGoes 144 = .ok (.goto (-47), 3) := dAt (x := (144, .goto (-47), 3)) DX11_minuteGoes_1 22 rfl
theorem dX11_minuteGoes_147 : decode cX11_minuteGoes 147 = .ok (.iinc 2 1, 3) := dAt (x := (147, .iinc 2 1, 3)) DX11_minuteGoes_1 23 rfl
theorem dX11_minuteGoes_150 : decode cX11_minuteGoes 150 = .ok (.goto (-94), 3) := dAt (x := (150, .goto (-94), 3)) DX11_minuteGoes_1 24 rfl
theorem dX11_minuteGoes_153 : decode cX11_minuteGoes 153 = .ok (.aload_n 0, 1) := dAt (x := (153, .aload_n 0, 1)) DX11_minuteGoes_1 25 rfl
theorem dX11_minuteGoes_154 : decode cX11_minuteGoes 154 = .ok (.getfield 106, 3) := dAt (x := (154, .getfield 106, 3)) DX11_minuteGoes_1 26 rfl
theorem dX11_minuteGoes_157 : decode cX11_minuteGoes 157 = .ok (.iload_n 1, 1) := dAt (x := (157, .iload_n 1, 1)) DX11_minuteGoes_1 27 rfl
theorem dX11_minuteGoes_158 : decode cX11_minuteGoes 158 = .ok (.dup2, 1) := dAt (x := (158, .dup2, 1)) DX11_minuteGoes_1 28 rfl
theorem dX11_minuteGoes_159 : decode cX11_minuteGoes 159 = .ok (.iaload, 1) := dAt (x := (159, .iaload, 1)) DX11_minuteGoes_1 29 rfl
theorem dX11_minuteGoes_160 : decode cX11_minuteGoes 160 = .ok (.iconst 1, 1) := dAt (x := (160, .iconst 1, 1)) DX11_minuteGoes_1 30 rfl
theorem dX11_minuteGoes_161 : decode cX11_minuteGoes 161 = .ok (.iadd, 1) := dAt (x := (161, .iadd, 1)) DX11_minuteGoes_1 31 rfl
theorem dX11_minuteGoes_162 : decode cX11_minuteGoes 162 = .ok (.iastore, 1) := dAt (x := (162, .iastore, 1)) DX11_minuteGoes_1 32 rfl
theorem dX11_minuteGoes_163 : decode cX11_minuteGoes 163 = .ok (.return_, 1) := dAt (x := (163, .return_, 1)) DX11_minuteGoes_1 33 rfl
def lDX11_goMany_0 : List (Nat × Instr × Nat) := [(0, .iconst 0, 1), (1, .istore_n 2, 1), (2, .iload_n 2, 1), (3, .iload_n 1, 1), (4, .if_icmp .ge 14, 3), (7, .aload_n 0, 1), (8, .iconst 1, 1), (9, .invokevirtual 453, 3), (12, .iinc 2 1, 3), (15, .goto (-13), 3), (18, .return_, 1)]
theorem DX11_goMany_0 : dAll cX11_goMany lDX11_goMany_0 = true := by decide +kernel
theorem dX11_goMany_0 : decode cX11_goMany 0 = .ok (.iconst 0, 1) := dAt (x := (0, .iconst 0, 1)) DX11_goMany_0 0 rfl
theorem dX11_goMany_1 : decode cX11_goMany 1 = .ok (.istore_n 2, 1) := dAt (x := (1, .istore_n 2, 1)) DX11_goMany_0 1 rfl
theorem dX11_goMany_2 : decode cX11_goMany 2 = .ok (.iload_n 2, 1) := dAt (x := (2, .iload_n 2, 1)) DX11_goMany_0 2 rfl
theorem dX11_goMany_3 : decode cX11_goMany 3 = .ok (.iload_n 1, 1) := dAt (x := (3, .iload_n 1, 1)) DX11_goMany_0 3 rfl
theorem dX11_goMany_4 : decode cX11_goMany 4 = .ok (.if_icmp .ge 14, 3) := dAt (x := (4, .if_icmp .ge 14, 3)) DX11_goMany_0 4 rfl
theorem dX11_goMany_7 : decode cX11_goMany 7 = .ok (.aload_n 0, 1) := dAt (x := (7, .aload_n 0, 1)) DX11_goMany_0 5 rfl
theorem dX11_goMany_8 : decode cX11_goMany 8 = .ok (.iconst 1, 1) := dAt (x := (8, .iconst 1, 1)) DX11_goMany_0 6 rfl
theorem dX11_goMany_9 : decode cX11_goMany 9 = .ok (.invokevirtual 453, 3) := dAt (x := (9, .invokevirtual 453, 3)) DX11_goMany_0 7 rfl
theorem dX11_goMany_12 : decode cX11_goMany 12 = .ok (.iinc 2 1, 3) := dAt (x := (12, .iinc 2 1, 3)) DX11_goMany_0 8 rfl
theorem dX11_goMany_15 : decode cX11_goMany 15 = .ok (.goto (-13), 3) := dAt (x := (15, .goto (-13), 3)) DX11_goMany_0 9 rfl
theorem dX11_goMany_18 : decode cX11_goMany 18 = .ok (.return_, 1) := dAt (x := (18, .return_, 1)) DX11_goMany_0 10 rfl
def lDX11_fails_0 : List (Nat × Instr × Nat) := [(0, .aload_n 0, 1), (1, .iload_n 1, 1), (2, .putfield 160, 3), (5, .iconst 0, 1), (6, .ireturn, 1)]
theorem DX11_fails_0 : dAll cX11_fails lDX11_fails_0 = true := by decide +kernel
theorem dX11_fails_0 : decode cX11_fails 0 = .ok (.aload_n 0, 1) := dAt (x := (0, .aload_n 0, 1)) DX11_fails_0 0 rfl
theorem dX11_fails_1 : decode cX11_fails 1 = .ok (.iload_n 1, 1) := dAt (x := (1, .iload_n 1, 1)) DX11_fails_0 1 rfl
theorem dX11_fails_2 : decode cX11_fails 2 = .ok (.putfield 160, 3) := dAt (x := (2, .putfield 160, 3)) DX11_fails_0 2 rfl
theorem dX11_fails_5 : decode cX11_fails 5 = .ok (.iconst 0, 1) := dAt (x := (5, .iconst 0, 1)) DX11_fails_0 3 rfl
theorem dX11_fails_6 : decode cX11_fails 6 = .ok (.ireturn, 1) := dAt (x := (6, .ireturn, 1)) DX11_fails_0 4 rfl
def lDX11_latch_0 : List (Nat × Instr × Nat) := [(0, .aload_n 0, 1), (1, .iconst 0, 1), (2, .putfield 160, 3), (5, .aload_n 0, 1), (6, .iload_n 1, 1), (7, .invokevirtual 456, 3), (10, .ifCond .ne 9, 3), (13, .aload_n 0, 1), (14, .iconst 1, 1), (15, .invokevirtual 459, 3), (18, .ireturn, 1), (19, .iload_n 2, 1), (20, .tableswitch 71 0 3 #[32, 43, 54, 64], 32), (52, .aload_n 0, 1), (53, .getfield 94, 3), (56, .iconst 0, 1), (57, .iaload, 1), (58, .iload_n 1, 1), (59, .ishr, 1), (60, .iconst 1, 1), (61, .iand, 1), (62, .ireturn, 1), (63, .aload_n 0, 1), (64, .getfield 97, 3), (67, .iconst 0, 1), (68, .iaload, 1), (69, .iload_n 1, 1), (70, .ishr, 1), (71, .iconst 1, 1), (72, .iand, 1), (73, .ireturn, 1), (74, .aload_n 0, 1), (75, .iconst 0, 1), (76, .invokevirtual 436, 3), (79, .iload_n 1, 1), (80, .ishr, 1), (81, .iconst 1, 1), (82, .iand, 1), (83, .ireturn, 1), (84, .aload_n 0, 1), (85, .getfield 109, 3), (88, .iload_n 1, 1), (89, .iaload, 1), (90, .ireturn, 1), (91, .aload_n 0, 1), (92, .iconst 2, 1), (93, .invokevirtual 459, 3), (96, .ireturn, 1)]
theorem DX11_latch_0 : dAll cX11_latch lDX11_latch_0 = true := by decide +kernel
theorem dX11_latch_0 : decode cX11_latch 0 = .ok (.aload_n 0, 1) := dAt (x := (0, .aload_n 0, 1)) DX11_latch_0 0 rfl
theorem dX11_latch_1 : decode cX11_latch 1 = .ok (.iconst 0, 1) := dAt (x := (1, .iconst 0, 1)) DX11_latch_0 1 rfl
theorem dX11_latch_2 : decode cX11_latch 2 = .ok (.putfield 160, 3) := dAt (x := (2, .putfield 160, 3)) DX11_latch_0 2 rfl
theorem dX11_latch_5 : decode cX11_latch 5 = .ok (.aload_n 0, 1) := dAt (x := (5, .aload_n 0, 1)) DX11_latch_0 3 rfl
theorem dX11_latch_6 : decode cX11_latch 6 = .ok (.iload_n 1, 1) := dAt (x := (6, .iload_n 1, 1)) DX11_latch_0 4 rfl
theorem dX11_latch_7 : decode cX11_latch 7 = .ok (.invokevirtual 456, 3) := dAt (x := (7, .invokevirtual 456, 3)) DX11_latch_0 5 rfl
theorem dX11_latch_10 : decode cX11_latch 10 = .ok (.ifCond .ne 9, 3) := dAt (x := (10, .ifCond .ne 9, 3)) DX11_latch_0 6 rfl
theorem dX11_latch_13 : decode cX11_latch 13 = .ok (.aload_n 0, 1) := dAt (x := (13, .aload_n 0, 1)) DX11_latch_0 7 rfl
theorem dX11_latch_14 : decode cX11_latch 14 = .ok (.iconst 1, 1) := dAt (x := (14, .iconst 1, 1)) DX11_latch_0 8 rfl
theorem dX11_latch_15 : decode cX11_latch 15 = .ok (.invokevirtual 459, 3) := dAt (x := (15, .invokevirtual 459, 3)) DX11_latch_0 9 rfl
theorem dX11_latch_18 : decode cX11_latch 18 = .ok (.ireturn, 1) := dAt (x := (18, .ireturn, 1)) DX11_latch_0 10 rfl
theorem dX11_latch_19 : decode cX11_latch 19 = .ok (.iload_n 2, 1) := dAt (x := (19, .iload_n 2, 1)) DX11_latch_0 11 rfl
theorem dX11_latch_20 : decode cX11_latch 20 = .ok (.tableswitch 71 0 3 #[32, 43, 54, 64], 32) := dAt (x := (20, .tableswitch 71 0 3 #[32, 43, 54, 64], 32)) DX11_latch_0 12 rfl
theorem dX11_latch_52 : decode cX11_latch 52 = .ok (.aload_n 0, 1) := dAt (x := (52, .aload_n 0, 1)) DX11_latch_0 13 rfl
theorem dX11_latch_53 : decode cX11_latch 53 = .ok (.getfield 94, 3) := dAt (x := (53, .getfield 94, 3)) DX11_latch_0 14 rfl
theorem dX11_latch_56 : decode cX11_latch 56 = .ok (.iconst 0, 1) := dAt (x := (56, .iconst 0, 1)) DX11_latch_0 15 rfl
theorem dX11_latch_57 : decode cX11_latch 57 = .ok (.iaload, 1) := dAt (x := (57, .iaload, 1)) DX11_latch_0 16 rfl
theorem dX11_latch_58 : decode cX11_latch 58 = .ok (.iload_n 1, 1) := dAt (x := (58, .iload_n 1, 1)) DX11_latch_0 17 rfl
theorem dX11_latch_59 : decode cX11_latch 59 = .ok (.ishr, 1) := dAt (x := (59, .ishr, 1)) DX11_latch_0 18 rfl
theorem dX11_latch_60 : decode cX11_latch 60 = .ok (.iconst 1, 1) := dAt (x := (60, .iconst 1, 1)) DX11_latch_0 19 rfl
theorem dX11_latch_61 : decode cX11_latch 61 = .ok (.iand, 1) := dAt (x := (61, .iand, 1)) DX11_latch_0 20 rfl
theorem dX11_latch_62 : decode cX11_latch 62 = .ok (.ireturn, 1) := dAt (x := (62, .ireturn, 1)) DX11_latch_0 21 rfl
theorem dX11_latch_63 : decode cX11_latch 63 = .ok (.aload_n 0, 1) := dAt (x := (63, .aload_n 0, 1)) DX11_latch_0 22 rfl
theorem dX11_latch_64 : decode cX11_latch 64 = .ok (.getfield 97, 3) := dAt (x := (64, .getfield 97, 3)) DX11_latch_0 23 rfl
theorem dX11_latch_67 : decode cX11_latch 67 = .ok (.iconst 0, 1) := dAt (x := (67, .iconst 0, 1)) DX11_latch_0 24 rfl
theorem dX11_latch_68 : decode cX11_latch 68 = .ok (.iaload, 1) := dAt (x := (68, .iaload, 1)) DX11_latch_0 25 rfl
theorem dX11_latch_69 : decode cX11_latch 69 = .ok (.iload_n 1, 1) := dAt (x := (69, .iload_n 1, 1)) DX11_latch_0 26 rfl
theorem dX11_latch_70 : decode cX11_latch 70 = .ok (.ishr, 1) := dAt (x := (70, .ishr, 1)) DX11_latch_0 27 rfl
theorem dX11_latch_71 : decode cX11_latch 71 = .ok (.iconst 1, 1) := dAt (x := (71, .iconst 1, 1)) DX11_latch_0 28 rfl
theorem dX11_latch_72 : decode cX11_latch 72 = .ok (.iand, 1) := dAt (x := (72, .iand, 1)) DX11_latch_0 29 rfl
theorem dX11_latch_73 : decode cX11_latch 73 = .ok (.ireturn, 1) := dAt (x := (73, .ireturn, 1)) DX11_latch_0 30 rfl
theorem dX11_latch_74 : decode cX11_latch 74 = .ok (.aload_n 0, 1) := dAt (x := (74, .aload_n 0, 1)) DX11_latch_0 31 rfl
theorem dX11_latch_75 : decode cX11_latch 75 = .ok (.iconst 0, 1) := dAt (x := (75, .iconst 0, 1)) DX11_latch_0 32 rfl
theorem dX11_latch_76 : decode cX11_latch 76 = .ok (.invokevirtual 436, 3) := dAt (x := (76, .invokevirtual 436, 3)) DX11_latch_0 33 rfl
theorem dX11_latch_79 : decode cX11_latch 79 = .ok (.iload_n 1, 1) := dAt (x := (79, .iload_n 1, 1)) DX11_latch_0 34 rfl
theorem dX11_latch_80 : decode cX11_latch 80 = .ok (.ishr, 1) := dAt (x := (80, .ishr, 1)) DX11_latch_0 35 rfl
theorem dX11_latch_81 : decode cX11_latch 81 = .ok (.iconst 1, 1) := dAt (x := (81, .iconst 1, 1)) DX11_latch_0 36 rfl
theorem dX11_latch_82 : decode cX11_latch 82 = .ok (.iand, 1) := dAt (x := (82, .iand, 1)) DX11_latch_0 37 rfl
theorem dX11_latch_83 : decode cX11_latch 83 = .ok (.ireturn, 1) := dAt (x := (83, .ireturn, 1)) DX11_latch_0 38 rfl
theorem dX11_latch_84 : decode cX11_latch 84 = .ok (.aload_n 0, 1) := dAt (x := (84, .aload_n 0, 1)) DX11_latch_0 39 rfl
theorem dX11_latch_85 : decode cX11_latch 85 = .ok (.getfield 109, 3) := dAt (x := (85, .getfield 109, 3)) DX11_latch_0 40 rfl
theorem dX11_latch_88 : decode cX11_latch 88 = .ok (.iload_n 1, 1) := dAt (x := (88, .iload_n 1, 1)) DX11_latch_0 41 rfl
theorem dX11_latch_89 : decode cX11_latch 89 = .ok (.iaload, 1) := dAt (x := (89, .iaload, 1)) DX11_latch_0 42 rfl
theorem dX11_latch_90 : decode cX11_latch 90 = .ok (.ireturn, 1) := dAt (x := (90, .ireturn, 1)) DX11_latch_0 43 rfl
theorem dX11_latch_91 : decode cX11_latch 91 = .ok (.aload_n 0, 1) := dAt (x := (91, .aload_n 0, 1)) DX11_latch_0 44 rfl
theorem dX11_latch_92 : decode cX11_latch 92 = .ok (.iconst 2, 1) := dAt (x := (92, .iconst 2, 1)) DX11_latch_0 45 rfl
theorem dX11_latch_93 : decode cX11_latch 93 = .ok (.invokevirtual 459, 3) := dAt (x := (93, .invokevirtual 459, 3)) DX11_latch_0 46 rfl
theorem dX11_latch_96 : decode cX11_latch 96 = .ok (.ireturn, 1) := dAt (x := (96, .ireturn, 1)) DX11_latch_0 47 rfl
def lDX11_row_0 : List (Nat × Instr × Nat) := [(0, .aload_n 0, 1), (1, .iconst 0, 1), (2, .putfield 160, 3), (5, .iload_n 1, 1), (6, .ifCond .ne 12, 3), (9, .aload_n 0, 1), (10, .getfield 94, 3), (13, .iconst 0, 1), (14, .iaload, 1), (15, .goto 40, 3), (18, .iload_n 1, 1), (19, .iconst 1, 1), (20, .if_icmp .ne 12, 3), (23, .aload_n 0, 1), (24, .getfield 97, 3), (27, .iconst 0, 1), (28, .iaload, 1), (29, .goto 26, 3), (32, .iload_n 1, 1), (33, .iconst 2, 1), (34, .if_icmp .ne 20, 3), (37, .aload_n 0, 1), (38, .iconst 0, 1), (39, .invokevirtual 436, 3), (42, .iconst 1, 1), (43, .aload_n 0, 1), (44, .getfield 240, 3), (47, .ishl, 1), (48, .iconst 1, 1), (49, .isub, 1), (50, .iand, 1), (51, .goto 4, 3), (54, .iconst (-1), 1), (55, .ireturn, 1)]
theorem DX11_row_0 : dAll cX11_row lDX11_row_0 = true := by decide +kernel
theorem dX11_row_0 : decode cX11_row 0 = .ok (.aload_n 0, 1) := dAt (x := (0, .aload_n 0, 1)) DX11_row_0 0 rfl
theorem dX11_row_1 : decode cX11_row 1 = .ok (.iconst 0, 1) := dAt (x := (1, .iconst 0, 1)) DX11_row_0 1 rfl
theorem dX11_row_2 : decode cX11_row 2 = .ok (.putfield 160, 3) := dAt (x := (2, .putfield 160, 3)) DX11_row_0 2 rfl
theorem dX11_row_5 : decode cX11_row 5 = .ok (.iload_n 1, 1) := dAt (x := (5, .iload_n 1, 1)) DX11_row_0 3 rfl
theorem dX11_row_6 : decode cX11_row 6 = .ok (.ifCond .ne 12, 3) := dAt (x := (6, .ifCond .ne 12, 3)) DX11_row_0 4 rfl
theorem dX11_row_9 : decode cX11_row 9 = .ok (.aload_n 0, 1) := dAt (x := (9, .aload_n 0, 1)) DX11_row_0 5 rfl
theorem dX11_row_10 : decode cX11_row 10 = .ok (.getfield 94, 3) := dAt (x := (10, .getfield 94, 3)) DX11_row_0 6 rfl
theorem dX11_row_13 : decode cX11_row 13 = .ok (.iconst 0, 1) := dAt (x := (13, .iconst 0, 1)) DX11_row_0 7 rfl
theorem dX11_row_14 : decode cX11_row 14 = .ok (.iaload, 1) := dAt (x := (14, .iaload, 1)) DX11_row_0 8 rfl
theorem dX11_row_15 : decode cX11_row 15 = .ok (.goto 40, 3) := dAt (x := (15, .goto 40, 3)) DX11_row_0 9 rfl
theorem dX11_row_18 : decode cX11_row 18 = .ok (.iload_n 1, 1) := dAt (x := (18, .iload_n 1, 1)) DX11_row_0 10 rfl
theorem dX11_row_19 : decode cX11_row 19 = .ok (.iconst 1, 1) := dAt (x := (19, .iconst 1, 1)) DX11_row_0 11 rfl
theorem dX11_row_20 : decode cX11_row 20 = .ok (.if_icmp .ne 12, 3) := dAt (x := (20, .if_icmp .ne 12, 3)) DX11_row_0 12 rfl
theorem dX11_row_23 : decode cX11_row 23 = .ok (.aload_n 0, 1) := dAt (x := (23, .aload_n 0, 1)) DX11_row_0 13 rfl
theorem dX11_row_24 : decode cX11_row 24 = .ok (.getfield 97, 3) := dAt (x := (24, .getfield 97, 3)) DX11_row_0 14 rfl
theorem dX11_row_27 : decode cX11_row 27 = .ok (.iconst 0, 1) := dAt (x := (27, .iconst 0, 1)) DX11_row_0 15 rfl
theorem dX11_row_28 : decode cX11_row 28 = .ok (.iaload, 1) := dAt (x := (28, .iaload, 1)) DX11_row_0 16 rfl
theorem dX11_row_29 : decode cX11_row 29 = .ok (.goto 26, 3) := dAt (x := (29, .goto 26, 3)) DX11_row_0 17 rfl
theorem dX11_row_32 : decode cX11_row 32 = .ok (.iload_n 1, 1) := dAt (x := (32, .iload_n 1, 1)) DX11_row_0 18 rfl
theorem dX11_row_33 : decode cX11_row 33 = .ok (.iconst 2, 1) := dAt (x := (33, .iconst 2, 1)) DX11_row_0 19 rfl
theorem dX11_row_34 : decode cX11_row 34 = .ok (.if_icmp .ne 20, 3) := dAt (x := (34, .if_icmp .ne 20, 3)) DX11_row_0 20 rfl
theorem dX11_row_37 : decode cX11_row 37 = .ok (.aload_n 0, 1) := dAt (x := (37, .aload_n 0, 1)) DX11_row_0 21 rfl
theorem dX11_row_38 : decode cX11_row 38 = .ok (.iconst 0, 1) := dAt (x := (38, .iconst 0, 1)) DX11_row_0 22 rfl
theorem dX11_row_39 : decode cX11_row 39 = .ok (.invokevirtual 436, 3) := dAt (x := (39, .invokevirtual 436, 3)) DX11_row_0 23 rfl
theorem dX11_row_42 : decode cX11_row 42 = .ok (.iconst 1, 1) := dAt (x := (42, .iconst 1, 1)) DX11_row_0 24 rfl
theorem dX11_row_43 : decode cX11_row 43 = .ok (.aload_n 0, 1) := dAt (x := (43, .aload_n 0, 1)) DX11_row_0 25 rfl
theorem dX11_row_44 : decode cX11_row 44 = .ok (.getfield 240, 3) := dAt (x := (44, .getfield 240, 3)) DX11_row_0 26 rfl
theorem dX11_row_47 : decode cX11_row 47 = .ok (.ishl, 1) := dAt (x := (47, .ishl, 1)) DX11_row_0 27 rfl
theorem dX11_row_48 : decode cX11_row 48 = .ok (.iconst 1, 1) := dAt (x := (48, .iconst 1, 1)) DX11_row_0 28 rfl
theorem dX11_row_49 : decode cX11_row 49 = .ok (.isub, 1) := dAt (x := (49, .isub, 1)) DX11_row_0 29 rfl
theorem dX11_row_50 : decode cX11_row 50 = .ok (.iand, 1) := dAt (x := (50, .iand, 1)) DX11_row_0 30 rfl
theorem dX11_row_51 : decode cX11_row 51 = .ok (.goto 4, 3) := dAt (x := (51, .goto 4, 3)) DX11_row_0 31 rfl
theorem dX11_row_54 : decode cX11_row 54 = .ok (.iconst (-1), 1) := dAt (x := (54, .iconst (-1), 1)) DX11_row_0 32 rfl
theorem dX11_row_55 : decode cX11_row 55 = .ok (.ireturn, 1) := dAt (x := (55, .ireturn, 1)) DX11_row_0 33 rfl
def lDX11_could_0 : List (Nat × Instr × Nat) := [(0, .aload_n 0, 1), (1, .iconst 0, 1), (2, .putfield 160, 3), (5, .aload_n 0, 1), (6, .iload_n 1, 1), (7, .invokevirtual 462, 3), (10, .ifCond .eq 24, 3), (13, .aload_n 0, 1), (14, .iload_n 2, 1), (15, .invokevirtual 456, 3), (18, .ifCond .eq 16, 3), (21, .aload_n 0, 1), (22, .getfield 88, 3), (25, .iload_n 1, 1), (26, .iaload, 1), (27, .iload_n 2, 1), (28, .ishr, 1), (29, .iconst 1, 1), (30, .iand, 1), (31, .goto 4, 3), (34, .iconst (-1), 1), (35, .ireturn, 1)]
theorem DX11_could_0 : dAll cX11_could lDX11_could_0 = true := by decide +kernel
theorem dX11_could_0 : decode cX11_could 0 = .ok (.aload_n 0, 1) := dAt (x := (0, .aload_n 0, 1)) DX11_could_0 0 rfl
theorem dX11_could_1 : decode cX11_could 1 = .ok (.iconst 0, 1) := dAt (x := (1, .iconst 0, 1)) DX11_could_0 1 rfl
theorem dX11_could_2 : decode cX11_could 2 = .ok (.putfield 160, 3) := dAt (x := (2, .putfield 160, 3)) DX11_could_0 2 rfl
theorem dX11_could_5 : decode cX11_could 5 = .ok (.aload_n 0, 1) := dAt (x := (5, .aload_n 0, 1)) DX11_could_0 3 rfl
theorem dX11_could_6 : decode cX11_could 6 = .ok (.iload_n 1, 1) := dAt (x := (6, .iload_n 1, 1)) DX11_could_0 4 rfl
theorem dX11_could_7 : decode cX11_could 7 = .ok (.invokevirtual 462, 3) := dAt (x := (7, .invokevirtual 462, 3)) DX11_could_0 5 rfl
theorem dX11_could_10 : decode cX11_could 10 = .ok (.ifCond .eq 24, 3) := dAt (x := (10, .ifCond .eq 24, 3)) DX11_could_0 6 rfl
theorem dX11_could_13 : decode cX11_could 13 = .ok (.aload_n 0, 1) := dAt (x := (13, .aload_n 0, 1)) DX11_could_0 7 rfl
theorem dX11_could_14 : decode cX11_could 14 = .ok (.iload_n 2, 1) := dAt (x := (14, .iload_n 2, 1)) DX11_could_0 8 rfl
theorem dX11_could_15 : decode cX11_could 15 = .ok (.invokevirtual 456, 3) := dAt (x := (15, .invokevirtual 456, 3)) DX11_could_0 9 rfl
theorem dX11_could_18 : decode cX11_could 18 = .ok (.ifCond .eq 16, 3) := dAt (x := (18, .ifCond .eq 16, 3)) DX11_could_0 10 rfl
theorem dX11_could_21 : decode cX11_could 21 = .ok (.aload_n 0, 1) := dAt (x := (21, .aload_n 0, 1)) DX11_could_0 11 rfl
theorem dX11_could_22 : decode cX11_could 22 = .ok (.getfield 88, 3) := dAt (x := (22, .getfield 88, 3)) DX11_could_0 12 rfl
theorem dX11_could_25 : decode cX11_could 25 = .ok (.iload_n 1, 1) := dAt (x := (25, .iload_n 1, 1)) DX11_could_0 13 rfl
theorem dX11_could_26 : decode cX11_could 26 = .ok (.iaload, 1) := dAt (x := (26, .iaload, 1)) DX11_could_0 14 rfl
theorem dX11_could_27 : decode cX11_could 27 = .ok (.iload_n 2, 1) := dAt (x := (27, .iload_n 2, 1)) DX11_could_0 15 rfl
theorem dX11_could_28 : decode cX11_could 28 = .ok (.ishr, 1) := dAt (x := (28, .ishr, 1)) DX11_could_0 16 rfl
theorem dX11_could_29 : decode cX11_could 29 = .ok (.iconst 1, 1) := dAt (x := (29, .iconst 1, 1)) DX11_could_0 17 rfl
theorem dX11_could_30 : decode cX11_could 30 = .ok (.iand, 1) := dAt (x := (30, .iand, 1)) DX11_could_0 18 rfl
theorem dX11_could_31 : decode cX11_could 31 = .ok (.goto 4, 3) := dAt (x := (31, .goto 4, 3)) DX11_could_0 19 rfl
theorem dX11_could_34 : decode cX11_could 34 = .ok (.iconst (-1), 1) := dAt (x := (34, .iconst (-1), 1)) DX11_could_0 20 rfl
theorem dX11_could_35 : decode cX11_could 35 = .ok (.ireturn, 1) := dAt (x := (35, .ireturn, 1)) DX11_could_0 21 rfl
def lDX11_law_0 : List (Nat × Instr × Nat) := [(0, .aload_n 0, 1), (1, .iconst 0, 1), (2, .putfield 160, 3), (5, .iload_n 1, 1), (6, .iconst 0, 1), (7, .iconst 2, 1), (8, .invokestatic 205, 3), (11, .ifCond .eq 20, 3), (14, .aload_n 0, 1), (15, .getfield 57, 3), (18, .iload_n 1, 1), (19, .baload, 1), (20, .ifCond .eq 11, 3), (23, .aload_n 0, 1), (24, .iload_n 2, 1), (25, .invokevirtual 456, 3), (28, .ifCond .ne 7, 3), (31, .ldc2_w 465, 3), (34, .lreturn, 1), (35, .aload_n 0, 1), (36, .iconst 0, 1), (37, .iload_n 2, 1), (38, .invokevirtual 439, 3), (41, .aload_n 0, 1), (42, .iload_n 1, 1), (43, .invokevirtual 425, 3), (46, .lstore_n 3, 1), (47, .aload_n 0, 1), (48, .getfield 347, 3), (51, .ifCond .eq 9, 3), (54, .ldc2_w 465, 3), (57, .goto 4, 3), (60, .lload_n 3, 1), (61, .lreturn, 1)]
theorem DX11_law_0 : dAll cX11_law lDX11_law_0 = true := by decide +kernel
theorem dX11_law_0 : decode cX11_law 0 = .ok (.aload_n 0, 1) := dAt (x := (0, .aload_n 0, 1)) DX11_law_0 0 rfl
theorem dX11_law_1 : decode cX11_law 1 = .ok (.iconst 0, 1) := dAt (x := (1, .iconst 0, 1)) DX11_law_0 1 rfl
theorem dX11_law_2 : decode cX11_law 2 = .ok (.putfield 160, 3) := dAt (x := (2, .putfield 160, 3)) DX11_law_0 2 rfl
theorem dX11_law_5 : decode cX11_law 5 = .ok (.iload_n 1, 1) := dAt (x := (5, .iload_n 1, 1)) DX11_law_0 3 rfl
theorem dX11_law_6 : decode cX11_law 6 = .ok (.iconst 0, 1) := dAt (x := (6, .iconst 0, 1)) DX11_law_0 4 rfl
theorem dX11_law_7 : decode cX11_law 7 = .ok (.iconst 2, 1) := dAt (x := (7, .iconst 2, 1)) DX11_law_0 5 rfl
theorem dX11_law_8 : decode cX11_law 8 = .ok (.invokestatic 205, 3) := dAt (x := (8, .invokestatic 205, 3)) DX11_law_0 6 rfl
theorem dX11_law_11 : decode cX11_law 11 = .ok (.ifCond .eq 20, 3) := dAt (x := (11, .ifCond .eq 20, 3)) DX11_law_0 7 rfl
theorem dX11_law_14 : decode cX11_law 14 = .ok (.aload_n 0, 1) := dAt (x := (14, .aload_n 0, 1)) DX11_law_0 8 rfl
theorem dX11_law_15 : decode cX11_law 15 = .ok (.getfield 57, 3) := dAt (x := (15, .getfield 57, 3)) DX11_law_0 9 rfl
theorem dX11_law_18 : decode cX11_law 18 = .ok (.iload_n 1, 1) := dAt (x := (18, .iload_n 1, 1)) DX11_law_0 10 rfl
theorem dX11_law_19 : decode cX11_law 19 = .ok (.baload, 1) := dAt (x := (19, .baload, 1)) DX11_law_0 11 rfl
theorem dX11_law_20 : decode cX11_law 20 = .ok (.ifCond .eq 11, 3) := dAt (x := (20, .ifCond .eq 11, 3)) DX11_law_0 12 rfl
theorem dX11_law_23 : decode cX11_law 23 = .ok (.aload_n 0, 1) := dAt (x := (23, .aload_n 0, 1)) DX11_law_0 13 rfl
theorem dX11_law_24 : decode cX11_law 24 = .ok (.iload_n 2, 1) := dAt (x := (24, .iload_n 2, 1)) DX11_law_0 14 rfl
theorem dX11_law_25 : decode cX11_law 25 = .ok (.invokevirtual 456, 3) := dAt (x := (25, .invokevirtual 456, 3)) DX11_law_0 15 rfl
theorem dX11_law_28 : decode cX11_law 28 = .ok (.ifCond .ne 7, 3) := dAt (x := (28, .ifCond .ne 7, 3)) DX11_law_0 16 rfl
theorem dX11_law_31 : decode cX11_law 31 = .ok (.ldc2_w 465, 3) := dAt (x := (31, .ldc2_w 465, 3)) DX11_law_0 17 rfl
theorem dX11_law_34 : decode cX11_law 34 = .ok (.lreturn, 1) := dAt (x := (34, .lreturn, 1)) DX11_law_0 18 rfl
theorem dX11_law_35 : decode cX11_law 35 = .ok (.aload_n 0, 1) := dAt (x := (35, .aload_n 0, 1)) DX11_law_0 19 rfl
theorem dX11_law_36 : decode cX11_law 36 = .ok (.iconst 0, 1) := dAt (x := (36, .iconst 0, 1)) DX11_law_0 20 rfl
theorem dX11_law_37 : decode cX11_law 37 = .ok (.iload_n 2, 1) := dAt (x := (37, .iload_n 2, 1)) DX11_law_0 21 rfl
theorem dX11_law_38 : decode cX11_law 38 = .ok (.invokevirtual 439, 3) := dAt (x := (38, .invokevirtual 439, 3)) DX11_law_0 22 rfl
theorem dX11_law_41 : decode cX11_law 41 = .ok (.aload_n 0, 1) := dAt (x := (41, .aload_n 0, 1)) DX11_law_0 23 rfl
theorem dX11_law_42 : decode cX11_law 42 = .ok (.iload_n 1, 1) := dAt (x := (42, .iload_n 1, 1)) DX11_law_0 24 rfl
theorem dX11_law_43 : decode cX11_law 43 = .ok (.invokevirtual 425, 3) := dAt (x := (43, .invokevirtual 425, 3)) DX11_law_0 25 rfl
theorem dX11_law_46 : decode cX11_law 46 = .ok (.lstore_n 3, 1) := dAt (x := (46, .lstore_n 3, 1)) DX11_law_0 26 rfl
theorem dX11_law_47 : decode cX11_law 47 = .ok (.aload_n 0, 1) := dAt (x := (47, .aload_n 0, 1)) DX11_law_0 27 rfl
theorem dX11_law_48 : decode cX11_law 48 = .ok (.getfield 347, 3) := dAt (x := (48, .getfield 347, 3)) DX11_law_0 28 rfl
theorem dX11_law_51 : decode cX11_law 51 = .ok (.ifCond .eq 9, 3) := dAt (x := (51, .ifCond .eq 9, 3)) DX11_law_0 29 rfl
theorem dX11_law_54 : decode cX11_law 54 = .ok (.ldc2_w 465, 3) := dAt (x := (54, .ldc2_w 465, 3)) DX11_law_0 30 rfl
theorem dX11_law_57 : decode cX11_law 57 = .ok (.goto 4, 3) := dAt (x := (57, .goto 4, 3)) DX11_law_0 31 rfl
theorem dX11_law_60 : decode cX11_law 60 = .ok (.lload_n 3, 1) := dAt (x := (60, .lload_n 3, 1)) DX11_law_0 32 rfl
theorem dX11_law_61 : decode cX11_law 61 = .ok (.lreturn, 1) := dAt (x := (61, .lreturn, 1)) DX11_law_0 33 rfl
def lDX11_push_0 : List (Nat × Instr × Nat) := [(0, .aload_n 0, 1), (1, .iconst 0, 1), (2, .putfield 160, 3), (5, .aload_n 0, 1), (6, .iload_n 1, 1), (7, .invokevirtual 456, 3), (10, .ifCond .ne 5, 3), (13, .iconst (-1), 1), (14, .ireturn, 1), (15, .aload_n 0, 1), (16, .invokevirtual 391, 3), (19, .aload_n 0, 1), (20, .iconst 0, 1), (21, .invokevirtual 436, 3), (24, .iload_n 1, 1), (25, .invokestatic 372, 3), (28, .ifCond .ne 6, 3), (31, .bipush (-2), 2), (33, .ireturn, 1), (34, .aload_n 0, 1), (35, .invokevirtual 467, 3), (38, .aload_n 0, 1), (39, .iconst 0, 1), (40, .iload_n 1, 1), (41, .invokevirtual 450, 3), (44, .pop, 1), (45, .aload_n 0, 1), (46, .getfield 94, 3), (49, .iconst 0, 1), (50, .iaload, 1), (51, .invokestatic 381, 3), (54, .ireturn, 1)]
theorem DX11_push_0 : dAll cX11_push lDX11_push_0 = true := by decide +kernel
theorem dX11_push_0 : decode cX11_push 0 = .ok (.aload_n 0, 1) := dAt (x := (0, .aload_n 0, 1)) DX11_push_0 0 rfl
theorem dX11_push_1 : decode cX11_push 1 = .ok (.iconst 0, 1) := dAt (x := (1, .iconst 0, 1)) DX11_push_0 1 rfl
theorem dX11_push_2 : decode cX11_push 2 = .ok (.putfield 160, 3) := dAt (x := (2, .putfield 160, 3)) DX11_push_0 2 rfl
theorem dX11_push_5 : decode cX11_push 5 = .ok (.aload_n 0, 1) := dAt (x := (5, .aload_n 0, 1)) DX11_push_0 3 rfl
theorem dX11_push_6 : decode cX11_push 6 = .ok (.iload_n 1, 1) := dAt (x := (6, .iload_n 1, 1)) DX11_push_0 4 rfl
theorem dX11_push_7 : decode cX11_push 7 = .ok (.invokevirtual 456, 3) := dAt (x := (7, .invokevirtual 456, 3)) DX11_push_0 5 rfl
theorem dX11_push_10 : decode cX11_push 10 = .ok (.ifCond .ne 5, 3) := dAt (x := (10, .ifCond .ne 5, 3)) DX11_push_0 6 rfl
theorem dX11_push_13 : decode cX11_push 13 = .ok (.iconst (-1), 1) := dAt (x := (13, .iconst (-1), 1)) DX11_push_0 7 rfl
theorem dX11_push_14 : decode cX11_push 14 = .ok (.ireturn, 1) := dAt (x := (14, .ireturn, 1)) DX11_push_0 8 rfl
theorem dX11_push_15 : decode cX11_push 15 = .ok (.aload_n 0, 1) := dAt (x := (15, .aload_n 0, 1)) DX11_push_0 9 rfl
theorem dX11_push_16 : decode cX11_push 16 = .ok (.invokevirtual 391, 3) := dAt (x := (16, .invokevirtual 391, 3)) DX11_push_0 10 rfl
theorem dX11_push_19 : decode cX11_push 19 = .ok (.aload_n 0, 1) := dAt (x := (19, .aload_n 0, 1)) DX11_push_0 11 rfl
theorem dX11_push_20 : decode cX11_push 20 = .ok (.iconst 0, 1) := dAt (x := (20, .iconst 0, 1)) DX11_push_0 12 rfl
theorem dX11_push_21 : decode cX11_push 21 = .ok (.invokevirtual 436, 3) := dAt (x := (21, .invokevirtual 436, 3)) DX11_push_0 13 rfl
theorem dX11_push_24 : decode cX11_push 24 = .ok (.iload_n 1, 1) := dAt (x := (24, .iload_n 1, 1)) DX11_push_0 14 rfl
theorem dX11_push_25 : decode cX11_push 25 = .ok (.invokestatic 372, 3) := dAt (x := (25, .invokestatic 372, 3)) DX11_push_0 15 rfl
theorem dX11_push_28 : decode cX11_push 28 = .ok (.ifCond .ne 6, 3) := dAt (x := (28, .ifCond .ne 6, 3)) DX11_push_0 16 rfl
theorem dX11_push_31 : decode cX11_push 31 = .ok (.bipush (-2), 2) := dAt (x := (31, .bipush (-2), 2)) DX11_push_0 17 rfl
theorem dX11_push_33 : decode cX11_push 33 = .ok (.ireturn, 1) := dAt (x := (33, .ireturn, 1)) DX11_push_0 18 rfl
theorem dX11_push_34 : decode cX11_push 34 = .ok (.aload_n 0, 1) := dAt (x := (34, .aload_n 0, 1)) DX11_push_0 19 rfl
theorem dX11_push_35 : decode cX11_push 35 = .ok (.invokevirtual 467, 3) := dAt (x := (35, .invokevirtual 467, 3)) DX11_push_0 20 rfl
theorem dX11_push_38 : decode cX11_push 38 = .ok (.aload_n 0, 1) := dAt (x := (38, .aload_n 0, 1)) DX11_push_0 21 rfl
theorem dX11_push_39 : decode cX11_push 39 = .ok (.iconst 0, 1) := dAt (x := (39, .iconst 0, 1)) DX11_push_0 22 rfl
theorem dX11_push_40 : decode cX11_push 40 = .ok (.iload_n 1, 1) := dAt (x := (40, .iload_n 1, 1)) DX11_push_0 23 rfl
theorem dX11_push_41 : decode cX11_push 41 = .ok (.invokevirtual 450, 3) := dAt (x := (41, .invokevirtual 450, 3)) DX11_push_0 24 rfl
theorem dX11_push_44 : decode cX11_push 44 = .ok (.pop, 1) := dAt (x := (44, .pop, 1)) DX11_push_0 25 rfl
theorem dX11_push_45 : decode cX11_push 45 = .ok (.aload_n 0, 1) := dAt (x := (45, .aload_n 0, 1)) DX11_push_0 26 rfl
theorem dX11_push_46 : decode cX11_push 46 = .ok (.getfield 94, 3) := dAt (x := (46, .getfield 94, 3)) DX11_push_0 27 rfl
theorem dX11_push_49 : decode cX11_push 49 = .ok (.iconst 0, 1) := dAt (x := (49, .iconst 0, 1)) DX11_push_0 28 rfl
theorem dX11_push_50 : decode cX11_push 50 = .ok (.iaload, 1) := dAt (x := (50, .iaload, 1)) DX11_push_0 29 rfl
theorem dX11_push_51 : decode cX11_push 51 = .ok (.invokestatic 381, 3) := dAt (x := (51, .invokestatic 381, 3)) DX11_push_0 30 rfl
theorem dX11_push_54 : decode cX11_push 54 = .ok (.ireturn, 1) := dAt (x := (54, .ireturn, 1)) DX11_push_0 31 rfl
def lDX11_force_0 : List (Nat × Instr × Nat) := [(0, .aload_n 0, 1), (1, .iconst 0, 1), (2, .putfield 160, 3), (5, .aload_n 0, 1), (6, .iload_n 1, 1), (7, .invokevirtual 456, 3), (10, .ifCond .ne 5, 3), (13, .iconst (-1), 1), (14, .ireturn, 1), (15, .aload_n 0, 1), (16, .invokevirtual 467, 3), (19, .aload_n 0, 1), (20, .getfield 94, 3), (23, .iconst 0, 1), (24, .dup2, 1), (25, .iaload, 1), (26, .iconst 1, 1), (27, .iload_n 1, 1), (28, .ishl, 1), (29, .ixor, 1), (30, .iastore, 1), (31, .aload_n 0, 1), (32, .getfield 94, 3), (35, .iconst 0, 1), (36, .iaload, 1), (37, .iload_n 1, 1), (38, .ishr, 1), (39, .iconst 1, 1), (40, .iand, 1), (41, .ireturn, 1)]
theorem DX11_force_0 : dAll cX11_force lDX11_force_0 = true := by decide +kernel
theorem dX11_force_0 : decode cX11_force 0 = .ok (.aload_n 0, 1) := dAt (x := (0, .aload_n 0, 1)) DX11_force_0 0 rfl
theorem dX11_force_1 : decode cX11_force 1 = .ok (.iconst 0, 1) := dAt (x := (1, .iconst 0, 1)) DX11_force_0 1 rfl
theorem dX11_force_2 : decode cX11_force 2 = .ok (.putfield 160, 3) := dAt (x := (2, .putfield 160, 3)) DX11_force_0 2 rfl
theorem dX11_force_5 : decode cX11_force 5 = .ok (.aload_n 0, 1) := dAt (x := (5, .aload_n 0, 1)) DX11_force_0 3 rfl
theorem dX11_force_6 : decode cX11_force 6 = .ok (.iload_n 1, 1) := dAt (x := (6, .iload_n 1, 1)) DX11_force_0 4 rfl
theorem dX11_force_7 : decode cX11_force 7 = .ok (.invokevirtual 456, 3) := dAt (x := (7, .invokevirtual 456, 3)) DX11_force_0 5 rfl
theorem dX11_force_10 : decode cX11_force 10 = .ok (.ifCond .ne 5, 3) := dAt (x := (10, .ifCond .ne 5, 3)) DX11_force_0 6 rfl
theorem dX11_force_13 : decode cX11_force 13 = .ok (.iconst (-1), 1) := dAt (x := (13, .iconst (-1), 1)) DX11_force_0 7 rfl
theorem dX11_force_14 : decode cX11_force 14 = .ok (.ireturn, 1) := dAt (x := (14, .ireturn, 1)) DX11_force_0 8 rfl
theorem dX11_force_15 : decode cX11_force 15 = .ok (.aload_n 0, 1) := dAt (x := (15, .aload_n 0, 1)) DX11_force_0 9 rfl
theorem dX11_force_16 : decode cX11_force 16 = .ok (.invokevirtual 467, 3) := dAt (x := (16, .invokevirtual 467, 3)) DX11_force_0 10 rfl
theorem dX11_force_19 : decode cX11_force 19 = .ok (.aload_n 0, 1) := dAt (x := (19, .aload_n 0, 1)) DX11_force_0 11 rfl
theorem dX11_force_20 : decode cX11_force 20 = .ok (.getfield 94, 3) := dAt (x := (20, .getfield 94, 3)) DX11_force_0 12 rfl
theorem dX11_force_23 : decode cX11_force 23 = .ok (.iconst 0, 1) := dAt (x := (23, .iconst 0, 1)) DX11_force_0 13 rfl
theorem dX11_force_24 : decode cX11_force 24 = .ok (.dup2, 1) := dAt (x := (24, .dup2, 1)) DX11_force_0 14 rfl
theorem dX11_force_25 : decode cX11_force 25 = .ok (.iaload, 1) := dAt (x := (25, .iaload, 1)) DX11_force_0 15 rfl
theorem dX11_force_26 : decode cX11_force 26 = .ok (.iconst 1, 1) := dAt (x := (26, .iconst 1, 1)) DX11_force_0 16 rfl
theorem dX11_force_27 : decode cX11_force 27 = .ok (.iload_n 1, 1) := dAt (x := (27, .iload_n 1, 1)) DX11_force_0 17 rfl
theorem dX11_force_28 : decode cX11_force 28 = .ok (.ishl, 1) := dAt (x := (28, .ishl, 1)) DX11_force_0 18 rfl
theorem dX11_force_29 : decode cX11_force 29 = .ok (.ixor, 1) := dAt (x := (29, .ixor, 1)) DX11_force_0 19 rfl
theorem dX11_force_30 : decode cX11_force 30 = .ok (.iastore, 1) := dAt (x := (30, .iastore, 1)) DX11_force_0 20 rfl
theorem dX11_force_31 : decode cX11_force 31 = .ok (.aload_n 0, 1) := dAt (x := (31, .aload_n 0, 1)) DX11_force_0 21 rfl
theorem dX11_force_32 : decode cX11_force 32 = .ok (.getfield 94, 3) := dAt (x := (32, .getfield 94, 3)) DX11_force_0 22 rfl
theorem dX11_force_35 : decode cX11_force 35 = .ok (.iconst 0, 1) := dAt (x := (35, .iconst 0, 1)) DX11_force_0 23 rfl
theorem dX11_force_36 : decode cX11_force 36 = .ok (.iaload, 1) := dAt (x := (36, .iaload, 1)) DX11_force_0 24 rfl
theorem dX11_force_37 : decode cX11_force 37 = .ok (.iload_n 1, 1) := dAt (x := (37, .iload_n 1, 1)) DX11_force_0 25 rfl
theorem dX11_force_38 : decode cX11_force 38 = .ok (.ishr, 1) := dAt (x := (38, .ishr, 1)) DX11_force_0 26 rfl
theorem dX11_force_39 : decode cX11_force 39 = .ok (.iconst 1, 1) := dAt (x := (39, .iconst 1, 1)) DX11_force_0 27 rfl
theorem dX11_force_40 : decode cX11_force 40 = .ok (.iand, 1) := dAt (x := (40, .iand, 1)) DX11_force_0 28 rfl
theorem dX11_force_41 : decode cX11_force 41 = .ok (.ireturn, 1) := dAt (x := (41, .ireturn, 1)) DX11_force_0 29 rfl
def lDX11_seal_0 : List (Nat × Instr × Nat) := [(0, .aload_n 0, 1), (1, .iconst 0, 1), (2, .putfield 160, 3), (5, .aload_n 0, 1), (6, .iload_n 1, 1), (7, .invokevirtual 456, 3), (10, .ifCond .ne 5, 3), (13, .iconst (-1), 1), (14, .ireturn, 1), (15, .aload_n 0, 1), (16, .invokevirtual 467, 3), (19, .aload_n 0, 1), (20, .getfield 97, 3), (23, .iconst 0, 1), (24, .dup2, 1), (25, .iaload, 1), (26, .iconst 1, 1), (27, .iload_n 1, 1), (28, .ishl, 1), (29, .ixor, 1), (30, .iastore, 1), (31, .aload_n 0, 1), (32, .getfield 97, 3), (35, .iconst 0, 1), (36, .iaload, 1), (37, .iload_n 1, 1), (38, .ishr, 1), (39, .iconst 1, 1), (40, .iand, 1), (41, .ireturn, 1)]
theorem DX11_seal_0 : dAll cX11_seal lDX11_seal_0 = true := by decide +kernel
theorem dX11_seal_0 : decode cX11_seal 0 = .ok (.aload_n 0, 1) := dAt (x := (0, .aload_n 0, 1)) DX11_seal_0 0 rfl
theorem dX11_seal_1 : decode cX11_seal 1 = .ok (.iconst 0, 1) := dAt (x := (1, .iconst 0, 1)) DX11_seal_0 1 rfl
theorem dX11_seal_2 : decode cX11_seal 2 = .ok (.putfield 160, 3) := dAt (x := (2, .putfield 160, 3)) DX11_seal_0 2 rfl
theorem dX11_seal_5 : decode cX11_seal 5 = .ok (.aload_n 0, 1) := dAt (x := (5, .aload_n 0, 1)) DX11_seal_0 3 rfl
theorem dX11_seal_6 : decode cX11_seal 6 = .ok (.iload_n 1, 1) := dAt (x := (6, .iload_n 1, 1)) DX11_seal_0 4 rfl
theorem dX11_seal_7 : decode cX11_seal 7 = .ok (.invokevirtual 456, 3) := dAt (x := (7, .invokevirtual 456, 3)) DX11_seal_0 5 rfl
theorem dX11_seal_10 : decode cX11_seal 10 = .ok (.ifCond .ne 5, 3) := dAt (x := (10, .ifCond .ne 5, 3)) DX11_seal_0 6 rfl
theorem dX11_seal_13 : decode cX11_seal 13 = .ok (.iconst (-1), 1) := dAt (x := (13, .iconst (-1), 1)) DX11_seal_0 7 rfl
theorem dX11_seal_14 : decode cX11_seal 14 = .ok (.ireturn, 1) := dAt (x := (14, .ireturn, 1)) DX11_seal_0 8 rfl
theorem dX11_seal_15 : decode cX11_seal 15 = .ok (.aload_n 0, 1) := dAt (x := (15, .aload_n 0, 1)) DX11_seal_0 9 rfl
theorem dX11_seal_16 : decode cX11_seal 16 = .ok (.invokevirtual 467, 3) := dAt (x := (16, .invokevirtual 467, 3)) DX11_seal_0 10 rfl
theorem dX11_seal_19 : decode cX11_seal 19 = .ok (.aload_n 0, 1) := dAt (x := (19, .aload_n 0, 1)) DX11_seal_0 11 rfl
theorem dX11_seal_20 : decode cX11_seal 20 = .ok (.getfield 97, 3) := dAt (x := (20, .getfield 97, 3)) DX11_seal_0 12 rfl
theorem dX11_seal_23 : decode cX11_seal 23 = .ok (.iconst 0, 1) := dAt (x := (23, .iconst 0, 1)) DX11_seal_0 13 rfl
theorem dX11_seal_24 : decode cX11_seal 24 = .ok (.dup2, 1) := dAt (x := (24, .dup2, 1)) DX11_seal_0 14 rfl
theorem dX11_seal_25 : decode cX11_seal 25 = .ok (.iaload, 1) := dAt (x := (25, .iaload, 1)) DX11_seal_0 15 rfl
theorem dX11_seal_26 : decode cX11_seal 26 = .ok (.iconst 1, 1) := dAt (x := (26, .iconst 1, 1)) DX11_seal_0 16 rfl
theorem dX11_seal_27 : decode cX11_seal 27 = .ok (.iload_n 1, 1) := dAt (x := (27, .iload_n 1, 1)) DX11_seal_0 17 rfl
theorem dX11_seal_28 : decode cX11_seal 28 = .ok (.ishl, 1) := dAt (x := (28, .ishl, 1)) DX11_seal_0 18 rfl
theorem dX11_seal_29 : decode cX11_seal 29 = .ok (.ixor, 1) := dAt (x := (29, .ixor, 1)) DX11_seal_0 19 rfl
theorem dX11_seal_30 : decode cX11_seal 30 = .ok (.iastore, 1) := dAt (x := (30, .iastore, 1)) DX11_seal_0 20 rfl
theorem dX11_seal_31 : decode cX11_seal 31 = .ok (.aload_n 0, 1) := dAt (x := (31, .aload_n 0, 1)) DX11_seal_0 21 rfl
theorem dX11_seal_32 : decode cX11_seal 32 = .ok (.getfield 97, 3) := dAt (x := (32, .getfield 97, 3)) DX11_seal_0 22 rfl
theorem dX11_seal_35 : decode cX11_seal 35 = .ok (.iconst 0, 1) := dAt (x := (35, .iconst 0, 1)) DX11_seal_0 23 rfl
theorem dX11_seal_36 : decode cX11_seal 36 = .ok (.iaload, 1) := dAt (x := (36, .iaload, 1)) DX11_seal_0 24 rfl
theorem dX11_seal_37 : decode cX11_seal 37 = .ok (.iload_n 1, 1) := dAt (x := (37, .iload_n 1, 1)) DX11_seal_0 25 rfl
theorem dX11_seal_38 : decode cX11_seal 38 = .ok (.ishr, 1) := dAt (x := (38, .ishr, 1)) DX11_seal_0 26 rfl
theorem dX11_seal_39 : decode cX11_seal 39 = .ok (.iconst 1, 1) := dAt (x := (39, .iconst 1, 1)) DX11_seal_0 27 rfl
theorem dX11_seal_40 : decode cX11_seal 40 = .ok (.iand, 1) := dAt (x := (40, .iand, 1)) DX11_seal_0 28 rfl
theorem dX11_seal_41 : decode cX11_seal 41 = .ok (.ireturn, 1) := dAt (x := (41, .ireturn, 1)) DX11_seal_0 29 rfl
def lDX11_go_0 : List (Nat × Instr × Nat) := [(0, .aload_n 0, 1), (1, .iconst 0, 1), (2, .putfield 160, 3), (5, .iload_n 1, 1), (6, .iconst 0, 1), (7, .sipush 200, 3), (10, .invokestatic 205, 3), (13, .ifCond .eq 17, 3), (16, .aload_n 0, 1), (17, .getfield 106, 3), (20, .iconst 0, 1), (21, .iaload, 1), (22, .iload_n 1, 1), (23, .iadd, 1), (24, .sipush 9000, 3), (27, .if_icmp .le 5, 3), (30, .iconst (-1), 1), (31, .ireturn, 1), (32, .aload_n 0, 1), (33, .invokevirtual 391, 3), (36, .aload_n 0, 1), (37, .iconst 1, 1), (38, .putfield 403, 3), (41, .iconst 0, 1), (42, .istore_n 2, 1), (43, .iload_n 2, 1), (44, .iload_n 1, 1), (45, .if_icmp .ge 14, 3), (48, .aload_n 0, 1), (49, .iconst 0, 1), (50, .invokevirtual 453, 3), (53, .iinc 2 1, 3), (56, .goto (-13), 3), (59, .aload_n 0, 1), (60, .iconst 0, 1), (61, .putfield 403, 3), (64, .aload_n 0, 1), (65, .iload_n 1, 1), (66, .ifCond .le 7, 3), (69, .iconst 0, 1), (70, .goto 7, 3), (73, .aload_n 0, 1), (74, .getfield 397, 3), (77, .putfield 397, 3), (80, .aload_n 0, 1), (81, .getfield 106, 3), (84, .iconst 0, 1), (85, .iaload, 1), (86, .ireturn, 1)]
theorem DX11_go_0 : dAll cX11_go lDX11_go_0 = true := by decide +kernel
theorem dX11_go_0 : decode cX11_go 0 = .ok (.aload_n 0, 1) := dAt (x := (0, .aload_n 0, 1)) DX11_go_0 0 rfl
theorem dX11_go_1 : decode cX11_go 1 = .ok (.iconst 0, 1) := dAt (x := (1, .iconst 0, 1)) DX11_go_0 1 rfl
theorem dX11_go_2 : decode cX11_go 2 = .ok (.putfield 160, 3) := dAt (x := (2, .putfield 160, 3)) DX11_go_0 2 rfl
theorem dX11_go_5 : decode cX11_go 5 = .ok (.iload_n 1, 1) := dAt (x := (5, .iload_n 1, 1)) DX11_go_0 3 rfl
theorem dX11_go_6 : decode cX11_go 6 = .ok (.iconst 0, 1) := dAt (x := (6, .iconst 0, 1)) DX11_go_0 4 rfl
theorem dX11_go_7 : decode cX11_go 7 = .ok (.sipush 200, 3) := dAt (x := (7, .sipush 200, 3)) DX11_go_0 5 rfl
theorem dX11_go_10 : decode cX11_go 10 = .ok (.invokestatic 205, 3) := dAt (x := (10, .invokestatic 205, 3)) DX11_go_0 6 rfl
theorem dX11_go_13 : decode cX11_go 13 = .ok (.ifCond .eq 17, 3) := dAt (x := (13, .ifCond .eq 17, 3)) DX11_go_0 7 rfl
theorem dX11_go_16 : decode cX11_go 16 = .ok (.aload_n 0, 1) := dAt (x := (16, .aload_n 0, 1)) DX11_go_0 8 rfl
theorem dX11_go_17 : decode cX11_go 17 = .ok (.getfield 106, 3) := dAt (x := (17, .getfield 106, 3)) DX11_go_0 9 rfl
theorem dX11_go_20 : decode cX11_go 20 = .ok (.iconst 0, 1) := dAt (x := (20, .iconst 0, 1)) DX11_go_0 10 rfl
theorem dX11_go_21 : decode cX11_go 21 = .ok (.iaload, 1) := dAt (x := (21, .iaload, 1)) DX11_go_0 11 rfl
theorem dX11_go_22 : decode cX11_go 22 = .ok (.iload_n 1, 1) := dAt (x := (22, .iload_n 1, 1)) DX11_go_0 12 rfl
theorem dX11_go_23 : decode cX11_go 23 = .ok (.iadd, 1) := dAt (x := (23, .iadd, 1)) DX11_go_0 13 rfl
theorem dX11_go_24 : decode cX11_go 24 = .ok (.sipush 9000, 3) := dAt (x := (24, .sipush 9000, 3)) DX11_go_0 14 rfl
theorem dX11_go_27 : decode cX11_go 27 = .ok (.if_icmp .le 5, 3) := dAt (x := (27, .if_icmp .le 5, 3)) DX11_go_0 15 rfl
theorem dX11_go_30 : decode cX11_go 30 = .ok (.iconst (-1), 1) := dAt (x := (30, .iconst (-1), 1)) DX11_go_0 16 rfl
theorem dX11_go_31 : decode cX11_go 31 = .ok (.ireturn, 1) := dAt (x := (31, .ireturn, 1)) DX11_go_0 17 rfl
theorem dX11_go_32 : decode cX11_go 32 = .ok (.aload_n 0, 1) := dAt (x := (32, .aload_n 0, 1)) DX11_go_0 18 rfl
theorem dX11_go_33 : decode cX11_go 33 = .ok (.invokevirtual 391, 3) := dAt (x := (33, .invokevirtual 391, 3)) DX11_go_0 19 rfl
theorem dX11_go_36 : decode cX11_go 36 = .ok (.aload_n 0, 1) := dAt (x := (36, .aload_n 0, 1)) DX11_go_0 20 rfl
theorem dX11_go_37 : decode cX11_go 37 = .ok (.iconst 1, 1) := dAt (x := (37, .iconst 1, 1)) DX11_go_0 21 rfl
theorem dX11_go_38 : decode cX11_go 38 = .ok (.putfield 403, 3) := dAt (x := (38, .putfield 403, 3)) DX11_go_0 22 rfl
theorem dX11_go_41 : decode cX11_go 41 = .ok (.iconst 0, 1) := dAt (x := (41, .iconst 0, 1)) DX11_go_0 23 rfl
theorem dX11_go_42 : decode cX11_go 42 = .ok (.istore_n 2, 1) := dAt (x := (42, .istore_n 2, 1)) DX11_go_0 24 rfl
theorem dX11_go_43 : decode cX11_go 43 = .ok (.iload_n 2, 1) := dAt (x := (43, .iload_n 2, 1)) DX11_go_0 25 rfl
theorem dX11_go_44 : decode cX11_go 44 = .ok (.iload_n 1, 1) := dAt (x := (44, .iload_n 1, 1)) DX11_go_0 26 rfl
theorem dX11_go_45 : decode cX11_go 45 = .ok (.if_icmp .ge 14, 3) := dAt (x := (45, .if_icmp .ge 14, 3)) DX11_go_0 27 rfl
theorem dX11_go_48 : decode cX11_go 48 = .ok (.aload_n 0, 1) := dAt (x := (48, .aload_n 0, 1)) DX11_go_0 28 rfl
theorem dX11_go_49 : decode cX11_go 49 = .ok (.iconst 0, 1) := dAt (x := (49, .iconst 0, 1)) DX11_go_0 29 rfl
theorem dX11_go_50 : decode cX11_go 50 = .ok (.invokevirtual 453, 3) := dAt (x := (50, .invokevirtual 453, 3)) DX11_go_0 30 rfl
theorem dX11_go_53 : decode cX11_go 53 = .ok (.iinc 2 1, 3) := dAt (x := (53, .iinc 2 1, 3)) DX11_go_0 31 rfl
theorem dX11_go_56 : decode cX11_go 56 = .ok (.goto (-13), 3) := dAt (x := (56, .goto (-13), 3)) DX11_go_0 32 rfl
theorem dX11_go_59 : decode cX11_go 59 = .ok (.aload_n 0, 1) := dAt (x := (59, .aload_n 0, 1)) DX11_go_0 33 rfl
theorem dX11_go_60 : decode cX11_go 60 = .ok (.iconst 0, 1) := dAt (x := (60, .iconst 0, 1)) DX11_go_0 34 rfl
theorem dX11_go_61 : decode cX11_go 61 = .ok (.putfield 403, 3) := dAt (x := (61, .putfield 403, 3)) DX11_go_0 35 rfl
theorem dX11_go_64 : decode cX11_go 64 = .ok (.aload_n 0, 1) := dAt (x := (64, .aload_n 0, 1)) DX11_go_0 36 rfl
theorem dX11_go_65 : decode cX11_go 65 = .ok (.iload_n 1, 1) := dAt (x := (65, .iload_n 1, 1)) DX11_go_0 37 rfl
theorem dX11_go_66 : decode cX11_go 66 = .ok (.ifCond .le 7, 3) := dAt (x := (66, .ifCond .le 7, 3)) DX11_go_0 38 rfl
theorem dX11_go_69 : decode cX11_go 69 = .ok (.iconst 0, 1) := dAt (x := (69, .iconst 0, 1)) DX11_go_0 39 rfl
theorem dX11_go_70 : decode cX11_go 70 = .ok (.goto 7, 3) := dAt (x := (70, .goto 7, 3)) DX11_go_0 40 rfl
theorem dX11_go_73 : decode cX11_go 73 = .ok (.aload_n 0, 1) := dAt (x := (73, .aload_n 0, 1)) DX11_go_0 41 rfl
theorem dX11_go_74 : decode cX11_go 74 = .ok (.getfield 397, 3) := dAt (x := (74, .getfield 397, 3)) DX11_go_0 42 rfl
theorem dX11_go_77 : decode cX11_go 77 = .ok (.putfield 397, 3) := dAt (x := (77, .putfield 397, 3)) DX11_go_0 43 rfl
theorem dX11_go_80 : decode cX11_go 80 = .ok (.aload_n 0, 1) := dAt (x := (80, .aload_n 0, 1)) DX11_go_0 44 rfl
theorem dX11_go_81 : decode cX11_go 81 = .ok (.getfield 106, 3) := dAt (x := (81, .getfield 106, 3)) DX11_go_0 45 rfl
theorem dX11_go_84 : decode cX11_go 84 = .ok (.iconst 0, 1) := dAt (x := (84, .iconst 0, 1)) DX11_go_0 46 rfl
theorem dX11_go_85 : decode cX11_go 85 = .ok (.iaload, 1) := dAt (x := (85, .iaload, 1)) DX11_go_0 47 rfl
theorem dX11_go_86 : decode cX11_go 86 = .ok (.ireturn, 1) := dAt (x := (86, .ireturn, 1)) DX11_go_0 48 rfl
def lDX11_ahead_0 : List (Nat × Instr × Nat) := [(0, .aload_n 0, 1), (1, .iconst 0, 1), (2, .putfield 160, 3), (5, .iload_n 1, 1), (6, .iconst 0, 1), (7, .sipush 200, 3), (10, .invokestatic 205, 3), (13, .ifCond .eq 12, 3), (16, .iload_n 2, 1), (17, .iconst 0, 1), (18, .iconst 4, 1), (19, .invokestatic 205, 3), (22, .ifCond .ne 5, 3), (25, .iconst (-1), 1), (26, .ireturn, 1), (27, .aload_n 0, 1), (28, .invokevirtual 470, 3), (31, .aload_n 0, 1), (32, .iload_n 1, 1), (33, .invokevirtual 473, 3), (36, .iload_n 2, 1), (37, .tableswitch 79 0 3 #[31, 41, 55, 69], 31), (68, .aload_n 0, 1), (69, .getfield 94, 3), (72, .iconst 1, 1), (73, .iaload, 1), (74, .invokestatic 381, 3), (77, .ireturn, 1), (78, .aload_n 0, 1), (79, .getfield 100, 3), (82, .iconst 1, 1), (83, .iaload, 1), (84, .aload_n 0, 1), (85, .getfield 100, 3), (88, .iconst 0, 1), (89, .iaload, 1), (90, .isub, 1), (91, .ireturn, 1), (92, .aload_n 0, 1), (93, .getfield 103, 3), (96, .iconst 1, 1), (97, .iaload, 1), (98, .aload_n 0, 1), (99, .getfield 103, 3), (102, .iconst 0, 1), (103, .iaload, 1), (104, .isub, 1), (105, .ireturn, 1), (106, .aload_n 0, 1), (107, .getfield 97, 3), (110, .iconst 1, 1), (111, .iaload, 1), (112, .invokestatic 381, 3), (115, .ireturn, 1), (116, .aload_n 0, 1), (117, .getfield 94, 3), (120, .iconst 1, 1), (121, .iaload, 1), (122, .ireturn, 1)]
theorem DX11_ahead_0 : dAll cX11_ahead lDX11_ahead_0 = true := by decide +kernel
theorem dX11_ahead_0 : decode cX11_ahead 0 = .ok (.aload_n 0, 1) := dAt (x := (0, .aload_n 0, 1)) DX11_ahead_0 0 rfl
theorem dX11_ahead_1 : decode cX11_ahead 1 = .ok (.iconst 0, 1) := dAt (x := (1, .iconst 0, 1)) DX11_ahead_0 1 rfl
theorem dX11_ahead_2 : decode cX11_ahead 2 = .ok (.putfield 160, 3) := dAt (x := (2, .putfield 160, 3)) DX11_ahead_0 2 rfl
theorem dX11_ahead_5 : decode cX11_ahead 5 = .ok (.iload_n 1, 1) := dAt (x := (5, .iload_n 1, 1)) DX11_ahead_0 3 rfl
theorem dX11_ahead_6 : decode cX11_ahead 6 = .ok (.iconst 0, 1) := dAt (x := (6, .iconst 0, 1)) DX11_ahead_0 4 rfl
theorem dX11_ahead_7 : decode cX11_ahead 7 = .ok (.sipush 200, 3) := dAt (x := (7, .sipush 200, 3)) DX11_ahead_0 5 rfl
theorem dX11_ahead_10 : decode cX11_ahead 10 = .ok (.invokestatic 205, 3) := dAt (x := (10, .invokestatic 205, 3)) DX11_ahead_0 6 rfl
theorem dX11_ahead_13 : decode cX11_ahead 13 = .ok (.ifCond .eq 12, 3) := dAt (x := (13, .ifCond .eq 12, 3)) DX11_ahead_0 7 rfl
theorem dX11_ahead_16 : decode cX11_ahead 16 = .ok (.iload_n 2, 1) := dAt (x := (16, .iload_n 2, 1)) DX11_ahead_0 8 rfl
theorem dX11_ahead_17 : decode cX11_ahead 17 = .ok (.iconst 0, 1) := dAt (x := (17, .iconst 0, 1)) DX11_ahead_0 9 rfl
theorem dX11_ahead_18 : decode cX11_ahead 18 = .ok (.iconst 4, 1) := dAt (x := (18, .iconst 4, 1)) DX11_ahead_0 10 rfl
theorem dX11_ahead_19 : decode cX11_ahead 19 = .ok (.invokestatic 205, 3) := dAt (x := (19, .invokestatic 205, 3)) DX11_ahead_0 11 rfl
theorem dX11_ahead_22 : decode cX11_ahead 22 = .ok (.ifCond .ne 5, 3) := dAt (x := (22, .ifCond .ne 5, 3)) DX11_ahead_0 12 rfl
theorem dX11_ahead_25 : decode cX11_ahead 25 = .ok (.iconst (-1), 1) := dAt (x := (25, .iconst (-1), 1)) DX11_ahead_0 13 rfl
theorem dX11_ahead_26 : decode cX11_ahead 26 = .ok (.ireturn, 1) := dAt (x := (26, .ireturn, 1)) DX11_ahead_0 14 rfl
theorem dX11_ahead_27 : decode cX11_ahead 27 = .ok (.aload_n 0, 1) := dAt (x := (27, .aload_n 0, 1)) DX11_ahead_0 15 rfl
theorem dX11_ahead_28 : decode cX11_ahead 28 = .ok (.invokevirtual 470, 3) := dAt (x := (28, .invokevirtual 470, 3)) DX11_ahead_0 16 rfl
theorem dX11_ahead_31 : decode cX11_ahead 31 = .ok (.aload_n 0, 1) := dAt (x := (31, .aload_n 0, 1)) DX11_ahead_0 17 rfl
theorem dX11_ahead_32 : decode cX11_ahead 32 = .ok (.iload_n 1, 1) := dAt (x := (32, .iload_n 1, 1)) DX11_ahead_0 18 rfl
theorem dX11_ahead_33 : decode cX11_ahead 33 = .ok (.invokevirtual 473, 3) := dAt (x := (33, .invokevirtual 473, 3)) DX11_ahead_0 19 rfl
theorem dX11_ahead_36 : decode cX11_ahead 36 = .ok (.iload_n 2, 1) := dAt (x := (36, .iload_n 2, 1)) DX11_ahead_0 20 rfl
theorem dX11_ahead_37 : decode cX11_ahead 37 = .ok (.tableswitch 79 0 3 #[31, 41, 55, 69], 31) := dAt (x := (37, .tableswitch 79 0 3 #[31, 41, 55, 69], 31)) DX11_ahead_0 21 rfl
theorem dX11_ahead_68 : decode cX11_ahead 68 = .ok (.aload_n 0, 1) := dAt (x := (68, .aload_n 0, 1)) DX11_ahead_0 22 rfl
theorem dX11_ahead_69 : decode cX11_ahead 69 = .ok (.getfield 94, 3) := dAt (x := (69, .getfield 94, 3)) DX11_ahead_0 23 rfl
theorem dX11_ahead_72 : decode cX11_ahead 72 = .ok (.iconst 1, 1) := dAt (x := (72, .iconst 1, 1)) DX11_ahead_0 24 rfl
theorem dX11_ahead_73 : decode cX11_ahead 73 = .ok (.iaload, 1) := dAt (x := (73, .iaload, 1)) DX11_ahead_0 25 rfl
theorem dX11_ahead_74 : decode cX11_ahead 74 = .ok (.invokestatic 381, 3) := dAt (x := (74, .invokestatic 381, 3)) DX11_ahead_0 26 rfl
theorem dX11_ahead_77 : decode cX11_ahead 77 = .ok (.ireturn, 1) := dAt (x := (77, .ireturn, 1)) DX11_ahead_0 27 rfl
theorem dX11_ahead_78 : decode cX11_ahead 78 = .ok (.aload_n 0, 1) := dAt (x := (78, .aload_n 0, 1)) DX11_ahead_0 28 rfl
theorem dX11_ahead_79 : decode cX11_ahead 79 = .ok (.getfield 100, 3) := dAt (x := (79, .getfield 100, 3)) DX11_ahead_0 29 rfl
theorem dX11_ahead_82 : decode cX11_ahead 82 = .ok (.iconst 1, 1) := dAt (x := (82, .iconst 1, 1)) DX11_ahead_0 30 rfl
theorem dX11_ahead_83 : decode cX11_ahead 83 = .ok (.iaload, 1) := dAt (x := (83, .iaload, 1)) DX11_ahead_0 31 rfl
theorem dX11_ahead_84 : decode cX11_ahead 84 = .ok (.aload_n 0, 1) := dAt (x := (84, .aload_n 0, 1)) DX11_ahead_0 32 rfl
theorem dX11_ahead_85 : decode cX11_ahead 85 = .ok (.getfield 100, 3) := dAt (x := (85, .getfield 100, 3)) DX11_ahead_0 33 rfl
theorem dX11_ahead_88 : decode cX11_ahead 88 = .ok (.iconst 0, 1) := dAt (x := (88, .iconst 0, 1)) DX11_ahead_0 34 rfl
theorem dX11_ahead_89 : decode cX11_ahead 89 = .ok (.iaload, 1) := dAt (x := (89, .iaload, 1)) DX11_ahead_0 35 rfl
theorem dX11_ahead_90 : decode cX11_ahead 90 = .ok (.isub, 1) := dAt (x := (90, .isub, 1)) DX11_ahead_0 36 rfl
theorem dX11_ahead_91 : decode cX11_ahead 91 = .ok (.ireturn, 1) := dAt (x := (91, .ireturn, 1)) DX11_ahead_0 37 rfl
theorem dX11_ahead_92 : decode cX11_ahead 92 = .ok (.aload_n 0, 1) := dAt (x := (92, .aload_n 0, 1)) DX11_ahead_0 38 rfl
theorem dX11_ahead_93 : decode cX11_ahead 93 = .ok (.getfield 103, 3) := dAt (x := (93, .getfield 103, 3)) DX11_ahead_0 39 rfl
theorem dX11_ahead_96 : decode cX11_ahead 96 = .ok (.iconst 1, 1) := dAt (x := (96, .iconst 1, 1)) DX11_ahead_0 40 rfl
theorem dX11_ahead_97 : decode cX11_ahead 97 = .ok (.iaload, 1) := dAt (x := (97, .iaload, 1)) DX11_ahead_0 41 rfl
theorem dX11_ahead_98 : decode cX11_ahead 98 = .ok (.aload_n 0, 1) := dAt (x := (98, .aload_n 0, 1)) DX11_ahead_0 42 rfl
theorem dX11_ahead_99 : decode cX11_ahead 99 = .ok (.getfield 103, 3) := dAt (x := (99, .getfield 103, 3)) DX11_ahead_0 43 rfl
theorem dX11_ahead_102 : decode cX11_ahead 102 = .ok (.iconst 0, 1) := dAt (x := (102, .iconst 0, 1)) DX11_ahead_0 44 rfl
theorem dX11_ahead_103 : decode cX11_ahead 103 = .ok (.iaload, 1) := dAt (x := (103, .iaload, 1)) DX11_ahead_0 45 rfl
theorem dX11_ahead_104 : decode cX11_ahead 104 = .ok (.isub, 1) := dAt (x := (104, .isub, 1)) DX11_ahead_0 46 rfl
theorem dX11_ahead_105 : decode cX11_ahead 105 = .ok (.ireturn, 1) := dAt (x := (105, .ireturn, 1)) DX11_ahead_0 47 rfl
theorem dX11_ahead_106 : decode cX11_ahead 106 = .ok (.aload_n 0, 1) := dAt (x := (106, .aload_n 0, 1)) DX11_ahead_0 48 rfl
theorem dX11_ahead_107 : decode cX11_ahead 107 = .ok (.getfield 97, 3) := dAt (x := (107, .getfield 97, 3)) DX11_ahead_0 49 rfl
theorem dX11_ahead_110 : decode cX11_ahead 110 = .ok (.iconst 1, 1) := dAt (x := (110, .iconst 1, 1)) DX11_ahead_0 50 rfl
theorem dX11_ahead_111 : decode cX11_ahead 111 = .ok (.iaload, 1) := dAt (x := (111, .iaload, 1)) DX11_ahead_0 51 rfl
theorem dX11_ahead_112 : decode cX11_ahead 112 = .ok (.invokestatic 381, 3) := dAt (x := (112, .invokestatic 381, 3)) DX11_ahead_0 52 rfl
theorem dX11_ahead_115 : decode cX11_ahead 115 = .ok (.ireturn, 1) := dAt (x := (115, .ireturn, 1)) DX11_ahead_0 53 rfl
theorem dX11_ahead_116 : decode cX11_ahead 116 = .ok (.aload_n 0, 1) := dAt (x := (116, .aload_n 0, 1)) DX11_ahead_0 54 rfl
theorem dX11_ahead_117 : decode cX11_ahead 117 = .ok (.getfield 94, 3) := dAt (x := (117, .getfield 94, 3)) DX11_ahead_0 55 rfl
theorem dX11_ahead_120 : decode cX11_ahead 120 = .ok (.iconst 1, 1) := dAt (x := (120, .iconst 1, 1)) DX11_ahead_0 56 rfl
theorem dX11_ahead_121 : decode cX11_ahead 121 = .ok (.iaload, 1) := dAt (x := (121, .iaload, 1)) DX11_ahead_0 57 rfl
theorem dX11_ahead_122 : decode cX11_ahead 122 = .ok (.ireturn, 1) := dAt (x := (122, .ireturn, 1)) DX11_ahead_0 58 rfl
def lDX11_when_0 : List (Nat × Instr × Nat) := [(0, .aload_n 0, 1), (1, .iconst 0, 1), (2, .putfield 160, 3), (5, .aload_n 0, 1), (6, .iload_n 1, 1), (7, .invokevirtual 456, 3), (10, .ifCond .ne 5, 3), (13, .iconst (-1), 1), (14, .ireturn, 1), (15, .aload_n 0, 1), (16, .invokevirtual 470, 3), (19, .iconst 1, 1), (20, .istore_n 2, 1), (21, .iload_n 2, 1), (22, .sipush 200, 3), (25, .if_icmp .ge 36, 3), (28, .aload_n 0, 1), (29, .iconst 1, 1), (30, .invokevirtual 453, 3), (33, .aload_n 0, 1), (34, .getfield 94, 3), (37, .iconst 1, 1), (38, .iaload, 1), (39, .aload_n 0, 1), (40, .getfield 94, 3), (43, .iconst 0, 1), (44, .iaload, 1), (45, .ixor, 1), (46, .iload_n 1, 1), (47, .invokestatic 372, 3), (50, .ifCond .eq 5, 3), (53, .iload_n 2, 1), (54, .ireturn, 1), (55, .iinc 2 1, 3), (58, .goto (-37), 3), (61, .bipush (-2), 2), (63, .ireturn, 1)]
theorem DX11_when_0 : dAll cX11_when lDX11_when_0 = true := by decide +kernel
theorem dX11_when_0 : decode cX11_when 0 = .ok (.aload_n 0, 1) := dAt (x := (0, .aload_n 0, 1)) DX11_when_0 0 rfl
theorem dX11_when_1 : decode cX11_when 1 = .ok (.iconst 0, 1) := dAt (x := (1, .iconst 0, 1)) DX11_when_0 1 rfl
theorem dX11_when_2 : decode cX11_when 2 = .ok (.putfield 160, 3) := dAt (x := (2, .putfield 160, 3)) DX11_when_0 2 rfl
theorem dX11_when_5 : decode cX11_when 5 = .ok (.aload_n 0, 1) := dAt (x := (5, .aload_n 0, 1)) DX11_when_0 3 rfl
theorem dX11_when_6 : decode cX11_when 6 = .ok (.iload_n 1, 1) := dAt (x := (6, .iload_n 1, 1)) DX11_when_0 4 rfl
theorem dX11_when_7 : decode cX11_when 7 = .ok (.invokevirtual 456, 3) := dAt (x := (7, .invokevirtual 456, 3)) DX11_when_0 5 rfl
theorem dX11_when_10 : decode cX11_when 10 = .ok (.ifCond .ne 5, 3) := dAt (x := (10, .ifCond .ne 5, 3)) DX11_when_0 6 rfl
theorem dX11_when_13 : decode cX11_when 13 = .ok (.iconst (-1), 1) := dAt (x := (13, .iconst (-1), 1)) DX11_when_0 7 rfl
theorem dX11_when_14 : decode cX11_when 14 = .ok (.ireturn, 1) := dAt (x := (14, .ireturn, 1)) DX11_when_0 8 rfl
theorem dX11_when_15 : decode cX11_when 15 = .ok (.aload_n 0, 1) := dAt (x := (15, .aload_n 0, 1)) DX11_when_0 9 rfl
theorem dX11_when_16 : decode cX11_when 16 = .ok (.invokevirtual 470, 3) := dAt (x := (16, .invokevirtual 470, 3)) DX11_when_0 10 rfl
theorem dX11_when_19 : decode cX11_when 19 = .ok (.iconst 1, 1) := dAt (x := (19, .iconst 1, 1)) DX11_when_0 11 rfl
theorem dX11_when_20 : decode cX11_when 20 = .ok (.istore_n 2, 1) := dAt (x := (20, .istore_n 2, 1)) DX11_when_0 12 rfl
theorem dX11_when_21 : decode cX11_when 21 = .ok (.iload_n 2, 1) := dAt (x := (21, .iload_n 2, 1)) DX11_when_0 13 rfl
theorem dX11_when_22 : decode cX11_when 22 = .ok (.sipush 200, 3) := dAt (x := (22, .sipush 200, 3)) DX11_when_0 14 rfl
theorem dX11_when_25 : decode cX11_when 25 = .ok (.if_icmp .ge 36, 3) := dAt (x := (25, .if_icmp .ge 36, 3)) DX11_when_0 15 rfl
theorem dX11_when_28 : decode cX11_when 28 = .ok (.aload_n 0, 1) := dAt (x := (28, .aload_n 0, 1)) DX11_when_0 16 rfl
theorem dX11_when_29 : decode cX11_when 29 = .ok (.iconst 1, 1) := dAt (x := (29, .iconst 1, 1)) DX11_when_0 17 rfl
theorem dX11_when_30 : decode cX11_when 30 = .ok (.invokevirtual 453, 3) := dAt (x := (30, .invokevirtual 453, 3)) DX11_when_0 18 rfl
theorem dX11_when_33 : decode cX11_when 33 = .ok (.aload_n 0, 1) := dAt (x := (33, .aload_n 0, 1)) DX11_when_0 19 rfl
theorem dX11_when_34 : decode cX11_when 34 = .ok (.getfield 94, 3) := dAt (x := (34, .getfield 94, 3)) DX11_when_0 20 rfl
theorem dX11_when_37 : decode cX11_when 37 = .ok (.iconst 1, 1) := dAt (x := (37, .iconst 1, 1)) DX11_when_0 21 rfl
theorem dX11_when_38 : decode cX11_when 38 = .ok (.iaload, 1) := dAt (x := (38, .iaload, 1)) DX11_when_0 22 rfl
theorem dX11_when_39 : decode cX11_when 39 = .ok (.aload_n 0, 1) := dAt (x := (39, .aload_n 0, 1)) DX11_when_0 23 rfl
theorem dX11_when_40 : decode cX11_when 40 = .ok (.getfield 94, 3) := dAt (x := (40, .getfield 94, 3)) DX11_when_0 24 rfl
theorem dX11_when_43 : decode cX11_when 43 = .ok (.iconst 0, 1) := dAt (x := (43, .iconst 0, 1)) DX11_when_0 25 rfl
theorem dX11_when_44 : decode cX11_when 44 = .ok (.iaload, 1) := dAt (x := (44, .iaload, 1)) DX11_when_0 26 rfl
theorem dX11_when_45 : decode cX11_when 45 = .ok (.ixor, 1) := dAt (x := (45, .ixor, 1)) DX11_when_0 27 rfl
theorem dX11_when_46 : decode cX11_when 46 = .ok (.iload_n 1, 1) := dAt (x := (46, .iload_n 1, 1)) DX11_when_0 28 rfl
theorem dX11_when_47 : decode cX11_when 47 = .ok (.invokestatic 372, 3) := dAt (x := (47, .invokestatic 372, 3)) DX11_when_0 29 rfl
theorem dX11_when_50 : decode cX11_when 50 = .ok (.ifCond .eq 5, 3) := dAt (x := (50, .ifCond .eq 5, 3)) DX11_when_0 30 rfl
theorem dX11_when_53 : decode cX11_when 53 = .ok (.iload_n 2, 1) := dAt (x := (53, .iload_n 2, 1)) DX11_when_0 31 rfl
theorem dX11_when_54 : decode cX11_when 54 = .ok (.ireturn, 1) := dAt (x := (54, .ireturn, 1)) DX11_when_0 32 rfl
theorem dX11_when_55 : decode cX11_when 55 = .ok (.iinc 2 1, 3) := dAt (x := (55, .iinc 2 1, 3)) DX11_when_0 33 rfl
theorem dX11_when_58 : decode cX11_when 58 = .ok (.goto (-37), 3) := dAt (x := (58, .goto (-37), 3)) DX11_when_0 34 rfl
theorem dX11_when_61 : decode cX11_when 61 = .ok (.bipush (-2), 2) := dAt (x := (61, .bipush (-2), 2)) DX11_when_0 35 rfl
theorem dX11_when_63 : decode cX11_when 63 = .ok (.ireturn, 1) := dAt (x := (63, .ireturn, 1)) DX11_when_0 36 rfl
def lDX11_layFar_0 : List (Nat × Instr × Nat) := [(0, .iconst 0, 1), (1, .istore 5, 2), (3, .iload 5, 2), (5, .sipush 256, 3), (8, .if_icmp .ge 17, 3), (11, .aload_n 0, 1), (12, .getfield 112, 3), (15, .iload 5, 2), (17, .iconst (-1), 1), (18, .iastore, 1), (19, .iinc 5 1, 3), (22, .goto (-19), 3), (25, .aload_n 0, 1), (26, .getfield 112, 3), (29, .iload_n 1, 1), (30, .iconst 0, 1), (31, .iastore, 1), (32, .aload_n 0, 1), (33, .getfield 115, 3), (36, .iload_n 1, 1), (37, .iconst 1, 1), (38, .iastore, 1), (39, .aload_n 0, 1), (40, .getfield 118, 3), (43, .iconst 0, 1), (44, .iload_n 1, 1), (45, .iastore, 1), (46, .aload_n 0, 1), (47, .iconst 1, 1), (48, .putfield 476, 3), (51, .iconst 0, 1), (52, .istore 5, 2), (54, .iload 5, 2), (56, .aload_n 0, 1), (57, .getfield 476, 3), (60, .if_icmp .ge 203, 3), (63, .aload_n 0, 1), (64, .getfield 118, 3), (67, .iload 5, 2), (69, .iaload, 1), (70, .istore 6, 2), (72, .aload_n 0, 1), (73, .getfield 88, 3), (76, .iload 6, 2), (78, .iaload, 1), (79, .iload 4, 2), (81, .ior, 1), (82, .iload_n 3, 1), (83, .iconst (-1), 1), (84, .ixor, 1), (85, .iand, 1), (86, .istore 7, 2), (88, .iconst 0, 1), (89, .istore 8, 2), (91, .iload 8, 2), (93, .aload_n 0, 1), (94, .getfield 240, 3), (97, .if_icmp .ge 160, 3), (100, .iload 6, 2), (102, .iconst 1, 1)]
theorem DX11_layFar_0 : dAll cX11_layFar lDX11_layFar_0 = true := by decide +kernel
theorem dX11_layFar_0 : decode cX11_layFar 0 = .ok (.iconst 0, 1) := dAt (x := (0, .iconst 0, 1)) DX11_layFar_0 0 rfl
theorem dX11_layFar_1 : decode cX11_layFar 1 = .ok (.istore 5, 2) := dAt (x := (1, .istore 5, 2)) DX11_layFar_0 1 rfl
theorem dX11_layFar_3 : decode cX11_layFar 3 = .ok (.iload 5, 2) := dAt (x := (3, .iload 5, 2)) DX11_layFar_0 2 rfl
theorem dX11_layFar_5 : decode cX11_layFar 5 = .ok (.sipush 256, 3) := dAt (x := (5, .sipush 256, 3)) DX11_layFar_0 3 rfl
theorem dX11_layFar_8 : decode cX11_layFar 8 = .ok (.if_icmp .ge 17, 3) := dAt (x := (8, .if_icmp .ge 17, 3)) DX11_layFar_0 4 rfl
theorem dX11_layFar_11 : decode cX11_layFar 11 = .ok (.aload_n 0, 1) := dAt (x := (11, .aload_n 0, 1)) DX11_layFar_0 5 rfl
theorem dX11_layFar_12 : decode cX11_layFar 12 = .ok (.getfield 112, 3) := dAt (x := (12, .getfield 112, 3)) DX11_layFar_0 6 rfl
theorem dX11_layFar_15 : decode cX11_layFar 15 = .ok (.iload 5, 2) := dAt (x := (15, .iload 5, 2)) DX11_layFar_0 7 rfl
theorem dX11_layFar_17 : decode cX11_layFar 17 = .ok (.iconst (-1), 1) := dAt (x := (17, .iconst (-1), 1)) DX11_layFar_0 8 rfl
theorem dX11_layFar_18 : decode cX11_layFar 18 = .ok (.iastore, 1) := dAt (x := (18, .iastore, 1)) DX11_layFar_0 9 rfl
theorem dX11_layFar_19 : decode cX11_layFar 19 = .ok (.iinc 5 1, 3) := dAt (x := (19, .iinc 5 1, 3)) DX11_layFar_0 10 rfl
theorem dX11_layFar_22 : decode cX11_layFar 22 = .ok (.goto (-19), 3) := dAt (x := (22, .goto (-19), 3)) DX11_layFar_0 11 rfl
theorem dX11_layFar_25 : decode cX11_layFar 25 = .ok (.aload_n 0, 1) := dAt (x := (25, .aload_n 0, 1)) DX11_layFar_0 12 rfl
theorem dX11_layFar_26 : decode cX11_layFar 26 = .ok (.getfield 112, 3) := dAt (x := (26, .getfield 112, 3)) DX11_layFar_0 13 rfl
theorem dX11_layFar_29 : decode cX11_layFar 29 = .ok (.iload_n 1, 1) := dAt (x := (29, .iload_n 1, 1)) DX11_layFar_0 14 rfl
theorem dX11_layFar_30 : decode cX11_layFar 30 = .ok (.iconst 0, 1) := dAt (x := (30, .iconst 0, 1)) DX11_layFar_0 15 rfl
theorem dX11_layFar_31 : decode cX11_layFar 31 = .ok (.iastore, 1) := dAt (x := (31, .iastore, 1)) DX11_layFar_0 16 rfl
theorem dX11_layFar_32 : decode cX11_layFar 32 = .ok (.aload_n 0, 1) := dAt (x := (32, .aload_n 0, 1)) DX11_layFar_0 17 rfl
theorem dX11_layFar_33 : decode cX11_layFar 33 = .ok (.getfield 115, 3) := dAt (x := (33, .getfield 115, 3)) DX11_layFar_0 18 rfl
theorem dX11_layFar_36 : decode cX11_layFar 36 = .ok (.iload_n 1, 1) := dAt (x := (36, .iload_n 1, 1)) DX11_layFar_0 19 rfl
theorem dX11_layFar_37 : decode cX11_layFar 37 = .ok (.iconst 1, 1) := dAt (x := (37, .iconst 1, 1)) DX11_layFar_0 20 rfl
theorem dX11_layFar_38 : decode cX11_layFar 38 = .ok (.iastore, 1) := dAt (x := (38, .iastore, 1)) DX11_layFar_0 21 rfl
theorem dX11_layFar_39 : decode cX11_layFar 39 = .ok (.aload_n 0, 1) := dAt (x := (39, .aload_n 0, 1)) DX11_layFar_0 22 rfl
theorem dX11_layFar_40 : decode cX11_layFar 40 = .ok (.getfield 118, 3) := dAt (x := (40, .getfield 118, 3)) DX11_layFar_0 23 rfl
theorem dX11_layFar_43 : decode cX11_layFar 43 = .ok (.iconst 0, 1) := dAt (x := (43, .iconst 0, 1)) DX11_layFar_0 24 rfl
theorem dX11_layFar_44 : decode cX11_layFar 44 = .ok (.iload_n 1, 1) := dAt (x := (44, .iload_n 1, 1)) DX11_layFar_0 25 rfl
theorem dX11_layFar_45 : decode cX11_layFar 45 = .ok (.iastore, 1) := dAt (x := (45, .iastore, 1)) DX11_layFar_0 26 rfl
theorem dX11_layFar_46 : decode cX11_layFar 46 = .ok (.aload_n 0, 1) := dAt (x := (46, .aload_n 0, 1)) DX11_layFar_0 27 rfl
theorem dX11_layFar_47 : decode cX11_layFar 47 = .ok (.iconst 1, 1) := dAt (x := (47, .iconst 1, 1)) DX11_layFar_0 28 rfl
theorem dX11_layFar_48 : decode cX11_layFar 48 = .ok (.putfield 476, 3) := dAt (x := (48, .putfield 476, 3)) DX11_layFar_0 29 rfl
theorem dX11_layFar_51 : decode cX11_layFar 51 = .ok (.iconst 0, 1) := dAt (x := (51, .iconst 0, 1)) DX11_layFar_0 30 rfl
theorem dX11_layFar_52 : decode cX11_layFar 52 = .ok (.istore 5, 2) := dAt (x := (52, .istore 5, 2)) DX11_layFar_0 31 rfl
theorem dX11_layFar_54 : decode cX11_layFar 54 = .ok (.iload 5, 2) := dAt (x := (54, .iload 5, 2)) DX11_layFar_0 32 rfl
theorem dX11_layFar_56 : decode cX11_layFar 56 = .ok (.aload_n 0, 1) := dAt (x := (56, .aload_n 0, 1)) DX11_layFar_0 33 rfl
theorem dX11_layFar_57 : decode cX11_layFar 57 = .ok (.getfield 476, 3) := dAt (x := (57, .getfield 476, 3)) DX11_layFar_0 34 rfl
theorem dX11_layFar_60 : decode cX11_layFar 60 = .ok (.if_icmp .ge 203, 3) := dAt (x := (60, .if_icmp .ge 203, 3)) DX11_layFar_0 35 rfl
theorem dX11_layFar_63 : decode cX11_layFar 63 = .ok (.aload_n 0, 1) := dAt (x := (63, .aload_n 0, 1)) DX11_layFar_0 36 rfl
theorem dX11_layFar_64 : decode cX11_layFar 64 = .ok (.getfield 118, 3) := dAt (x := (64, .getfield 118, 3)) DX11_layFar_0 37 rfl
theorem dX11_layFar_67 : decode cX11_layFar 67 = .ok (.iload 5, 2) := dAt (x := (67, .iload 5, 2)) DX11_layFar_0 38 rfl
theorem dX11_layFar_69 : decode cX11_layFar 69 = .ok (.iaload, 1) := dAt (x := (69, .iaload, 1)) DX11_layFar_0 39 rfl
theorem dX11_layFar_70 : decode cX11_layFar 70 = .ok (.istore 6, 2) := dAt (x := (70, .istore 6, 2)) DX11_layFar_0 40 rfl
theorem dX11_layFar_72 : decode cX11_layFar 72 = .ok (.aload_n 0, 1) := dAt (x := (72, .aload_n 0, 1)) DX11_layFar_0 41 rfl
theorem dX11_layFar_73 : decode cX11_layFar 73 = .ok (.getfield 88, 3) := dAt (x := (73, .getfield 88, 3)) DX11_layFar_0 42 rfl
theorem dX11_layFar_76 : decode cX11_layFar 76 = .ok (.iload 6, 2) := dAt (x := (76, .iload 6, 2)) DX11_layFar_0 43 rfl
theorem dX11_layFar_78 : decode cX11_layFar 78 = .ok (.iaload, 1) := dAt (x := (78, .iaload, 1)) DX11_layFar_0 44 rfl
theorem dX11_layFar_79 : decode cX11_layFar 79 = .ok (.iload 4, 2) := dAt (x := (79, .iload 4, 2)) DX11_layFar_0 45 rfl
theorem dX11_layFar_81 : decode cX11_layFar 81 = .ok (.ior, 1) := dAt (x := (81, .ior, 1)) DX11_layFar_0 46 rfl
theorem dX11_layFar_82 : decode cX11_layFar 82 = .ok (.iload_n 3, 1) := dAt (x := (82, .iload_n 3, 1)) DX11_layFar_0 47 rfl
theorem dX11_layFar_83 : decode cX11_layFar 83 = .ok (.iconst (-1), 1) := dAt (x := (83, .iconst (-1), 1)) DX11_layFar_0 48 rfl
theorem dX11_layFar_84 : decode cX11_layFar 84 = .ok (.ixor, 1) := dAt (x := (84, .ixor, 1)) DX11_layFar_0 49 rfl
theorem dX11_layFar_85 : decode cX11_layFar 85 = .ok (.iand, 1) := dAt (x := (85, .iand, 1)) DX11_layFar_0 50 rfl
theorem dX11_layFar_86 : decode cX11_layFar 86 = .ok (.istore 7, 2) := dAt (x := (86, .istore 7, 2)) DX11_layFar_0 51 rfl
theorem dX11_layFar_88 : decode cX11_layFar 88 = .ok (.iconst 0, 1) := dAt (x := (88, .iconst 0, 1)) DX11_layFar_0 52 rfl
theorem dX11_layFar_89 : decode cX11_layFar 89 = .ok (.istore 8, 2) := dAt (x := (89, .istore 8, 2)) DX11_layFar_0 53 rfl
theorem dX11_layFar_91 : decode cX11_layFar 91 = .ok (.iload 8, 2) := dAt (x := (91, .iload 8, 2)) DX11_layFar_0 54 rfl
theorem dX11_layFar_93 : decode cX11_layFar 93 = .ok (.aload_n 0, 1) := dAt (x := (93, .aload_n 0, 1)) DX11_layFar_0 55 rfl
theorem dX11_layFar_94 : decode cX11_layFar 94 = .ok (.getfield 240, 3) := dAt (x := (94, .getfield 240, 3)) DX11_layFar_0 56 rfl
theorem dX11_layFar_97 : decode cX11_layFar 97 = .ok (.if_icmp .ge 160, 3) := dAt (x := (97, .if_icmp .ge 160, 3)) DX11_layFar_0 57 rfl
theorem dX11_layFar_100 : decode cX11_layFar 100 = .ok (.iload 6, 2) := dAt (x := (100, .iload 6, 2)) DX11_layFar_0 58 rfl
theorem dX11_layFar_102 : decode cX11_layFar 102 = .ok (.iconst 1, 1) := dAt (x := (102, .iconst 1, 1)) DX11_layFar_0 59 rfl
def lDX11_layFar_1 : List (Nat × Instr × Nat) := [(103, .iload 8, 2), (105, .ishl, 1), (106, .ixor, 1), (107, .istore 9, 2), (109, .iload 7, 2), (111, .iload 8, 2), (113, .invokestatic 372, 3), (116, .ifCond .eq 135, 3), (119, .iload 9, 2), (121, .iload_n 2, 1), (122, .if_icmp .ne 6, 3), (125, .goto 126, 3), (128, .aload_n 0, 1), (129, .getfield 112, 3), (132, .iload 9, 2), (134, .iaload, 1), (135, .ifCond .ge 48, 3), (138, .aload_n 0, 1), (139, .getfield 112, 3), (142, .iload 9, 2), (144, .aload_n 0, 1), (145, .getfield 112, 3), (148, .iload 6, 2), (150, .iaload, 1), (151, .iconst 1, 1), (152, .iadd, 1), (153, .iastore, 1), (154, .aload_n 0, 1), (155, .getfield 115, 3), (158, .iload 9, 2), (160, .iconst 0, 1), (161, .iastore, 1), (162, .aload_n 0, 1), (163, .getfield 118, 3), (166, .aload_n 0, 1), (167, .getfield 476, 3), (170, .iload 9, 2), (172, .iastore, 1), (173, .aload_n 0, 1), (174, .dup, 1), (175, .getfield 476, 3), (178, .iconst 1, 1), (179, .iadd, 1), (180, .putfield 476, 3), (183, .aload_n 0, 1), (184, .getfield 112, 3), (187, .iload 9, 2), (189, .iaload, 1), (190, .aload_n 0, 1), (191, .getfield 112, 3), (194, .iload 6, 2), (196, .iaload, 1), (197, .iconst 1, 1), (198, .iadd, 1), (199, .if_icmp .ne 52, 3), (202, .aload_n 0, 1), (203, .getfield 115, 3), (206, .iload 9, 2), (208, .aload_n 0, 1), (209, .getfield 115, 3)]
theorem DX11_layFar_1 : dAll cX11_layFar lDX11_layFar_1 = true := by decide +kernel
theorem dX11_layFar_103 : decode cX11_layFar 103 = .ok (.iload 8, 2) := dAt (x := (103, .iload 8, 2)) DX11_layFar_1 0 rfl
theorem dX11_layFar_105 : decode cX11_layFar 105 = .ok (.ishl, 1) := dAt (x := (105, .ishl, 1)) DX11_layFar_1 1 rfl
theorem dX11_layFar_106 : decode cX11_layFar 106 = .ok (.ixor, 1) := dAt (x := (106, .ixor, 1)) DX11_layFar_1 2 rfl
theorem dX11_layFar_107 : decode cX11_layFar 107 = .ok (.istore 9, 2) := dAt (x := (107, .istore 9, 2)) DX11_layFar_1 3 rfl
theorem dX11_layFar_109 : decode cX11_layFar 109 = .ok (.iload 7, 2) := dAt (x := (109, .iload 7, 2)) DX11_layFar_1 4 rfl
theorem dX11_layFar_111 : decode cX11_layFar 111 = .ok (.iload 8, 2) := dAt (x := (111, .iload 8, 2)) DX11_layFar_1 5 rfl
theorem dX11_layFar_113 : decode cX11_layFar 113 = .ok (.invokestatic 372, 3) := dAt (x := (113, .invokestatic 372, 3)) DX11_layFar_1 6 rfl
theorem dX11_layFar_116 : decode cX11_layFar 116 = .ok (.ifCond .eq 135, 3) := dAt (x := (116, .ifCond .eq 135, 3)) DX11_layFar_1 7 rfl
theorem dX11_layFar_119 : decode cX11_layFar 119 = .ok (.iload 9, 2) := dAt (x := (119, .iload 9, 2)) DX11_layFar_1 8 rfl
theorem dX11_layFar_121 : decode cX11_layFar 121 = .ok (.iload_n 2, 1) := dAt (x := (121, .iload_n 2, 1)) DX11_layFar_1 9 rfl
theorem dX11_layFar_122 : decode cX11_layFar 122 = .ok (.if_icmp .ne 6, 3) := dAt (x := (122, .if_icmp .ne 6, 3)) DX11_layFar_1 10 rfl
theorem dX11_layFar_125 : decode cX11_layFar 125 = .ok (.goto 126, 3) := dAt (x := (125, .goto 126, 3)) DX11_layFar_1 11 rfl
theorem dX11_layFar_128 : decode cX11_layFar 128 = .ok (.aload_n 0, 1) := dAt (x := (128, .aload_n 0, 1)) DX11_layFar_1 12 rfl
theorem dX11_layFar_129 : decode cX11_layFar 129 = .ok (.getfield 112, 3) := dAt (x := (129, .getfield 112, 3)) DX11_layFar_1 13 rfl
theorem dX11_layFar_132 : decode cX11_layFar 132 = .ok (.iload 9, 2) := dAt (x := (132, .iload 9, 2)) DX11_layFar_1 14 rfl
theorem dX11_layFar_134 : decode cX11_layFar 134 = .ok (.iaload, 1) := dAt (x := (134, .iaload, 1)) DX11_layFar_1 15 rfl
theorem dX11_layFar_135 : decode cX11_layFar 135 = .ok (.ifCond .ge 48, 3) := dAt (x := (135, .ifCond .ge 48, 3)) DX11_layFar_1 16 rfl
theorem dX11_layFar_138 : decode cX11_layFar 138 = .ok (.aload_n 0, 1) := dAt (x := (138, .aload_n 0, 1)) DX11_layFar_1 17 rfl
theorem dX11_layFar_139 : decode cX11_layFar 139 = .ok (.getfield 112, 3) := dAt (x := (139, .getfield 112, 3)) DX11_layFar_1 18 rfl
theorem dX11_layFar_142 : decode cX11_layFar 142 = .ok (.iload 9, 2) := dAt (x := (142, .iload 9, 2)) DX11_layFar_1 19 rfl
theorem dX11_layFar_144 : decode cX11_layFar 144 = .ok (.aload_n 0, 1) := dAt (x := (144, .aload_n 0, 1)) DX11_layFar_1 20 rfl
theorem dX11_layFar_145 : decode cX11_layFar 145 = .ok (.getfield 112, 3) := dAt (x := (145, .getfield 112, 3)) DX11_layFar_1 21 rfl
theorem dX11_layFar_148 : decode cX11_layFar 148 = .ok (.iload 6, 2) := dAt (x := (148, .iload 6, 2)) DX11_layFar_1 22 rfl
theorem dX11_layFar_150 : decode cX11_layFar 150 = .ok (.iaload, 1) := dAt (x := (150, .iaload, 1)) DX11_layFar_1 23 rfl
theorem dX11_layFar_151 : decode cX11_layFar 151 = .ok (.iconst 1, 1) := dAt (x := (151, .iconst 1, 1)) DX11_layFar_1 24 rfl
theorem dX11_layFar_152 : decode cX11_layFar 152 = .ok (.iadd, 1) := dAt (x := (152, .iadd, 1)) DX11_layFar_1 25 rfl
theorem dX11_layFar_153 : decode cX11_layFar 153 = .ok (.iastore, 1) := dAt (x := (153, .iastore, 1)) DX11_layFar_1 26 rfl
theorem dX11_layFar_154 : decode cX11_layFar 154 = .ok (.aload_n 0, 1) := dAt (x := (154, .aload_n 0, 1)) DX11_layFar_1 27 rfl
theorem dX11_layFar_155 : decode cX11_layFar 155 = .ok (.getfield 115, 3) := dAt (x := (155, .getfield 115, 3)) DX11_layFar_1 28 rfl
theorem dX11_layFar_158 : decode cX11_layFar 158 = .ok (.iload 9, 2) := dAt (x := (158, .iload 9, 2)) DX11_layFar_1 29 rfl
theorem dX11_layFar_160 : decode cX11_layFar 160 = .ok (.iconst 0, 1) := dAt (x := (160, .iconst 0, 1)) DX11_layFar_1 30 rfl
theorem dX11_layFar_161 : decode cX11_layFar 161 = .ok (.iastore, 1) := dAt (x := (161, .iastore, 1)) DX11_layFar_1 31 rfl
theorem dX11_layFar_162 : decode cX11_layFar 162 = .ok (.aload_n 0, 1) := dAt (x := (162, .aload_n 0, 1)) DX11_layFar_1 32 rfl
theorem dX11_layFar_163 : decode cX11_layFar 163 = .ok (.getfield 118, 3) := dAt (x := (163, .getfield 118, 3)) DX11_layFar_1 33 rfl
theorem dX11_layFar_166 : decode cX11_layFar 166 = .ok (.aload_n 0, 1) := dAt (x := (166, .aload_n 0, 1)) DX11_layFar_1 34 rfl
theorem dX11_layFar_167 : decode cX11_layFar 167 = .ok (.getfield 476, 3) := dAt (x := (167, .getfield 476, 3)) DX11_layFar_1 35 rfl
theorem dX11_layFar_170 : decode cX11_layFar 170 = .ok (.iload 9, 2) := dAt (x := (170, .iload 9, 2)) DX11_layFar_1 36 rfl
theorem dX11_layFar_172 : decode cX11_layFar 172 = .ok (.iastore, 1) := dAt (x := (172, .iastore, 1)) DX11_layFar_1 37 rfl
theorem dX11_layFar_173 : decode cX11_layFar 173 = .ok (.aload_n 0, 1) := dAt (x := (173, .aload_n 0, 1)) DX11_layFar_1 38 rfl
theorem dX11_layFar_174 : decode cX11_layFar 174 = .ok (.dup, 1) := dAt (x := (174, .dup, 1)) DX11_layFar_1 39 rfl
theorem dX11_layFar_175 : decode cX11_layFar 175 = .ok (.getfield 476, 3) := dAt (x := (175, .getfield 476, 3)) DX11_layFar_1 40 rfl
theorem dX11_layFar_178 : decode cX11_layFar 178 = .ok (.iconst 1, 1) := dAt (x := (178, .iconst 1, 1)) DX11_layFar_1 41 rfl
theorem dX11_layFar_179 : decode cX11_layFar 179 = .ok (.iadd, 1) := dAt (x := (179, .iadd, 1)) DX11_layFar_1 42 rfl
theorem dX11_layFar_180 : decode cX11_layFar 180 = .ok (.putfield 476, 3) := dAt (x := (180, .putfield 476, 3)) DX11_layFar_1 43 rfl
theorem dX11_layFar_183 : decode cX11_layFar 183 = .ok (.aload_n 0, 1) := dAt (x := (183, .aload_n 0, 1)) DX11_layFar_1 44 rfl
theorem dX11_layFar_184 : decode cX11_layFar 184 = .ok (.getfield 112, 3) := dAt (x := (184, .getfield 112, 3)) DX11_layFar_1 45 rfl
theorem dX11_layFar_187 : decode cX11_layFar 187 = .ok (.iload 9, 2) := dAt (x := (187, .iload 9, 2)) DX11_layFar_1 46 rfl
theorem dX11_layFar_189 : decode cX11_layFar 189 = .ok (.iaload, 1) := dAt (x := (189, .iaload, 1)) DX11_layFar_1 47 rfl
theorem dX11_layFar_190 : decode cX11_layFar 190 = .ok (.aload_n 0, 1) := dAt (x := (190, .aload_n 0, 1)) DX11_layFar_1 48 rfl
theorem dX11_layFar_191 : decode cX11_layFar 191 = .ok (.getfield 112, 3) := dAt (x := (191, .getfield 112, 3)) DX11_layFar_1 49 rfl
theorem dX11_layFar_194 : decode cX11_layFar 194 = .ok (.iload 6, 2) := dAt (x := (194, .iload 6, 2)) DX11_layFar_1 50 rfl
theorem dX11_layFar_196 : decode cX11_layFar 196 = .ok (.iaload, 1) := dAt (x := (196, .iaload, 1)) DX11_layFar_1 51 rfl
theorem dX11_layFar_197 : decode cX11_layFar 197 = .ok (.iconst 1, 1) := dAt (x := (197, .iconst 1, 1)) DX11_layFar_1 52 rfl
theorem dX11_layFar_198 : decode cX11_layFar 198 = .ok (.iadd, 1) := dAt (x := (198, .iadd, 1)) DX11_layFar_1 53 rfl
theorem dX11_layFar_199 : decode cX11_layFar 199 = .ok (.if_icmp .ne 52, 3) := dAt (x := (199, .if_icmp .ne 52, 3)) DX11_layFar_1 54 rfl
theorem dX11_layFar_202 : decode cX11_layFar 202 = .ok (.aload_n 0, 1) := dAt (x := (202, .aload_n 0, 1)) DX11_layFar_1 55 rfl
theorem dX11_layFar_203 : decode cX11_layFar 203 = .ok (.getfield 115, 3) := dAt (x := (203, .getfield 115, 3)) DX11_layFar_1 56 rfl
theorem dX11_layFar_206 : decode cX11_layFar 206 = .ok (.iload 9, 2) := dAt (x := (206, .iload 9, 2)) DX11_layFar_1 57 rfl
theorem dX11_layFar_208 : decode cX11_layFar 208 = .ok (.aload_n 0, 1) := dAt (x := (208, .aload_n 0, 1)) DX11_layFar_1 58 rfl
theorem dX11_layFar_209 : decode cX11_layFar 209 = .ok (.getfield 115, 3) := dAt (x := (209, .getfield 115, 3)) DX11_layFar_1 59 rfl
