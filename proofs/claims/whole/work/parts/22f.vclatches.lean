theorem vX10_feed_0 {E : Scr} {f : Int → Mem → Prop} {M : Mem} (x1 x2 x3 x4 x5 : Int) (h : ((iR (M 2 2)) → (iR ((M 2 2) + 20)) ∧ ((((M 2 2) + 20) ≤ 700 → (CV E mX8_add [pR 2, pI x1] M (fun M4 => (CV E mX8_add [pR 2, pI x2] M4 (fun M6 => (CV E mX8_add [pR 2, pI x3] M6 (fun M8 => (CV E mX8_add [pR 2, pI x4] M8 (fun M10 => (CV E mX8_add [pR 2, pI x5] M10 (fun M12 => ((iR (M12 2 2)) → f (M12 2 2) M12)))))))))))) ∧ (((M 2 2) + 20) > 700 → f (-1) M)))) : CI E mX10_feed [pR 0, pI x1, pI x2, pI x3, pI x4, pI x5] M f := by
  refine (show KW E mX10_feed (qI f) M 0 [(0, pR 0), (1, pI x1), (2, pI x2), (3, pI x3), (4, pI x4), (5, pI x5)] [] from ?_)
  refine w_aload_n dX10_feed_0 rfl ?_
  refine w_getR dX10_feed_1 fX10_12 rfl rfl rfl ?_
  refine w_getR dX10_feed_4 fX10_66 rfl rfl rfl ?_
  refine w_astore dX10_feed_7 (by decide) ?_
  refine w_aload dX10_feed_9 rfl ?_
  refine w_getI (x := (M 2 2)) dX10_feed_11 fX10_70 rfl rfl rfl (fun g1 => ?_)
  have h := h g1
  refine w_bipush dX10_feed_14 (by decide) ?_
  refine w_iadd dX10_feed_16 ?_
  refine w_sipush dX10_feed_17 (by decide) ?_
  obtain ⟨o2, h⟩ := h
  refine w_icmp_le dX10_feed_20 rfl ⟨o2, (by decide)⟩ (fun c => ?_) (fun c => ?_)
  · have h := h.1 c
    refine w_aload dX10_feed_25 rfl ?_
    refine w_iload_n dX10_feed_27 rfl ?_
    refine k_vV (as := [pI x1]) dX10_feed_28 kX10_76 ⟨⟨Nat.le_of_ble_eq_true rfl, rfl, rfl⟩, Nat.le_of_ble_eq_true rfl⟩ rfl (by decide) rfl (Nat.le_of_ble_eq_true rfl) h ?_
    intro M4 h
    refine w_aload dX10_feed_31 rfl ?_
    refine w_iload_n dX10_feed_33 rfl ?_
    refine k_vV (as := [pI x2]) dX10_feed_34 kX10_76 ⟨⟨Nat.le_of_ble_eq_true rfl, rfl, rfl⟩, Nat.le_of_ble_eq_true rfl⟩ rfl (by decide) rfl (Nat.le_of_ble_eq_true rfl) h ?_
    intro M6 h
    refine w_aload dX10_feed_37 rfl ?_
    refine w_iload_n dX10_feed_39 rfl ?_
    refine k_vV (as := [pI x3]) dX10_feed_40 kX10_76 ⟨⟨Nat.le_of_ble_eq_true rfl, rfl, rfl⟩, Nat.le_of_ble_eq_true rfl⟩ rfl (by decide) rfl (Nat.le_of_ble_eq_true rfl) h ?_
    intro M8 h
    refine w_aload dX10_feed_43 rfl ?_
    refine w_iload dX10_feed_45 rfl ?_
    refine k_vV (as := [pI x4]) dX10_feed_47 kX10_76 ⟨⟨Nat.le_of_ble_eq_true rfl, rfl, rfl⟩, Nat.le_of_ble_eq_true rfl⟩ rfl (by decide) rfl (Nat.le_of_ble_eq_true rfl) h ?_
    intro M10 h
    refine w_aload dX10_feed_50 rfl ?_
    refine w_iload dX10_feed_52 rfl ?_
    refine k_vV (as := [pI x5]) dX10_feed_54 kX10_76 ⟨⟨Nat.le_of_ble_eq_true rfl, rfl, rfl⟩, Nat.le_of_ble_eq_true rfl⟩ rfl (by decide) rfl (Nat.le_of_ble_eq_true rfl) h ?_
    intro M12 h
    refine w_aload dX10_feed_57 rfl ?_
    refine w_getI (x := (M12 2 2)) dX10_feed_59 fX10_70 rfl rfl rfl (fun g13 => ?_)
    have h := h g13
    exact k_iret dX10_feed_62 rfl h
  · have h := h.2 c
    refine w_iconst dX10_feed_23 ?_
    exact k_iret dX10_feed_24 rfl h
theorem vX10_fault_0 {E : Scr} {f : Int → Mem → Prop} {M : Mem} (x1 : Int) (h : (iR x1) ∧ ((x1 ≠ 0 → (iR x1) ∧ ((x1 ≠ 1 → f (-1) M) ∧ (x1 = 1 → ((iR (M 1 10)) → f (M 1 10) M)))) ∧ (x1 = 0 → ((iR (M 1 9)) → f (M 1 9) M)))) : CI E mX10_fault [pR 0, pI x1] M f := by
  refine (show KW E mX10_fault (qI f) M 0 [(0, pR 0), (1, pI x1)] [] from ?_)
  refine w_iload_n dX10_fault_0 rfl ?_
  obtain ⟨o1, h⟩ := h
  refine w_if_ne dX10_fault_1 rfl o1 (fun c => ?_) (fun c => ?_)
  · have h := h.1 c
    refine w_iload_n dX10_fault_12 rfl ?_
    refine w_iconst dX10_fault_13 ?_
    obtain ⟨o2, h⟩ := h
    refine w_icmp_ne dX10_fault_14 rfl ⟨o2, (by decide)⟩ (fun c => ?_) (fun c => ?_)
    · have h := h.1 c
      refine w_iconst dX10_fault_27 ?_
      exact k_iret dX10_fault_28 rfl h
    · have h := h.2 c
      refine w_aload_n dX10_fault_17 rfl ?_
      refine w_getR dX10_fault_18 fX10_12 rfl rfl rfl ?_
      refine w_getI (x := (M 1 10)) dX10_fault_21 fX10_103 rfl rfl rfl (fun g3 => ?_)
      have h := h g3
      refine w_goto dX10_fault_24 rfl ?_
      exact k_iret dX10_fault_28 rfl h
  · have h := h.2 c
    refine w_aload_n dX10_fault_4 rfl ?_
    refine w_getR dX10_fault_5 fX10_12 rfl rfl rfl ?_
    refine w_getI (x := (M 1 9)) dX10_fault_8 fX10_100 rfl rfl rfl (fun g4 => ?_)
    have h := h g4
    exact k_iret dX10_fault_11 rfl h
theorem vX10_named_0 {E : Scr} {f : Int → Mem → Prop} {M : Mem} (x1 : Int) (h : (CI E mX1_numberOf [pR 21, pI x1] M (fun r1 M2 => f r1 M2))) : CI E mX10_named [pR 0, pI x1] M f := by
  refine (show KW E mX10_named (qI f) M 0 [(0, pR 0), (1, pI x1)] [] from ?_)
  refine w_aload_n dX10_named_0 rfl ?_
  refine w_getR dX10_named_1 fX10_21 rfl rfl rfl ?_
  refine w_iload_n dX10_named_4 rfl ?_
  refine k_vI (as := [pI x1]) dX10_named_5 kX10_106 ⟨⟨Nat.le_of_ble_eq_true rfl, rfl, rfl⟩, Nat.le_of_ble_eq_true rfl⟩ rfl (by decide) rfl (Nat.le_of_ble_eq_true rfl) h ?_
  intro r1 M2 h
  exact k_iret dX10_named_8 rfl h
theorem vX10_row_0 {E : Scr} {f : Int → Mem → Prop} {M : Mem} (x1 : Int) (h : (iR x1) ∧ ((x1 = 0 → ((iR (M 36 1)) → f (M 36 1) M)) ∧ (x1 = 1 → ((iR (M 36 2)) → f (M 36 2) M)) ∧ (x1 = 2 → ((iR (M 36 1)) → ((iR (M 36 2)) → (CI E mX1_movable [pR 21, pI (M 36 1), pI (M 36 2)] M (fun r6 M7 => f r6 M7))))) ∧ (x1 < 0 ∨ 2 < x1 → f (-1) M))) : CI E mX10_row [pR 0, pI x1] M f := by
  refine (show KW E mX10_row (qI f) M 0 [(0, pR 0), (1, pI x1)] [] from ?_)
  refine w_iload_n dX10_row_0 rfl ?_
  obtain ⟨o1, h⟩ := h
  refine w_tsw (tgs := [28, 36, 44]) (td := 66) dX10_row_1 o1 rfl (by decide) rfl ?_ ?_
  · intro j hj hx
    match j, hj, hx with
    | 0, _, hx =>
      have h := h.1 (by simpa using hx)
      clear hx
      refine w_aload_n dX10_row_28 rfl ?_
      refine w_getR dX10_row_29 fX10_28 rfl rfl rfl ?_
      refine w_getI (x := (M 36 1)) dX10_row_32 fX10_120 rfl rfl rfl (fun g2 => ?_)
      have h := h g2
      exact k_iret dX10_row_35 rfl h
    | 1, _, hx =>
      have h := h.2.1 (by simpa using hx)
      clear hx
      refine w_aload_n dX10_row_36 rfl ?_
      refine w_getR dX10_row_37 fX10_28 rfl rfl rfl ?_
      refine w_getI (x := (M 36 2)) dX10_row_40 fX10_123 rfl rfl rfl (fun g3 => ?_)
      have h := h g3
      exact k_iret dX10_row_43 rfl h
    | 2, _, hx =>
      have h := h.2.2.1 (by simpa using hx)
      clear hx
      refine w_aload_n dX10_row_44 rfl ?_
      refine w_getR dX10_row_45 fX10_21 rfl rfl rfl ?_
      refine w_aload_n dX10_row_48 rfl ?_
      refine w_getR dX10_row_49 fX10_28 rfl rfl rfl ?_
      refine w_getI (x := (M 36 1)) dX10_row_52 fX10_120 rfl rfl rfl (fun g4 => ?_)
      have h := h g4
      refine w_aload_n dX10_row_55 rfl ?_
      refine w_getR dX10_row_56 fX10_28 rfl rfl rfl ?_
      refine w_getI (x := (M 36 2)) dX10_row_59 fX10_123 rfl rfl rfl (fun g5 => ?_)
      have h := h g5
      refine k_vI (as := [pI (M 36 1), pI (M 36 2)]) dX10_row_62 kX10_126 ⟨⟨Nat.le_of_ble_eq_true rfl, rfl, rfl⟩, Nat.le_of_ble_eq_true rfl⟩ rfl (by decide) rfl (Nat.le_of_ble_eq_true rfl) h ?_
      intro r6 M7 h
      exact k_iret dX10_row_65 rfl h
    | _ + 3, hj, _ => exact absurd hj (by simp)
  · intro c
    have h := h.2.2.2 c
    refine w_iconst dX10_row_66 ?_
    exact k_iret dX10_row_67 rfl h
theorem vX10_could_0 {E : Scr} {f : Int → Mem → Prop} {M : Mem} (x1 x2 : Int) (h : (CI E mX1_hasRow [pR 21, pI x1] M (fun r1 M2 => (iR r1) ∧ ((r1 = 0 → f (-1) M2) ∧ (r1 ≠ 0 → (CI E mX1_has [pR 21, pI x2] M2 (fun r4 M5 => (iR r4) ∧ ((r4 ≠ 0 → (CI E mX1_movable [pR 21, pI x1, pI 0] M5 (fun r7 M8 => f (bAnd (bShr r7 x2) 1) M8))) ∧ (r4 = 0 → f (-1) M5))))))))) : CI E mX10_could [pR 0, pI x1, pI x2] M f := by
  refine (show KW E mX10_could (qI f) M 0 [(0, pR 0), (1, pI x1), (2, pI x2)] [] from ?_)
  refine w_aload_n dX10_could_0 rfl ?_
  refine w_getR dX10_could_1 fX10_21 rfl rfl rfl ?_
  refine w_iload_n dX10_could_4 rfl ?_
  refine k_vI (as := [pI x1]) dX10_could_5 kX10_138 ⟨⟨Nat.le_of_ble_eq_true rfl, rfl, rfl⟩, Nat.le_of_ble_eq_true rfl⟩ rfl (by decide) rfl (Nat.le_of_ble_eq_true rfl) h ?_
  intro r1 M2 h
  obtain ⟨o3, h⟩ := h
  refine w_if_eq dX10_could_8 rfl o3 (fun c => ?_) (fun c => ?_)
  · have h := h.1 c
    refine w_iconst dX10_could_22 ?_
    exact k_iret dX10_could_23 rfl h
  · have h := h.2 c
    refine w_aload_n dX10_could_11 rfl ?_
    refine w_getR dX10_could_12 fX10_21 rfl rfl rfl ?_
    refine w_iload_n dX10_could_15 rfl ?_
    refine k_vI (as := [pI x2]) dX10_could_16 kX10_110 ⟨⟨Nat.le_of_ble_eq_true rfl, rfl, rfl⟩, Nat.le_of_ble_eq_true rfl⟩ rfl (by decide) rfl (Nat.le_of_ble_eq_true rfl) h ?_
    intro r4 M5 h
    obtain ⟨o6, h⟩ := h
    refine w_if_ne dX10_could_19 rfl o6 (fun c => ?_) (fun c => ?_)
    · have h := h.1 c
      refine w_aload_n dX10_could_24 rfl ?_
      refine w_getR dX10_could_25 fX10_21 rfl rfl rfl ?_
      refine w_iload_n dX10_could_28 rfl ?_
      refine w_iconst dX10_could_29 ?_
      refine k_vI (as := [pI x1, pI 0]) dX10_could_30 kX10_126 ⟨⟨Nat.le_of_ble_eq_true rfl, rfl, rfl⟩, Nat.le_of_ble_eq_true rfl⟩ rfl (by decide) rfl (Nat.le_of_ble_eq_true rfl) h ?_
      intro r7 M8 h
      refine w_iload_n dX10_could_33 rfl ?_
      refine w_ishr dX10_could_34 ?_
      refine w_iconst dX10_could_35 ?_
      refine w_iand dX10_could_36 ?_
      exact k_iret dX10_could_37 rfl h
    · have h := h.2 c
      refine w_iconst dX10_could_22 ?_
      exact k_iret dX10_could_23 rfl h
theorem vX10_law_0 {E : Scr} {f : Int → Mem → Prop} {M : Mem} (x1 x2 : Int) (h : (iR x1) ∧ ((x1 < 0 → f (-9223372036854775808) M) ∧ (x1 ≥ 0 → (iR x1) ∧ ((x1 ≥ 3 → f (-9223372036854775808) M) ∧ (x1 < 3 → (CI E mX1_has [pR 21, pI x2] M (fun r3 M4 => (iR r3) ∧ ((r3 ≠ 0 → (CL E mX0_worthOf [pR 42, pR 21, pR 36, pI x1, pI x2] M4 (fun r6 M7 => f r6 M7))) ∧ (r3 = 0 → f (-9223372036854775808) M4))))))))) : CL E mX10_law [pR 0, pI x1, pI x2] M f := by
  refine (show KW E mX10_law (qL f) M 0 [(0, pR 0), (1, pI x1), (2, pI x2)] [] from ?_)
  refine w_iload_n dX10_law_0 rfl ?_
  obtain ⟨o1, h⟩ := h
  refine w_if_lt dX10_law_1 rfl o1 (fun c => ?_) (fun c => ?_)
  · have h := h.1 c
    refine w_ldc2 dX10_law_20 qX10_141 ?_
    exact k_lret dX10_law_23 rfl h
  · have h := h.2 c
    refine w_iload_n dX10_law_4 rfl ?_
    refine w_iconst dX10_law_5 ?_
    obtain ⟨o2, h⟩ := h
    refine w_icmp_ge dX10_law_6 rfl ⟨o2, (by decide)⟩ (fun c => ?_) (fun c => ?_)
    · have h := h.1 c
      refine w_ldc2 dX10_law_20 qX10_141 ?_
      exact k_lret dX10_law_23 rfl h
    · have h := h.2 c
      refine w_aload_n dX10_law_9 rfl ?_
      refine w_getR dX10_law_10 fX10_21 rfl rfl rfl ?_
      refine w_iload_n dX10_law_13 rfl ?_
      refine k_vI (as := [pI x2]) dX10_law_14 kX10_110 ⟨⟨Nat.le_of_ble_eq_true rfl, rfl, rfl⟩, Nat.le_of_ble_eq_true rfl⟩ rfl (by decide) rfl (Nat.le_of_ble_eq_true rfl) h ?_
      intro r3 M4 h
      obtain ⟨o5, h⟩ := h
      refine w_if_ne dX10_law_17 rfl o5 (fun c => ?_) (fun c => ?_)
      · have h := h.1 c
        refine w_aload_n dX10_law_24 rfl ?_
        refine w_getR dX10_law_25 fX10_41 rfl rfl rfl ?_
        refine w_aload_n dX10_law_28 rfl ?_
        refine w_getR dX10_law_29 fX10_21 rfl rfl rfl ?_
        refine w_aload_n dX10_law_32 rfl ?_
        refine w_getR dX10_law_33 fX10_28 rfl rfl rfl ?_
        refine w_iload_n dX10_law_36 rfl ?_
        refine w_iload_n dX10_law_37 rfl ?_
        refine k_vL (as := [pR 21, pR 36, pI x1, pI x2]) dX10_law_38 kX10_143 ⟨⟨Nat.le_of_ble_eq_true rfl, rfl, rfl⟩, Nat.le_of_ble_eq_true rfl⟩ rfl (by decide) rfl (Nat.le_of_ble_eq_true rfl) h ?_
        intro r6 M7 h
        exact k_lret dX10_law_41 rfl h
      · have h := h.2 c
        refine w_ldc2 dX10_law_20 qX10_141 ?_
        exact k_lret dX10_law_23 rfl h
theorem vX10_push_0 {E : Scr} {f : Int → Mem → Prop} {M : Mem} (x1 : Int) (h : (CI E mX1_has [pR 21, pI x1] M (fun r1 M2 => (iR r1) ∧ ((r1 ≠ 0 → ((iR (M2 36 1)) → ((iR (M2 36 2)) → (CI E mX1_movable [pR 21, pI (M2 36 1), pI (M2 36 2)] M2 (fun r6 M7 => (((bAnd (bShr r6 x1) 1) ≠ 0 → (CV E mX9_remember [pR 44, pR 36, pI x1] M7 (fun M9 => (CV E mX0_asItGoes [pR 42] M9 (fun M11 => (CI E mX0_pushes [pR 42, pR 21, pR 36, pI x1] M11 (fun r12 M13 => ((iR (M13 36 1)) → (CI E mJ6_bitCount_0f7a4 [pI (M13 36 1)] M13 (fun r15 M16 => f r15 M16)))))))))) ∧ ((bAnd (bShr r6 x1) 1) = 0 → f (-2) M7))))))) ∧ (r1 = 0 → f (-1) M2))))) : CI E mX10_push [pR 0, pI x1] M f := by
  refine (show KW E mX10_push (qI f) M 0 [(0, pR 0), (1, pI x1)] [] from ?_)
  refine w_aload_n dX10_push_0 rfl ?_
  refine w_getR dX10_push_1 fX10_21 rfl rfl rfl ?_
  refine w_iload_n dX10_push_4 rfl ?_
  refine k_vI (as := [pI x1]) dX10_push_5 kX10_110 ⟨⟨Nat.le_of_ble_eq_true rfl, rfl, rfl⟩, Nat.le_of_ble_eq_true rfl⟩ rfl (by decide) rfl (Nat.le_of_ble_eq_true rfl) h ?_
  intro r1 M2 h
  obtain ⟨o3, h⟩ := h
  refine w_if_ne dX10_push_8 rfl o3 (fun c => ?_) (fun c => ?_)
  · have h := h.1 c
    refine w_aload_n dX10_push_13 rfl ?_
    refine w_getR dX10_push_14 fX10_21 rfl rfl rfl ?_
    refine w_aload_n dX10_push_17 rfl ?_
    refine w_getR dX10_push_18 fX10_28 rfl rfl rfl ?_
    refine w_getI (x := (M2 36 1)) dX10_push_21 fX10_120 rfl rfl rfl (fun g4 => ?_)
    have h := h g4
    refine w_aload_n dX10_push_24 rfl ?_
    refine w_getR dX10_push_25 fX10_28 rfl rfl rfl ?_
    refine w_getI (x := (M2 36 2)) dX10_push_28 fX10_123 rfl rfl rfl (fun g5 => ?_)
    have h := h g5
    refine k_vI (as := [pI (M2 36 1), pI (M2 36 2)]) dX10_push_31 kX10_126 ⟨⟨Nat.le_of_ble_eq_true rfl, rfl, rfl⟩, Nat.le_of_ble_eq_true rfl⟩ rfl (by decide) rfl (Nat.le_of_ble_eq_true rfl) h ?_
    intro r6 M7 h
    refine w_iload_n dX10_push_34 rfl ?_
    refine w_ishr dX10_push_35 ?_
    refine w_iconst dX10_push_36 ?_
    refine w_iand dX10_push_37 ?_
    refine w_if_ne dX10_push_38 rfl (bAnd_r _ _) (fun c => ?_) (fun c => ?_)
    · have h := h.1 c
      refine w_aload_n dX10_push_44 rfl ?_
      refine w_getR dX10_push_45 fX10_48 rfl rfl rfl ?_
      refine w_aload_n dX10_push_48 rfl ?_
      refine w_getR dX10_push_49 fX10_28 rfl rfl rfl ?_
      refine w_iload_n dX10_push_52 rfl ?_
      refine k_vV (as := [pR 36, pI x1]) dX10_push_53 kX10_147 ⟨⟨Nat.le_of_ble_eq_true rfl, rfl, rfl⟩, Nat.le_of_ble_eq_true rfl⟩ rfl (by decide) rfl (Nat.le_of_ble_eq_true rfl) h ?_
      intro M9 h
      refine w_aload_n dX10_push_56 rfl ?_
      refine w_getR dX10_push_57 fX10_41 rfl rfl rfl ?_
      refine k_vV (as := []) dX10_push_60 kX10_151 ⟨⟨Nat.le_of_ble_eq_true rfl, rfl, rfl⟩, Nat.le_of_ble_eq_true rfl⟩ rfl (by decide) rfl (Nat.le_of_ble_eq_true rfl) h ?_
      intro M11 h
      refine w_aload_n dX10_push_63 rfl ?_
      refine w_getR dX10_push_64 fX10_41 rfl rfl rfl ?_
      refine w_aload_n dX10_push_67 rfl ?_
      refine w_getR dX10_push_68 fX10_21 rfl rfl rfl ?_
      refine w_aload_n dX10_push_71 rfl ?_
      refine w_getR dX10_push_72 fX10_28 rfl rfl rfl ?_
      refine w_iload_n dX10_push_75 rfl ?_
      refine k_vI (as := [pR 21, pR 36, pI x1]) dX10_push_76 kX10_154 ⟨⟨Nat.le_of_ble_eq_true rfl, rfl, rfl⟩, Nat.le_of_ble_eq_true rfl⟩ rfl (by decide) rfl (Nat.le_of_ble_eq_true rfl) h ?_
      intro r12 M13 h
      refine w_pop dX10_push_79 rfl ?_
      refine w_aload_n dX10_push_80 rfl ?_
      refine w_getR dX10_push_81 fX10_28 rfl rfl rfl ?_
      refine w_getI (x := (M13 36 1)) dX10_push_84 fX10_120 rfl rfl rfl (fun g14 => ?_)
      have h := h g14
      refine k_sI (as := [pI (M13 36 1)]) dX10_push_87 kX10_158 ⟨⟨Nat.le_of_ble_eq_true rfl, rfl, rfl⟩, Nat.le_of_ble_eq_true rfl⟩ rfl (Nat.le_of_ble_eq_true rfl) h ?_
      intro r15 M16 h
      exact k_iret dX10_push_90 rfl h
    · have h := h.2 c
      refine w_bipush dX10_push_41 (by decide) ?_
      exact k_iret dX10_push_43 rfl h
  · have h := h.2 c
    refine w_iconst dX10_push_11 ?_
    exact k_iret dX10_push_12 rfl h
theorem vX10_force_0 {E : Scr} {f : Int → Mem → Prop} {M : Mem} (x1 : Int) (h : (CI E mX1_has [pR 21, pI x1] M (fun r1 M2 => (iR r1) ∧ ((r1 ≠ 0 → (CV E mX9_remember [pR 44, pR 36, pI x1] M2 (fun M5 => ((iR (M5 36 1)) → ((iR (bXor (M5 36 1) (bShl 1 x1))) → f (bAnd (bShr (bXor (M5 36 1) (bShl 1 x1)) x1) 1) (upM M5 36 1 (bXor (M5 36 1) (bShl 1 x1)))))))) ∧ (r1 = 0 → f (-1) M2))))) : CI E mX10_force [pR 0, pI x1] M f := by
  refine (show KW E mX10_force (qI f) M 0 [(0, pR 0), (1, pI x1)] [] from ?_)
  refine w_aload_n dX10_force_0 rfl ?_
  refine w_getR dX10_force_1 fX10_21 rfl rfl rfl ?_
  refine w_iload_n dX10_force_4 rfl ?_
  refine k_vI (as := [pI x1]) dX10_force_5 kX10_110 ⟨⟨Nat.le_of_ble_eq_true rfl, rfl, rfl⟩, Nat.le_of_ble_eq_true rfl⟩ rfl (by decide) rfl (Nat.le_of_ble_eq_true rfl) h ?_
  intro r1 M2 h
  obtain ⟨o3, h⟩ := h
  refine w_if_ne dX10_force_8 rfl o3 (fun c => ?_) (fun c => ?_)
  · have h := h.1 c
    refine w_aload_n dX10_force_13 rfl ?_
    refine w_getR dX10_force_14 fX10_48 rfl rfl rfl ?_
    refine w_aload_n dX10_force_17 rfl ?_
    refine w_getR dX10_force_18 fX10_28 rfl rfl rfl ?_
    refine w_iload_n dX10_force_21 rfl ?_
    refine k_vV (as := [pR 36, pI x1]) dX10_force_22 kX10_147 ⟨⟨Nat.le_of_ble_eq_true rfl, rfl, rfl⟩, Nat.le_of_ble_eq_true rfl⟩ rfl (by decide) rfl (Nat.le_of_ble_eq_true rfl) h ?_
    intro M5 h
    refine w_aload_n dX10_force_25 rfl ?_
    refine w_getR dX10_force_26 fX10_28 rfl rfl rfl ?_
    refine w_dup dX10_force_29 rfl ?_
    refine w_getI (x := (M5 36 1)) dX10_force_30 fX10_120 rfl rfl rfl (fun g6 => ?_)
    have h := h g6
    refine w_iconst dX10_force_33 ?_
    refine w_iload_n dX10_force_34 rfl ?_
    refine w_ishl dX10_force_35 ?_
    refine w_ixor dX10_force_36 ?_
    refine w_putI dX10_force_37 (Or.inl ⟨rfl, fX10_120⟩) rfl rfl (bXor_r _ _) ?_
    refine w_aload_n dX10_force_40 rfl ?_
    refine w_getR dX10_force_41 fX10_28 rfl rfl rfl ?_
    refine w_getI (x := (bXor (M5 36 1) (bShl 1 x1))) dX10_force_44 fX10_120 rfl rfl rfl (fun g7 => ?_)
    have h := h g7
    refine w_iload_n dX10_force_47 rfl ?_
    refine w_ishr dX10_force_48 ?_
    refine w_iconst dX10_force_49 ?_
    refine w_iand dX10_force_50 ?_
    exact k_iret dX10_force_51 rfl h
  · have h := h.2 c
    refine w_iconst dX10_force_11 ?_
    exact k_iret dX10_force_12 rfl h
theorem vX10_seal_0 {E : Scr} {f : Int → Mem → Prop} {M : Mem} (x1 : Int) (h : (CI E mX1_has [pR 21, pI x1] M (fun r1 M2 => (iR r1) ∧ ((r1 ≠ 0 → (CV E mX9_remember [pR 44, pR 36, pI x1] M2 (fun M5 => ((iR (M5 36 2)) → ((iR (bXor (M5 36 2) (bShl 1 x1))) → f (bAnd (bShr (bXor (M5 36 2) (bShl 1 x1)) x1) 1) (upM M5 36 2 (bXor (M5 36 2) (bShl 1 x1)))))))) ∧ (r1 = 0 → f (-1) M2))))) : CI E mX10_seal [pR 0, pI x1] M f := by
  refine (show KW E mX10_seal (qI f) M 0 [(0, pR 0), (1, pI x1)] [] from ?_)
  refine w_aload_n dX10_seal_0 rfl ?_
  refine w_getR dX10_seal_1 fX10_21 rfl rfl rfl ?_
  refine w_iload_n dX10_seal_4 rfl ?_
  refine k_vI (as := [pI x1]) dX10_seal_5 kX10_110 ⟨⟨Nat.le_of_ble_eq_true rfl, rfl, rfl⟩, Nat.le_of_ble_eq_true rfl⟩ rfl (by decide) rfl (Nat.le_of_ble_eq_true rfl) h ?_
  intro r1 M2 h
  obtain ⟨o3, h⟩ := h
  refine w_if_ne dX10_seal_8 rfl o3 (fun c => ?_) (fun c => ?_)
  · have h := h.1 c
    refine w_aload_n dX10_seal_13 rfl ?_
    refine w_getR dX10_seal_14 fX10_48 rfl rfl rfl ?_
    refine w_aload_n dX10_seal_17 rfl ?_
    refine w_getR dX10_seal_18 fX10_28 rfl rfl rfl ?_
    refine w_iload_n dX10_seal_21 rfl ?_
    refine k_vV (as := [pR 36, pI x1]) dX10_seal_22 kX10_147 ⟨⟨Nat.le_of_ble_eq_true rfl, rfl, rfl⟩, Nat.le_of_ble_eq_true rfl⟩ rfl (by decide) rfl (Nat.le_of_ble_eq_true rfl) h ?_
    intro M5 h
    refine w_aload_n dX10_seal_25 rfl ?_
    refine w_getR dX10_seal_26 fX10_28 rfl rfl rfl ?_
    refine w_dup dX10_seal_29 rfl ?_
    refine w_getI (x := (M5 36 2)) dX10_seal_30 fX10_123 rfl rfl rfl (fun g6 => ?_)
    have h := h g6
    refine w_iconst dX10_seal_33 ?_
    refine w_iload_n dX10_seal_34 rfl ?_
    refine w_ishl dX10_seal_35 ?_
    refine w_ixor dX10_seal_36 ?_
    refine w_putI dX10_seal_37 (Or.inl ⟨rfl, fX10_123⟩) rfl rfl (bXor_r _ _) ?_
    refine w_aload_n dX10_seal_40 rfl ?_
    refine w_getR dX10_seal_41 fX10_28 rfl rfl rfl ?_
    refine w_getI (x := (bXor (M5 36 2) (bShl 1 x1))) dX10_seal_44 fX10_123 rfl rfl rfl (fun g7 => ?_)
    have h := h g7
    refine w_iload_n dX10_seal_47 rfl ?_
    refine w_ishr dX10_seal_48 ?_
    refine w_iconst dX10_seal_49 ?_
    refine w_iand dX10_seal_50 ?_
    exact k_iret dX10_seal_51 rfl h
  · have h := h.2 c
    refine w_iconst dX10_seal_11 ?_
    exact k_iret dX10_seal_12 rfl h
theorem vX10_go_0 {E : Scr} {f : Int → Mem → Prop} {M : Mem} (x1 : Int) (h : (iR x1) ∧ ((x1 < 0 → f (-1) M) ∧ (x1 ≥ 0 → (iR x1) ∧ ((x1 > 200 → f (-1) M) ∧ (x1 ≤ 200 → ((iR (M 36 0)) → (iR ((M 36 0) + x1)) ∧ ((((M 36 0) + x1) ≤ 9000 → (iR x1) ∧ ((x1 ≤ 0 → (CV E mX0_drawn [pR 42] M (fun M7 => (CV E mX0_pass [pR 42, pR 21, pR 36, pI x1] M7 (fun M9 => ((iR (M9 36 0)) → f (M9 36 0) M9)))))) ∧ (x1 > 0 → (CV E mX9_clear [pR 44] M (fun M12 => (CV E mX0_drawn [pR 42] M12 (fun M14 => (CV E mX0_pass [pR 42, pR 21, pR 36, pI x1] M14 (fun M16 => ((iR (M16 36 0)) → f (M16 36 0) M16)))))))))) ∧ (((M 36 0) + x1) > 9000 → f (-1) M)))))))) : CI E mX10_go [pR 0, pI x1] M f := by
  refine (show KW E mX10_go (qI f) M 0 [(0, pR 0), (1, pI x1)] [] from ?_)
  refine w_iload_n dX10_go_0 rfl ?_
  obtain ⟨o1, h⟩ := h
  refine w_if_lt dX10_go_1 rfl o1 (fun c => ?_) (fun c => ?_)
  · have h := h.1 c
    refine w_iconst dX10_go_26 ?_
    exact k_iret dX10_go_27 rfl h
  · have h := h.2 c
    refine w_iload_n dX10_go_4 rfl ?_
    refine w_sipush dX10_go_5 (by decide) ?_
    obtain ⟨o2, h⟩ := h
    refine w_icmp_gt dX10_go_8 rfl ⟨o2, (by decide)⟩ (fun c => ?_) (fun c => ?_)
    · have h := h.1 c
      refine w_iconst dX10_go_26 ?_
      exact k_iret dX10_go_27 rfl h
    · have h := h.2 c
      refine w_aload_n dX10_go_11 rfl ?_
      refine w_getR dX10_go_12 fX10_28 rfl rfl rfl ?_
      refine w_getI (x := (M 36 0)) dX10_go_15 fX10_163 rfl rfl rfl (fun g3 => ?_)
      have h := h g3
      refine w_iload_n dX10_go_18 rfl ?_
      refine w_iadd dX10_go_19 ?_
      refine w_sipush dX10_go_20 (by decide) ?_
      obtain ⟨o4, h⟩ := h
      refine w_icmp_le dX10_go_23 rfl ⟨o4, (by decide)⟩ (fun c => ?_) (fun c => ?_)
      · have h := h.1 c
        refine w_iload_n dX10_go_28 rfl ?_
        obtain ⟨o5, h⟩ := h
        refine w_if_le dX10_go_29 rfl o5 (fun c => ?_) (fun c => ?_)
        · have h := h.1 c
          refine w_aload_n dX10_go_39 rfl ?_
          refine w_getR dX10_go_40 fX10_41 rfl rfl rfl ?_
          refine k_vV (as := []) dX10_go_43 kX10_166 ⟨⟨Nat.le_of_ble_eq_true rfl, rfl, rfl⟩, Nat.le_of_ble_eq_true rfl⟩ rfl (by decide) rfl (Nat.le_of_ble_eq_true rfl) h ?_
          intro M7 h
          refine w_aload_n dX10_go_46 rfl ?_
          refine w_getR dX10_go_47 fX10_41 rfl rfl rfl ?_
          refine w_aload_n dX10_go_50 rfl ?_
          refine w_getR dX10_go_51 fX10_21 rfl rfl rfl ?_
          refine w_aload_n dX10_go_54 rfl ?_
          refine w_getR dX10_go_55 fX10_28 rfl rfl rfl ?_
          refine w_iload_n dX10_go_58 rfl ?_
          refine k_vV (as := [pR 21, pR 36, pI x1]) dX10_go_59 kX10_169 ⟨⟨Nat.le_of_ble_eq_true rfl, rfl, rfl⟩, Nat.le_of_ble_eq_true rfl⟩ rfl (by decide) rfl (Nat.le_of_ble_eq_true rfl) h ?_
          intro M9 h
          refine w_aload_n dX10_go_62 rfl ?_
          refine w_getR dX10_go_63 fX10_28 rfl rfl rfl ?_
          refine w_getI (x := (M9 36 0)) dX10_go_66 fX10_163 rfl rfl rfl (fun g10 => ?_)
          have h := h g10
          exact k_iret dX10_go_69 rfl h
        · have h := h.2 c
          refine w_aload_n dX10_go_32 rfl ?_
          refine w_getR dX10_go_33 fX10_48 rfl rfl rfl ?_
          refine k_vV (as := []) dX10_go_36 kX10_92 ⟨⟨Nat.le_of_ble_eq_true rfl, rfl, rfl⟩, Nat.le_of_ble_eq_true rfl⟩ rfl (by decide) rfl (Nat.le_of_ble_eq_true rfl) h ?_
          intro M12 h
          refine w_aload_n dX10_go_39 rfl ?_
          refine w_getR dX10_go_40 fX10_41 rfl rfl rfl ?_
          refine k_vV (as := []) dX10_go_43 kX10_166 ⟨⟨Nat.le_of_ble_eq_true rfl, rfl, rfl⟩, Nat.le_of_ble_eq_true rfl⟩ rfl (by decide) rfl (Nat.le_of_ble_eq_true rfl) h ?_
          intro M14 h
          refine w_aload_n dX10_go_46 rfl ?_
          refine w_getR dX10_go_47 fX10_41 rfl rfl rfl ?_
          refine w_aload_n dX10_go_50 rfl ?_
          refine w_getR dX10_go_51 fX10_21 rfl rfl rfl ?_
          refine w_aload_n dX10_go_54 rfl ?_
          refine w_getR dX10_go_55 fX10_28 rfl rfl rfl ?_
          refine w_iload_n dX10_go_58 rfl ?_
          refine k_vV (as := [pR 21, pR 36, pI x1]) dX10_go_59 kX10_169 ⟨⟨Nat.le_of_ble_eq_true rfl, rfl, rfl⟩, Nat.le_of_ble_eq_true rfl⟩ rfl (by decide) rfl (Nat.le_of_ble_eq_true rfl) h ?_
          intro M16 h
          refine w_aload_n dX10_go_62 rfl ?_
          refine w_getR dX10_go_63 fX10_28 rfl rfl rfl ?_
          refine w_getI (x := (M16 36 0)) dX10_go_66 fX10_163 rfl rfl rfl (fun g17 => ?_)
          have h := h g17
          exact k_iret dX10_go_69 rfl h
      · have h := h.2 c
        refine w_iconst dX10_go_26 ?_
        exact k_iret dX10_go_27 rfl h
theorem vX10_ahead_0 {E : Scr} {f : Int → Mem → Prop} {M : Mem} (x1 x2 : Int) (h : (iR x1) ∧ ((x1 < 0 → f (-1) M) ∧ (x1 ≥ 0 → (iR x1) ∧ ((x1 ≤ 200 → (CV E mX7_take [pR 38, pR 36] M (fun M4 => (CV E mX0_asItGoes [pR 42] M4 (fun M6 => (CV E mX0_pass [pR 42, pR 21, pR 38, pI x1] M6 (fun M8 => (iR x2) ∧ ((x2 = 0 → ((iR (M8 38 1)) → (CI E mJ6_bitCount_0f7a4 [pI (M8 38 1)] M8 (fun r11 M12 => f r11 M12)))) ∧ (x2 = 1 → ((iR (M8 38 3)) → ((iR (M8 36 3)) → f ((M8 38 3) - (M8 36 3)) M8))) ∧ (x2 = 2 → ((iR (M8 38 4)) → ((iR (M8 36 4)) → f ((M8 38 4) - (M8 36 4)) M8))) ∧ (x2 = 3 → ((iR (M8 38 2)) → (CI E mJ6_bitCount_0f7a4 [pI (M8 38 2)] M8 (fun r18 M19 => f r18 M19)))) ∧ (x2 = 4 → ((iR (M8 38 1)) → f (M8 38 1) M8)) ∧ (x2 < 0 ∨ 4 < x2 → f (-1) M8))))))))) ∧ (x1 > 200 → f (-1) M))))) : CI E mX10_ahead [pR 0, pI x1, pI x2] M f := by
  refine (show KW E mX10_ahead (qI f) M 0 [(0, pR 0), (1, pI x1), (2, pI x2)] [] from ?_)
  refine w_iload_n dX10_ahead_0 rfl ?_
  obtain ⟨o1, h⟩ := h
  refine w_if_lt dX10_ahead_1 rfl o1 (fun c => ?_) (fun c => ?_)
  · have h := h.1 c
    refine w_iconst dX10_ahead_11 ?_
    exact k_iret dX10_ahead_12 rfl h
  · have h := h.2 c
    refine w_iload_n dX10_ahead_4 rfl ?_
    refine w_sipush dX10_ahead_5 (by decide) ?_
    obtain ⟨o2, h⟩ := h
    refine w_icmp_le dX10_ahead_8 rfl ⟨o2, (by decide)⟩ (fun c => ?_) (fun c => ?_)
    · have h := h.1 c
      refine w_aload_n dX10_ahead_13 rfl ?_
      refine w_getR dX10_ahead_14 fX10_32 rfl rfl rfl ?_
      refine w_aload_n dX10_ahead_17 rfl ?_
      refine w_getR dX10_ahead_18 fX10_28 rfl rfl rfl ?_
      refine k_vV (as := [pR 36]) dX10_ahead_21 kX10_173 ⟨⟨Nat.le_of_ble_eq_true rfl, rfl, rfl⟩, Nat.le_of_ble_eq_true rfl⟩ rfl (by decide) rfl (Nat.le_of_ble_eq_true rfl) h ?_
      intro M4 h
      refine w_aload_n dX10_ahead_24 rfl ?_
      refine w_getR dX10_ahead_25 fX10_41 rfl rfl rfl ?_
      refine k_vV (as := []) dX10_ahead_28 kX10_151 ⟨⟨Nat.le_of_ble_eq_true rfl, rfl, rfl⟩, Nat.le_of_ble_eq_true rfl⟩ rfl (by decide) rfl (Nat.le_of_ble_eq_true rfl) h ?_
      intro M6 h
      refine w_aload_n dX10_ahead_31 rfl ?_
      refine w_getR dX10_ahead_32 fX10_41 rfl rfl rfl ?_
      refine w_aload_n dX10_ahead_35 rfl ?_
      refine w_getR dX10_ahead_36 fX10_21 rfl rfl rfl ?_
      refine w_aload_n dX10_ahead_39 rfl ?_
      refine w_getR dX10_ahead_40 fX10_32 rfl rfl rfl ?_
      refine w_iload_n dX10_ahead_43 rfl ?_
      refine k_vV (as := [pR 21, pR 38, pI x1]) dX10_ahead_44 kX10_169 ⟨⟨Nat.le_of_ble_eq_true rfl, rfl, rfl⟩, Nat.le_of_ble_eq_true rfl⟩ rfl (by decide) rfl (Nat.le_of_ble_eq_true rfl) h ?_
      intro M8 h
      refine w_iload_n dX10_ahead_47 rfl ?_
      obtain ⟨o9, h⟩ := h
      refine w_tsw (tgs := [84, 95, 111, 127, 138]) (td := 146) dX10_ahead_48 o9 rfl (by decide) rfl ?_ ?_
      · intro j hj hx
        match j, hj, hx with
        | 0, _, hx =>
          have h := h.1 (by simpa using hx)
          clear hx
          refine w_aload_n dX10_ahead_84 rfl ?_
          refine w_getR dX10_ahead_85 fX10_32 rfl rfl rfl ?_
          refine w_getI (x := (M8 38 1)) dX10_ahead_88 fX10_120 rfl rfl rfl (fun g10 => ?_)
          have h := h g10
          refine k_sI (as := [pI (M8 38 1)]) dX10_ahead_91 kX10_158 ⟨⟨Nat.le_of_ble_eq_true rfl, rfl, rfl⟩, Nat.le_of_ble_eq_true rfl⟩ rfl (Nat.le_of_ble_eq_true rfl) h ?_
          intro r11 M12 h
          exact k_iret dX10_ahead_94 rfl h
        | 1, _, hx =>
          have h := h.2.1 (by simpa using hx)
          clear hx
          refine w_aload_n dX10_ahead_95 rfl ?_
          refine w_getR dX10_ahead_96 fX10_32 rfl rfl rfl ?_
          refine w_getI (x := (M8 38 3)) dX10_ahead_99 fX10_177 rfl rfl rfl (fun g13 => ?_)
          have h := h g13
          refine w_aload_n dX10_ahead_102 rfl ?_
          refine w_getR dX10_ahead_103 fX10_28 rfl rfl rfl ?_
          refine w_getI (x := (M8 36 3)) dX10_ahead_106 fX10_177 rfl rfl rfl (fun g14 => ?_)
          have h := h g14
          refine w_isub dX10_ahead_109 ?_
          exact k_iret dX10_ahead_110 rfl h
        | 2, _, hx =>
          have h := h.2.2.1 (by simpa using hx)
          clear hx
          refine w_aload_n dX10_ahead_111 rfl ?_
          refine w_getR dX10_ahead_112 fX10_32 rfl rfl rfl ?_
          refine w_getI (x := (M8 38 4)) dX10_ahead_115 fX10_180 rfl rfl rfl (fun g15 => ?_)
          have h := h g15
          refine w_aload_n dX10_ahead_118 rfl ?_
          refine w_getR dX10_ahead_119 fX10_28 rfl rfl rfl ?_
          refine w_getI (x := (M8 36 4)) dX10_ahead_122 fX10_180 rfl rfl rfl (fun g16 => ?_)
          have h := h g16
          refine w_isub dX10_ahead_125 ?_
          exact k_iret dX10_ahead_126 rfl h
        | 3, _, hx =>
          have h := h.2.2.2.1 (by simpa using hx)
          clear hx
          refine w_aload_n dX10_ahead_127 rfl ?_
          refine w_getR dX10_ahead_128 fX10_32 rfl rfl rfl ?_
          refine w_getI (x := (M8 38 2)) dX10_ahead_131 fX10_123 rfl rfl rfl (fun g17 => ?_)
          have h := h g17
          refine k_sI (as := [pI (M8 38 2)]) dX10_ahead_134 kX10_158 ⟨⟨Nat.le_of_ble_eq_true rfl, rfl, rfl⟩, Nat.le_of_ble_eq_true rfl⟩ rfl (Nat.le_of_ble_eq_true rfl) h ?_
          intro r18 M19 h
          exact k_iret dX10_ahead_137 rfl h
        | 4, _, hx =>
          have h := h.2.2.2.2.1 (by simpa using hx)
          clear hx
          refine w_aload_n dX10_ahead_138 rfl ?_
          refine w_getR dX10_ahead_139 fX10_32 rfl rfl rfl ?_
          refine w_getI (x := (M8 38 1)) dX10_ahead_142 fX10_120 rfl rfl rfl (fun g20 => ?_)
          have h := h g20
          exact k_iret dX10_ahead_145 rfl h
        | _ + 5, hj, _ => exact absurd hj (by simp)
      · intro c
        have h := h.2.2.2.2.2 c
        refine w_iconst dX10_ahead_146 ?_
        exact k_iret dX10_ahead_147 rfl h
    · have h := h.2 c
      refine w_iconst dX10_ahead_11 ?_
      exact k_iret dX10_ahead_12 rfl h
theorem vX10_when_0 {E : Scr} {f : Int → Mem → Prop} {M : Mem} (x1 : Int) (h : (CI E mX1_has [pR 21, pI x1] M (fun r1 M2 => (iR r1) ∧ ((r1 ≠ 0 → (CV E mX7_take [pR 38, pR 36] M2 (fun M5 => (CV E mX0_asItGoes [pR 42] M5 (fun M7 => (KW E mX10_when (qI f) M7 33 [(0, pR 0), (1, pI x1), (2, pI 1)] [])))))) ∧ (r1 = 0 → f (-1) M2))))) : CI E mX10_when [pR 0, pI x1] M f := by
  refine (show KW E mX10_when (qI f) M 0 [(0, pR 0), (1, pI x1)] [] from ?_)
  refine w_aload_n dX10_when_0 rfl ?_
  refine w_getR dX10_when_1 fX10_21 rfl rfl rfl ?_
  refine w_iload_n dX10_when_4 rfl ?_
  refine k_vI (as := [pI x1]) dX10_when_5 kX10_110 ⟨⟨Nat.le_of_ble_eq_true rfl, rfl, rfl⟩, Nat.le_of_ble_eq_true rfl⟩ rfl (by decide) rfl (Nat.le_of_ble_eq_true rfl) h ?_
  intro r1 M2 h
  obtain ⟨o3, h⟩ := h
  refine w_if_ne dX10_when_8 rfl o3 (fun c => ?_) (fun c => ?_)
  · have h := h.1 c
    refine w_aload_n dX10_when_13 rfl ?_
    refine w_getR dX10_when_14 fX10_32 rfl rfl rfl ?_
    refine w_aload_n dX10_when_17 rfl ?_
    refine w_getR dX10_when_18 fX10_28 rfl rfl rfl ?_
    refine k_vV (as := [pR 36]) dX10_when_21 kX10_173 ⟨⟨Nat.le_of_ble_eq_true rfl, rfl, rfl⟩, Nat.le_of_ble_eq_true rfl⟩ rfl (by decide) rfl (Nat.le_of_ble_eq_true rfl) h ?_
    intro M5 h
    refine w_aload_n dX10_when_24 rfl ?_
    refine w_getR dX10_when_25 fX10_41 rfl rfl rfl ?_
    refine k_vV (as := []) dX10_when_28 kX10_151 ⟨⟨Nat.le_of_ble_eq_true rfl, rfl, rfl⟩, Nat.le_of_ble_eq_true rfl⟩ rfl (by decide) rfl (Nat.le_of_ble_eq_true rfl) h ?_
    intro M7 h
    refine w_iconst dX10_when_31 ?_
    refine w_istore_n dX10_when_32 (by decide) ?_
    exact k_pick [1, 2, 0] rfl h
  · have h := h.2 c
    refine w_iconst dX10_when_11 ?_
    exact k_iret dX10_when_12 rfl h
theorem vX10_when_33 {E : Scr} {f : Int → Mem → Prop} {M : Mem} (x1 x2 : Int) (h : (iR x2) ∧ ((x2 > 199 → f (-2) M) ∧ (x2 ≤ 199 → (CV E mX0_pass [pR 42, pR 21, pR 38, pI 1] M (fun M3 => ((iR (M3 38 1)) → ((iR (M3 36 1)) → (((bAnd (bShr (bXor (M3 38 1) (M3 36 1)) x1) 1) = 0 → (KW E mX10_when (qI f) M3 33 [(0, pR 0), (1, pI x1), (2, pI (x2 + 1))] [])) ∧ ((bAnd (bShr (bXor (M3 38 1) (M3 36 1)) x1) 1) ≠ 0 → f x2 M3))))))))) : KW E mX10_when (qI f) M 33 [(0, pR 0), (1, pI x1), (2, pI x2)] [] := by
  refine w_iload_n dX10_when_33 rfl ?_
  refine w_sipush dX10_when_34 (by decide) ?_
  obtain ⟨o1, h⟩ := h
  refine w_icmp_gt dX10_when_37 rfl ⟨o1, (by decide)⟩ (fun c => ?_) (fun c => ?_)
  · have h := h.1 c
    refine w_bipush dX10_when_86 (by decide) ?_
    exact k_iret dX10_when_88 rfl h
  · have h := h.2 c
    refine w_aload_n dX10_when_40 rfl ?_
    refine w_getR dX10_when_41 fX10_41 rfl rfl rfl ?_
    refine w_aload_n dX10_when_44 rfl ?_
    refine w_getR dX10_when_45 fX10_21 rfl rfl rfl ?_
    refine w_aload_n dX10_when_48 rfl ?_
    refine w_getR dX10_when_49 fX10_32 rfl rfl rfl ?_
    refine w_iconst dX10_when_52 ?_
    refine k_vV (as := [pR 21, pR 38, pI 1]) dX10_when_53 kX10_169 ⟨⟨Nat.le_of_ble_eq_true rfl, rfl, rfl⟩, Nat.le_of_ble_eq_true rfl⟩ rfl (by decide) rfl (Nat.le_of_ble_eq_true rfl) h ?_
    intro M3 h
    refine w_aload_n dX10_when_56 rfl ?_
    refine w_getR dX10_when_57 fX10_32 rfl rfl rfl ?_
    refine w_getI (x := (M3 38 1)) dX10_when_60 fX10_120 rfl rfl rfl (fun g4 => ?_)
    have h := h g4
    refine w_aload_n dX10_when_63 rfl ?_
    refine w_getR dX10_when_64 fX10_28 rfl rfl rfl ?_
    refine w_getI (x := (M3 36 1)) dX10_when_67 fX10_120 rfl rfl rfl (fun g5 => ?_)
    have h := h g5
    refine w_ixor dX10_when_70 ?_
    refine w_iload_n dX10_when_71 rfl ?_
    refine w_ishr dX10_when_72 ?_
    refine w_iconst dX10_when_73 ?_
    refine w_iand dX10_when_74 ?_
    refine w_if_eq dX10_when_75 rfl (bAnd_r _ _) (fun c => ?_) (fun c => ?_)
    · have h := h.1 c
      refine w_iinc dX10_when_80 rfl (by decide) ?_
      refine w_goto dX10_when_83 rfl ?_
      exact k_pick [1, 2, 0] rfl h
    · have h := h.2 c
      refine w_iload_n dX10_when_78 rfl ?_
      exact k_iret dX10_when_79 rfl h
theorem vX10_fewest_0 {E : Scr} {f : Int → Mem → Prop} {M : Mem} (x1 : Int) (h : (CI E mX1_hasRow [pR 21, pI x1] M (fun r1 M2 => (iR r1) ∧ ((r1 ≠ 0 → (CV E mX10_lookAround [pR 0] M2 (fun M5 => (CI E mX4_stepsTo [pR 86, pI x1] M5 (fun r6 M7 => (iR r6) ∧ ((r6 ≠ (-1) → f r6 M7) ∧ (r6 = (-1) → f (-2) M7))))))) ∧ (r1 = 0 → f (-1) M2))))) : CI E mX10_fewest [pR 0, pI x1] M f := by
  refine (show KW E mX10_fewest (qI f) M 0 [(0, pR 0), (1, pI x1)] [] from ?_)
  refine w_aload_n dX10_fewest_0 rfl ?_
  refine w_getR dX10_fewest_1 fX10_21 rfl rfl rfl ?_
  refine w_iload_n dX10_fewest_4 rfl ?_
  refine k_vI (as := [pI x1]) dX10_fewest_5 kX10_138 ⟨⟨Nat.le_of_ble_eq_true rfl, rfl, rfl⟩, Nat.le_of_ble_eq_true rfl⟩ rfl (by decide) rfl (Nat.le_of_ble_eq_true rfl) h ?_
  intro r1 M2 h
  obtain ⟨o3, h⟩ := h
  refine w_if_ne dX10_fewest_8 rfl o3 (fun c => ?_) (fun c => ?_)
  · have h := h.1 c
    refine w_aload_n dX10_fewest_13 rfl ?_
    refine k_vV (as := []) dX10_fewest_14 kX10_183 ⟨⟨Nat.le_of_ble_eq_true rfl, rfl, rfl⟩, Nat.le_of_ble_eq_true rfl⟩ rfl (by decide) rfl (Nat.le_of_ble_eq_true rfl) h ?_
    intro M5 h
    refine w_aload_n dX10_fewest_17 rfl ?_
    refine w_getR dX10_fewest_18 fX10_55 rfl rfl rfl ?_
    refine w_iload_n dX10_fewest_21 rfl ?_
    refine k_vI (as := [pI x1]) dX10_fewest_22 kX10_186 ⟨⟨Nat.le_of_ble_eq_true rfl, rfl, rfl⟩, Nat.le_of_ble_eq_true rfl⟩ rfl (by decide) rfl (Nat.le_of_ble_eq_true rfl) h ?_
    intro r6 M7 h
    refine w_istore_n dX10_fewest_25 (by decide) ?_
    refine w_iload_n dX10_fewest_26 rfl ?_
    refine w_iconst dX10_fewest_27 ?_
    obtain ⟨o8, h⟩ := h
    refine w_icmp_ne dX10_fewest_28 rfl ⟨o8, (by decide)⟩ (fun c => ?_) (fun c => ?_)
    · have h := h.1 c
      refine w_iload_n dX10_fewest_36 rfl ?_
      exact k_iret dX10_fewest_37 rfl h
    · have h := h.2 c
      refine w_bipush dX10_fewest_31 (by decide) ?_
      refine w_goto dX10_fewest_33 rfl ?_
      exact k_iret dX10_fewest_37 rfl h
  · have h := h.2 c
    refine w_iconst dX10_fewest_11 ?_
    exact k_iret dX10_fewest_12 rfl h
theorem vX10_first_0 {E : Scr} {f : Int → Mem → Prop} {M : Mem} (x1 : Int) (h : (CI E mX1_hasRow [pR 21, pI x1] M (fun r1 M2 => (iR r1) ∧ ((r1 ≠ 0 → (CV E mX10_lookAround [pR 0] M2 (fun M5 => (CI E mX4_firstTo [pR 86, pI x1] M5 (fun r6 M7 => f r6 M7))))) ∧ (r1 = 0 → f (-1) M2))))) : CI E mX10_first [pR 0, pI x1] M f := by
  refine (show KW E mX10_first (qI f) M 0 [(0, pR 0), (1, pI x1)] [] from ?_)
  refine w_aload_n dX10_first_0 rfl ?_
  refine w_getR dX10_first_1 fX10_21 rfl rfl rfl ?_
  refine w_iload_n dX10_first_4 rfl ?_
  refine k_vI (as := [pI x1]) dX10_first_5 kX10_138 ⟨⟨Nat.le_of_ble_eq_true rfl, rfl, rfl⟩, Nat.le_of_ble_eq_true rfl⟩ rfl (by decide) rfl (Nat.le_of_ble_eq_true rfl) h ?_
  intro r1 M2 h
  obtain ⟨o3, h⟩ := h
  refine w_if_ne dX10_first_8 rfl o3 (fun c => ?_) (fun c => ?_)
  · have h := h.1 c
    refine w_aload_n dX10_first_13 rfl ?_
    refine k_vV (as := []) dX10_first_14 kX10_183 ⟨⟨Nat.le_of_ble_eq_true rfl, rfl, rfl⟩, Nat.le_of_ble_eq_true rfl⟩ rfl (by decide) rfl (Nat.le_of_ble_eq_true rfl) h ?_
    intro M5 h
    refine w_aload_n dX10_first_17 rfl ?_
    refine w_getR dX10_first_18 fX10_55 rfl rfl rfl ?_
    refine w_iload_n dX10_first_21 rfl ?_
    refine k_vI (as := [pI x1]) dX10_first_22 kX10_189 ⟨⟨Nat.le_of_ble_eq_true rfl, rfl, rfl⟩, Nat.le_of_ble_eq_true rfl⟩ rfl (by decide) rfl (Nat.le_of_ble_eq_true rfl) h ?_
    intro r6 M7 h
    exact k_iret dX10_first_25 rfl h
  · have h := h.2 c
    refine w_iconst dX10_first_11 ?_
    exact k_iret dX10_first_12 rfl h
theorem vX10_ways_0 {E : Scr} {f : Int → Mem → Prop} {M : Mem} (x1 : Int) (h : (CI E mX1_hasRow [pR 21, pI x1] M (fun r1 M2 => (iR r1) ∧ ((r1 ≠ 0 → (CV E mX10_lookAround [pR 0] M2 (fun M5 => (CI E mX4_waysTo [pR 86, pI x1] M5 (fun r6 M7 => f r6 M7))))) ∧ (r1 = 0 → f (-1) M2))))) : CI E mX10_ways [pR 0, pI x1] M f := by
  refine (show KW E mX10_ways (qI f) M 0 [(0, pR 0), (1, pI x1)] [] from ?_)
  refine w_aload_n dX10_ways_0 rfl ?_
  refine w_getR dX10_ways_1 fX10_21 rfl rfl rfl ?_
  refine w_iload_n dX10_ways_4 rfl ?_
  refine k_vI (as := [pI x1]) dX10_ways_5 kX10_138 ⟨⟨Nat.le_of_ble_eq_true rfl, rfl, rfl⟩, Nat.le_of_ble_eq_true rfl⟩ rfl (by decide) rfl (Nat.le_of_ble_eq_true rfl) h ?_
  intro r1 M2 h
  obtain ⟨o3, h⟩ := h
  refine w_if_ne dX10_ways_8 rfl o3 (fun c => ?_) (fun c => ?_)
  · have h := h.1 c
    refine w_aload_n dX10_ways_13 rfl ?_
    refine k_vV (as := []) dX10_ways_14 kX10_183 ⟨⟨Nat.le_of_ble_eq_true rfl, rfl, rfl⟩, Nat.le_of_ble_eq_true rfl⟩ rfl (by decide) rfl (Nat.le_of_ble_eq_true rfl) h ?_
    intro M5 h
    refine w_aload_n dX10_ways_17 rfl ?_
    refine w_getR dX10_ways_18 fX10_55 rfl rfl rfl ?_
    refine w_iload_n dX10_ways_21 rfl ?_
    refine k_vI (as := [pI x1]) dX10_ways_22 kX10_192 ⟨⟨Nat.le_of_ble_eq_true rfl, rfl, rfl⟩, Nat.le_of_ble_eq_true rfl⟩ rfl (by decide) rfl (Nat.le_of_ble_eq_true rfl) h ?_
    intro r6 M7 h
    exact k_iret dX10_ways_25 rfl h
  · have h := h.2 c
    refine w_iconst dX10_ways_11 ?_
    exact k_iret dX10_ways_12 rfl h
theorem vX10_reach_0 {E : Scr} {f : Int → Mem → Prop} {M : Mem} (h : (CV E mX10_lookAround [pR 0] M (fun M2 => ((iR (M2 86 9)) → f (M2 86 9) M2)))) : CI E mX10_reach [pR 0] M f := by
  refine (show KW E mX10_reach (qI f) M 0 [(0, pR 0)] [] from ?_)
  refine w_aload_n dX10_reach_0 rfl ?_
  refine k_vV (as := []) dX10_reach_1 kX10_183 ⟨⟨Nat.le_of_ble_eq_true rfl, rfl, rfl⟩, Nat.le_of_ble_eq_true rfl⟩ rfl (by decide) rfl (Nat.le_of_ble_eq_true rfl) h ?_
  intro M2 h
  refine w_aload_n dX10_reach_4 rfl ?_
  refine w_getR dX10_reach_5 fX10_55 rfl rfl rfl ?_
  refine w_getI (x := (M2 86 9)) dX10_reach_8 fX10_195 rfl rfl rfl (fun g3 => ?_)
  have h := h g3
  exact k_iret dX10_reach_11 rfl h
theorem vX10_farthest_0 {E : Scr} {f : Int → Mem → Prop} {M : Mem} (x1 : Int) (h : (iR x1) ∧ ((x1 = 0 → (CV E mX10_lookAround [pR 0] M (fun M3 => (CI E mX4_farthestRow [pR 86] M3 (fun r4 M5 => (iR x1) ∧ ((x1 ≠ 0 → f r4 M5) ∧ (x1 = 0 → (CI E mX4_stepsTo [pR 86, pI r4] M5 (fun r7 M8 => f r7 M8))))))))) ∧ (x1 ≠ 0 → (iR x1) ∧ ((x1 = 1 → (CV E mX10_lookAround [pR 0] M (fun M11 => (CI E mX4_farthestRow [pR 86] M11 (fun r12 M13 => (iR x1) ∧ ((x1 ≠ 0 → f r12 M13) ∧ (x1 = 0 → (CI E mX4_stepsTo [pR 86, pI r12] M13 (fun r15 M16 => f r15 M16))))))))) ∧ (x1 ≠ 1 → f (-1) M))))) : CI E mX10_farthest [pR 0, pI x1] M f := by
  refine (show KW E mX10_farthest (qI f) M 0 [(0, pR 0), (1, pI x1)] [] from ?_)
  refine w_iload_n dX10_farthest_0 rfl ?_
  obtain ⟨o1, h⟩ := h
  refine w_if_eq dX10_farthest_1 rfl o1 (fun c => ?_) (fun c => ?_)
  · have h := h.1 c
    refine w_aload_n dX10_farthest_11 rfl ?_
    refine k_vV (as := []) dX10_farthest_12 kX10_183 ⟨⟨Nat.le_of_ble_eq_true rfl, rfl, rfl⟩, Nat.le_of_ble_eq_true rfl⟩ rfl (by decide) rfl (Nat.le_of_ble_eq_true rfl) h ?_
    intro M3 h
    refine w_aload_n dX10_farthest_15 rfl ?_
    refine w_getR dX10_farthest_16 fX10_55 rfl rfl rfl ?_
    refine k_vI (as := []) dX10_farthest_19 kX10_198 ⟨⟨Nat.le_of_ble_eq_true rfl, rfl, rfl⟩, Nat.le_of_ble_eq_true rfl⟩ rfl (by decide) rfl (Nat.le_of_ble_eq_true rfl) h ?_
    intro r4 M5 h
    refine w_istore_n dX10_farthest_22 (by decide) ?_
    refine w_iload_n dX10_farthest_23 rfl ?_
    obtain ⟨o6, h⟩ := h
    refine w_if_ne dX10_farthest_24 rfl o6 (fun c => ?_) (fun c => ?_)
    · have h := h.1 c
      refine w_iload_n dX10_farthest_38 rfl ?_
      exact k_iret dX10_farthest_39 rfl h
    · have h := h.2 c
      refine w_aload_n dX10_farthest_27 rfl ?_
      refine w_getR dX10_farthest_28 fX10_55 rfl rfl rfl ?_
      refine w_iload_n dX10_farthest_31 rfl ?_
      refine k_vI (as := [pI r4]) dX10_farthest_32 kX10_186 ⟨⟨Nat.le_of_ble_eq_true rfl, rfl, rfl⟩, Nat.le_of_ble_eq_true rfl⟩ rfl (by decide) rfl (Nat.le_of_ble_eq_true rfl) h ?_
      intro r7 M8 h
      refine w_goto dX10_farthest_35 rfl ?_
      exact k_iret dX10_farthest_39 rfl h
  · have h := h.2 c
    refine w_iload_n dX10_farthest_4 rfl ?_
    refine w_iconst dX10_farthest_5 ?_
    obtain ⟨o9, h⟩ := h
    refine w_icmp_eq dX10_farthest_6 rfl ⟨o9, (by decide)⟩ (fun c => ?_) (fun c => ?_)
    · have h := h.1 c
      refine w_aload_n dX10_farthest_11 rfl ?_
      refine k_vV (as := []) dX10_farthest_12 kX10_183 ⟨⟨Nat.le_of_ble_eq_true rfl, rfl, rfl⟩, Nat.le_of_ble_eq_true rfl⟩ rfl (by decide) rfl (Nat.le_of_ble_eq_true rfl) h ?_
      intro M11 h
      refine w_aload_n dX10_farthest_15 rfl ?_
      refine w_getR dX10_farthest_16 fX10_55 rfl rfl rfl ?_
      refine k_vI (as := []) dX10_farthest_19 kX10_198 ⟨⟨Nat.le_of_ble_eq_true rfl, rfl, rfl⟩, Nat.le_of_ble_eq_true rfl⟩ rfl (by decide) rfl (Nat.le_of_ble_eq_true rfl) h ?_
      intro r12 M13 h
      refine w_istore_n dX10_farthest_22 (by decide) ?_
      refine w_iload_n dX10_farthest_23 rfl ?_
      obtain ⟨o14, h⟩ := h
      refine w_if_ne dX10_farthest_24 rfl o14 (fun c => ?_) (fun c => ?_)
      · have h := h.1 c
        refine w_iload_n dX10_farthest_38 rfl ?_
        exact k_iret dX10_farthest_39 rfl h
      · have h := h.2 c
        refine w_aload_n dX10_farthest_27 rfl ?_
        refine w_getR dX10_farthest_28 fX10_55 rfl rfl rfl ?_
        refine w_iload_n dX10_farthest_31 rfl ?_
        refine k_vI (as := [pI r12]) dX10_farthest_32 kX10_186 ⟨⟨Nat.le_of_ble_eq_true rfl, rfl, rfl⟩, Nat.le_of_ble_eq_true rfl⟩ rfl (by decide) rfl (Nat.le_of_ble_eq_true rfl) h ?_
        intro r15 M16 h
        refine w_goto dX10_farthest_35 rfl ?_
        exact k_iret dX10_farthest_39 rfl h
    · have h := h.2 c
      refine w_iconst dX10_farthest_9 ?_
      exact k_iret dX10_farthest_10 rfl h
theorem vX10_wide_0 {E : Scr} {f : Int → Mem → Prop} {M : Mem} (h : ((iR (M 36 2)) → (CV E mX4_lay [pR 86, pR 21, pI (M 36 2)] M (fun M3 => ((iR (M3 36 1)) → (CI E mX4_width [pR 86, pI (M3 36 1)] M3 (fun r5 M6 => f r5 M6))))))) : CI E mX10_wide [pR 0] M f := by
  refine (show KW E mX10_wide (qI f) M 0 [(0, pR 0)] [] from ?_)
  refine w_aload_n dX10_wide_0 rfl ?_
  refine w_getR dX10_wide_1 fX10_55 rfl rfl rfl ?_
  refine w_aload_n dX10_wide_4 rfl ?_
  refine w_getR dX10_wide_5 fX10_21 rfl rfl rfl ?_
  refine w_aload_n dX10_wide_8 rfl ?_
  refine w_getR dX10_wide_9 fX10_28 rfl rfl rfl ?_
  refine w_getI (x := (M 36 2)) dX10_wide_12 fX10_123 rfl rfl rfl (fun g1 => ?_)
  have h := h g1
  refine k_vV (as := [pR 21, pI (M 36 2)]) dX10_wide_15 kX10_202 ⟨⟨Nat.le_of_ble_eq_true rfl, rfl, rfl⟩, Nat.le_of_ble_eq_true rfl⟩ rfl (by decide) rfl (Nat.le_of_ble_eq_true rfl) h ?_
  intro M3 h
  refine w_aload_n dX10_wide_18 rfl ?_
  refine w_getR dX10_wide_19 fX10_55 rfl rfl rfl ?_
  refine w_aload_n dX10_wide_22 rfl ?_
  refine w_getR dX10_wide_23 fX10_28 rfl rfl rfl ?_
  refine w_getI (x := (M3 36 1)) dX10_wide_26 fX10_120 rfl rfl rfl (fun g4 => ?_)
  have h := h g4
  refine k_vI (as := [pI (M3 36 1)]) dX10_wide_29 kX10_206 ⟨⟨Nat.le_of_ble_eq_true rfl, rfl, rfl⟩, Nat.le_of_ble_eq_true rfl⟩ rfl (by decide) rfl (Nat.le_of_ble_eq_true rfl) h ?_
  intro r5 M6 h
  exact k_iret dX10_wide_32 rfl h
theorem vX10_parts_0 {E : Scr} {f : Int → Mem → Prop} {M : Mem} (h : ((iR (M 36 2)) → (CV E mX4_lay [pR 86, pR 21, pI (M 36 2)] M (fun M3 => (CI E mX4_partsInAll [pR 86] M3 (fun r4 M5 => f r4 M5)))))) : CI E mX10_parts [pR 0] M f := by
  refine (show KW E mX10_parts (qI f) M 0 [(0, pR 0)] [] from ?_)
  refine w_aload_n dX10_parts_0 rfl ?_
  refine w_getR dX10_parts_1 fX10_55 rfl rfl rfl ?_
  refine w_aload_n dX10_parts_4 rfl ?_
  refine w_getR dX10_parts_5 fX10_21 rfl rfl rfl ?_
  refine w_aload_n dX10_parts_8 rfl ?_
  refine w_getR dX10_parts_9 fX10_28 rfl rfl rfl ?_
  refine w_getI (x := (M 36 2)) dX10_parts_12 fX10_123 rfl rfl rfl (fun g1 => ?_)
  have h := h g1
  refine k_vV (as := [pR 21, pI (M 36 2)]) dX10_parts_15 kX10_202 ⟨⟨Nat.le_of_ble_eq_true rfl, rfl, rfl⟩, Nat.le_of_ble_eq_true rfl⟩ rfl (by decide) rfl (Nat.le_of_ble_eq_true rfl) h ?_
  intro M3 h
  refine w_aload_n dX10_parts_18 rfl ?_
  refine w_getR dX10_parts_19 fX10_55 rfl rfl rfl ?_
  refine k_vI (as := []) dX10_parts_22 kX10_209 ⟨⟨Nat.le_of_ble_eq_true rfl, rfl, rfl⟩, Nat.le_of_ble_eq_true rfl⟩ rfl (by decide) rfl (Nat.le_of_ble_eq_true rfl) h ?_
  intro r4 M5 h
  exact k_iret dX10_parts_25 rfl h
theorem vX10_past_0 {E : Scr} {f : Int → Mem → Prop} {M : Mem} (x1 x2 : Int) (h : (CI E mX1_hasRow [pR 21, pI x1] M (fun r1 M2 => (iR r1) ∧ ((r1 = 0 → f (-1) M2) ∧ (r1 ≠ 0 → (iR x2) ∧ ((x2 < 0 → f (-1) M2) ∧ (x2 ≥ 0 → ((iR (M2 36 1)) → (iR x1) ∧ ((x1 ≠ (M2 36 1) → ((iR (M2 36 2)) → (CV E mX4_lay [pR 86, pR 21, pI (M2 36 2)] M2 (fun M9 => ((iR (M9 36 1)) → (CI E mX4_narrow [pR 86, pI (M9 36 1), pI x1, pI x2] M9 (fun r11 M12 => f r11 M12))))))) ∧ (x1 = (M2 36 1) → f (-1) M2)))))))))) : CI E mX10_past [pR 0, pI x1, pI x2] M f := by
  refine (show KW E mX10_past (qI f) M 0 [(0, pR 0), (1, pI x1), (2, pI x2)] [] from ?_)
  refine w_aload_n dX10_past_0 rfl ?_
  refine w_getR dX10_past_1 fX10_21 rfl rfl rfl ?_
  refine w_iload_n dX10_past_4 rfl ?_
  refine k_vI (as := [pI x1]) dX10_past_5 kX10_138 ⟨⟨Nat.le_of_ble_eq_true rfl, rfl, rfl⟩, Nat.le_of_ble_eq_true rfl⟩ rfl (by decide) rfl (Nat.le_of_ble_eq_true rfl) h ?_
  intro r1 M2 h
  obtain ⟨o3, h⟩ := h
  refine w_if_eq dX10_past_8 rfl o3 (fun c => ?_) (fun c => ?_)
  · have h := h.1 c
    refine w_iconst dX10_past_26 ?_
    exact k_iret dX10_past_27 rfl h
  · have h := h.2 c
    refine w_iload_n dX10_past_11 rfl ?_
    obtain ⟨o4, h⟩ := h
    refine w_if_lt dX10_past_12 rfl o4 (fun c => ?_) (fun c => ?_)
    · have h := h.1 c
      refine w_iconst dX10_past_26 ?_
      exact k_iret dX10_past_27 rfl h
    · have h := h.2 c
      refine w_iload_n dX10_past_15 rfl ?_
      refine w_aload_n dX10_past_16 rfl ?_
      refine w_getR dX10_past_17 fX10_28 rfl rfl rfl ?_
      refine w_getI (x := (M2 36 1)) dX10_past_20 fX10_120 rfl rfl rfl (fun g5 => ?_)
      have h := h g5
      obtain ⟨o6, h⟩ := h
      refine w_icmp_ne dX10_past_23 rfl ⟨o6, g5⟩ (fun c => ?_) (fun c => ?_)
      · have h := h.1 c
        refine w_aload_n dX10_past_28 rfl ?_
        refine w_getR dX10_past_29 fX10_55 rfl rfl rfl ?_
        refine w_aload_n dX10_past_32 rfl ?_
        refine w_getR dX10_past_33 fX10_21 rfl rfl rfl ?_
        refine w_aload_n dX10_past_36 rfl ?_
        refine w_getR dX10_past_37 fX10_28 rfl rfl rfl ?_
        refine w_getI (x := (M2 36 2)) dX10_past_40 fX10_123 rfl rfl rfl (fun g7 => ?_)
        have h := h g7
        refine k_vV (as := [pR 21, pI (M2 36 2)]) dX10_past_43 kX10_202 ⟨⟨Nat.le_of_ble_eq_true rfl, rfl, rfl⟩, Nat.le_of_ble_eq_true rfl⟩ rfl (by decide) rfl (Nat.le_of_ble_eq_true rfl) h ?_
        intro M9 h
        refine w_aload_n dX10_past_46 rfl ?_
        refine w_getR dX10_past_47 fX10_55 rfl rfl rfl ?_
        refine w_aload_n dX10_past_50 rfl ?_
        refine w_getR dX10_past_51 fX10_28 rfl rfl rfl ?_
        refine w_getI (x := (M9 36 1)) dX10_past_54 fX10_120 rfl rfl rfl (fun g10 => ?_)
        have h := h g10
        refine w_iload_n dX10_past_57 rfl ?_
        refine w_iload_n dX10_past_58 rfl ?_
        refine k_vI (as := [pI (M9 36 1), pI x1, pI x2]) dX10_past_59 kX10_212 ⟨⟨Nat.le_of_ble_eq_true rfl, rfl, rfl⟩, Nat.le_of_ble_eq_true rfl⟩ rfl (by decide) rfl (Nat.le_of_ble_eq_true rfl) h ?_
        intro r11 M12 h
        exact k_iret dX10_past_62 rfl h
      · have h := h.2 c
        refine w_iconst dX10_past_26 ?_
        exact k_iret dX10_past_27 rfl h
theorem vX10_must_0 {E : Scr} {f : Int → Mem → Prop} {M : Mem} (x1 : Int) (h : (CI E mX1_hasRow [pR 21, pI x1] M (fun r1 M2 => (iR r1) ∧ ((r1 ≠ 0 → ((iR (M2 36 2)) → (CV E mX4_lay [pR 86, pR 21, pI (M2 36 2)] M2 (fun M6 => ((iR (M6 36 1)) → (CI E mX4_needed [pR 86, pI (M6 36 1), pI x1] M6 (fun r8 M9 => f r8 M9))))))) ∧ (r1 = 0 → f (-1) M2))))) : CI E mX10_must [pR 0, pI x1] M f := by
  refine (show KW E mX10_must (qI f) M 0 [(0, pR 0), (1, pI x1)] [] from ?_)
  refine w_aload_n dX10_must_0 rfl ?_
  refine w_getR dX10_must_1 fX10_21 rfl rfl rfl ?_
  refine w_iload_n dX10_must_4 rfl ?_
  refine k_vI (as := [pI x1]) dX10_must_5 kX10_138 ⟨⟨Nat.le_of_ble_eq_true rfl, rfl, rfl⟩, Nat.le_of_ble_eq_true rfl⟩ rfl (by decide) rfl (Nat.le_of_ble_eq_true rfl) h ?_
  intro r1 M2 h
  obtain ⟨o3, h⟩ := h
  refine w_if_ne dX10_must_8 rfl o3 (fun c => ?_) (fun c => ?_)
  · have h := h.1 c
    refine w_aload_n dX10_must_13 rfl ?_
    refine w_getR dX10_must_14 fX10_55 rfl rfl rfl ?_
    refine w_aload_n dX10_must_17 rfl ?_
    refine w_getR dX10_must_18 fX10_21 rfl rfl rfl ?_
    refine w_aload_n dX10_must_21 rfl ?_
    refine w_getR dX10_must_22 fX10_28 rfl rfl rfl ?_
    refine w_getI (x := (M2 36 2)) dX10_must_25 fX10_123 rfl rfl rfl (fun g4 => ?_)
    have h := h g4
    refine k_vV (as := [pR 21, pI (M2 36 2)]) dX10_must_28 kX10_202 ⟨⟨Nat.le_of_ble_eq_true rfl, rfl, rfl⟩, Nat.le_of_ble_eq_true rfl⟩ rfl (by decide) rfl (Nat.le_of_ble_eq_true rfl) h ?_
    intro M6 h
    refine w_aload_n dX10_must_31 rfl ?_
    refine w_getR dX10_must_32 fX10_55 rfl rfl rfl ?_
    refine w_aload_n dX10_must_35 rfl ?_
    refine w_getR dX10_must_36 fX10_28 rfl rfl rfl ?_
    refine w_getI (x := (M6 36 1)) dX10_must_39 fX10_120 rfl rfl rfl (fun g7 => ?_)
    have h := h g7
    refine w_iload_n dX10_must_42 rfl ?_
    refine k_vI (as := [pI (M6 36 1), pI x1]) dX10_must_43 kX10_216 ⟨⟨Nat.le_of_ble_eq_true rfl, rfl, rfl⟩, Nat.le_of_ble_eq_true rfl⟩ rfl (by decide) rfl (Nat.le_of_ble_eq_true rfl) h ?_
    intro r8 M9 h
    exact k_iret dX10_must_46 rfl h
  · have h := h.2 c
    refine w_iconst dX10_must_11 ?_
    exact k_iret dX10_must_12 rfl h
theorem vX10_free_0 {E : Scr} {f : Int → Mem → Prop} {M : Mem} (x1 : Int) (h : (CI E mX1_has [pR 21, pI x1] M (fun r1 M2 => (iR r1) ∧ ((r1 ≠ 0 → (CV E mX10_lookAround [pR 0] M2 (fun M5 => (CI E mX4_stepsToMove [pR 86, pI x1] M5 (fun r6 M7 => f r6 M7))))) ∧ (r1 = 0 → f (-1) M2))))) : CI E mX10_free [pR 0, pI x1] M f := by
  refine (show KW E mX10_free (qI f) M 0 [(0, pR 0), (1, pI x1)] [] from ?_)
  refine w_aload_n dX10_free_0 rfl ?_
  refine w_getR dX10_free_1 fX10_21 rfl rfl rfl ?_
  refine w_iload_n dX10_free_4 rfl ?_
  refine k_vI (as := [pI x1]) dX10_free_5 kX10_110 ⟨⟨Nat.le_of_ble_eq_true rfl, rfl, rfl⟩, Nat.le_of_ble_eq_true rfl⟩ rfl (by decide) rfl (Nat.le_of_ble_eq_true rfl) h ?_
  intro r1 M2 h
  obtain ⟨o3, h⟩ := h
  refine w_if_ne dX10_free_8 rfl o3 (fun c => ?_) (fun c => ?_)
  · have h := h.1 c
    refine w_aload_n dX10_free_13 rfl ?_
    refine k_vV (as := []) dX10_free_14 kX10_183 ⟨⟨Nat.le_of_ble_eq_true rfl, rfl, rfl⟩, Nat.le_of_ble_eq_true rfl⟩ rfl (by decide) rfl (Nat.le_of_ble_eq_true rfl) h ?_
    intro M5 h
    refine w_aload_n dX10_free_17 rfl ?_
    refine w_getR dX10_free_18 fX10_55 rfl rfl rfl ?_
    refine w_iload_n dX10_free_21 rfl ?_
    refine k_vI (as := [pI x1]) dX10_free_22 kX10_219 ⟨⟨Nat.le_of_ble_eq_true rfl, rfl, rfl⟩, Nat.le_of_ble_eq_true rfl⟩ rfl (by decide) rfl (Nat.le_of_ble_eq_true rfl) h ?_
    intro r6 M7 h
    exact k_iret dX10_free_25 rfl h
  · have h := h.2 c
    refine w_iconst dX10_free_11 ?_
    exact k_iret dX10_free_12 rfl h
theorem vX10_ease_0 {E : Scr} {f : Int → Mem → Prop} {M : Mem} (x1 : Int) (h : (CI E mX1_hasRow [pR 21, pI x1] M (fun r1 M2 => (iR r1) ∧ ((r1 ≠ 0 → ((iR (M2 36 1)) → ((iR (M2 36 2)) → (((bAnd (bXor x1 (M2 36 1)) (M2 36 2)) = 0 → ((iR (M2 36 2)) → (CV E mX4_lay [pR 86, pR 21, pI (M2 36 2)] M2 (fun M8 => ((iR (M8 36 1)) → ((iR (M8 36 2)) → ((iR (M8 21 5)) → (CI E mX4_eased [pR 86, pI (M8 36 1), pI x1, pI (M8 36 2), pI (M8 21 5)] M8 (fun r12 M13 => f r12 M13))))))))) ∧ ((bAnd (bXor x1 (M2 36 1)) (M2 36 2)) ≠ 0 → f (-2) M2))))) ∧ (r1 = 0 → f (-1) M2))))) : CI E mX10_ease [pR 0, pI x1] M f := by
  refine (show KW E mX10_ease (qI f) M 0 [(0, pR 0), (1, pI x1)] [] from ?_)
  refine w_aload_n dX10_ease_0 rfl ?_
  refine w_getR dX10_ease_1 fX10_21 rfl rfl rfl ?_
  refine w_iload_n dX10_ease_4 rfl ?_
  refine k_vI (as := [pI x1]) dX10_ease_5 kX10_138 ⟨⟨Nat.le_of_ble_eq_true rfl, rfl, rfl⟩, Nat.le_of_ble_eq_true rfl⟩ rfl (by decide) rfl (Nat.le_of_ble_eq_true rfl) h ?_
  intro r1 M2 h
  obtain ⟨o3, h⟩ := h
  refine w_if_ne dX10_ease_8 rfl o3 (fun c => ?_) (fun c => ?_)
  · have h := h.1 c
    refine w_iload_n dX10_ease_13 rfl ?_
    refine w_aload_n dX10_ease_14 rfl ?_
    refine w_getR dX10_ease_15 fX10_28 rfl rfl rfl ?_
    refine w_getI (x := (M2 36 1)) dX10_ease_18 fX10_120 rfl rfl rfl (fun g4 => ?_)
    have h := h g4
    refine w_ixor dX10_ease_21 ?_
    refine w_aload_n dX10_ease_22 rfl ?_
    refine w_getR dX10_ease_23 fX10_28 rfl rfl rfl ?_
    refine w_getI (x := (M2 36 2)) dX10_ease_26 fX10_123 rfl rfl rfl (fun g5 => ?_)
    have h := h g5
    refine w_iand dX10_ease_29 ?_
    refine w_if_eq dX10_ease_30 rfl (bAnd_r _ _) (fun c => ?_) (fun c => ?_)
    · have h := h.1 c
      refine w_aload_n dX10_ease_36 rfl ?_
      refine w_getR dX10_ease_37 fX10_55 rfl rfl rfl ?_
      refine w_aload_n dX10_ease_40 rfl ?_
      refine w_getR dX10_ease_41 fX10_21 rfl rfl rfl ?_
      refine w_aload_n dX10_ease_44 rfl ?_
      refine w_getR dX10_ease_45 fX10_28 rfl rfl rfl ?_
      refine w_getI (x := (M2 36 2)) dX10_ease_48 fX10_123 rfl rfl rfl (fun g6 => ?_)
      have h := h g6
      refine k_vV (as := [pR 21, pI (M2 36 2)]) dX10_ease_51 kX10_202 ⟨⟨Nat.le_of_ble_eq_true rfl, rfl, rfl⟩, Nat.le_of_ble_eq_true rfl⟩ rfl (by decide) rfl (Nat.le_of_ble_eq_true rfl) h ?_
      intro M8 h
      refine w_aload_n dX10_ease_54 rfl ?_
      refine w_getR dX10_ease_55 fX10_55 rfl rfl rfl ?_
      refine w_aload_n dX10_ease_58 rfl ?_
      refine w_getR dX10_ease_59 fX10_28 rfl rfl rfl ?_
      refine w_getI (x := (M8 36 1)) dX10_ease_62 fX10_120 rfl rfl rfl (fun g9 => ?_)
      have h := h g9
      refine w_iload_n dX10_ease_65 rfl ?_
      refine w_aload_n dX10_ease_66 rfl ?_
      refine w_getR dX10_ease_67 fX10_28 rfl rfl rfl ?_
      refine w_getI (x := (M8 36 2)) dX10_ease_70 fX10_123 rfl rfl rfl (fun g10 => ?_)
      have h := h g10
      refine w_aload_n dX10_ease_73 rfl ?_
      refine w_getR dX10_ease_74 fX10_21 rfl rfl rfl ?_
      refine w_getI (x := (M8 21 5)) dX10_ease_77 fX10_222 rfl rfl rfl (fun g11 => ?_)
      have h := h g11
      refine k_vI (as := [pI (M8 36 1), pI x1, pI (M8 36 2), pI (M8 21 5)]) dX10_ease_80 kX10_225 ⟨⟨Nat.le_of_ble_eq_true rfl, rfl, rfl⟩, Nat.le_of_ble_eq_true rfl⟩ rfl (by decide) rfl (Nat.le_of_ble_eq_true rfl) h ?_
      intro r12 M13 h
      exact k_iret dX10_ease_83 rfl h
    · have h := h.2 c
      refine w_bipush dX10_ease_33 (by decide) ?_
      exact k_iret dX10_ease_35 rfl h
  · have h := h.2 c
    refine w_iconst dX10_ease_11 ?_
    exact k_iret dX10_ease_12 rfl h
theorem vX10_game_0 {E : Scr} {f : Int → Mem → Prop} {M : Mem} (x1 : Int) (h : (iR x1) ∧ ((x1 = 0 → (KW E mX10_game (qI f) M 11 [(0, pR 0), (1, pI x1)] [])) ∧ (x1 ≠ 0 → (iR x1) ∧ ((x1 = 1 → (KW E mX10_game (qI f) M 11 [(0, pR 0), (1, pI x1)] [])) ∧ (x1 ≠ 1 → f (-1) M))))) : CI E mX10_game [pR 0, pI x1] M f := by
  refine (show KW E mX10_game (qI f) M 0 [(0, pR 0), (1, pI x1)] [] from ?_)
  refine w_iload_n dX10_game_0 rfl ?_
  obtain ⟨o1, h⟩ := h
  refine w_if_eq dX10_game_1 rfl o1 (fun c => ?_) (fun c => ?_)
  · have h := h.1 c
    exact k_pick [0, 1] rfl h
  · have h := h.2 c
    refine w_iload_n dX10_game_4 rfl ?_
    refine w_iconst dX10_game_5 ?_
    obtain ⟨o2, h⟩ := h
    refine w_icmp_eq dX10_game_6 rfl ⟨o2, (by decide)⟩ (fun c => ?_) (fun c => ?_)
    · have h := h.1 c
      exact k_pick [0, 1] rfl h
    · have h := h.2 c
      refine w_iconst dX10_game_9 ?_
      exact k_iret dX10_game_10 rfl h
theorem vX10_game_11 {E : Scr} {f : Int → Mem → Prop} {M : Mem} (x1 : Int) (h : ((iR (M 36 2)) → (CV E mX4_lay [pR 86, pR 21, pI (M 36 2)] M (fun M3 => ((iR (M3 36 1)) → (CI E mX4_winningLatch [pR 86, pI (M3 36 1)] M3 (fun r5 M6 => (iR x1) ∧ ((x1 ≠ 1 → (iR r5) ∧ ((r5 ≠ (-2) → f 0 M6) ∧ (r5 = (-2) → f 1 M6))) ∧ (x1 = 1 → f r5 M6))))))))) : KW E mX10_game (qI f) M 11 [(0, pR 0), (1, pI x1)] [] := by
  refine w_aload_n dX10_game_11 rfl ?_
  refine w_getR dX10_game_12 fX10_55 rfl rfl rfl ?_
  refine w_aload_n dX10_game_15 rfl ?_
  refine w_getR dX10_game_16 fX10_21 rfl rfl rfl ?_
  refine w_aload_n dX10_game_19 rfl ?_
  refine w_getR dX10_game_20 fX10_28 rfl rfl rfl ?_
  refine w_getI (x := (M 36 2)) dX10_game_23 fX10_123 rfl rfl rfl (fun g1 => ?_)
  have h := h g1
  refine k_vV (as := [pR 21, pI (M 36 2)]) dX10_game_26 kX10_202 ⟨⟨Nat.le_of_ble_eq_true rfl, rfl, rfl⟩, Nat.le_of_ble_eq_true rfl⟩ rfl (by decide) rfl (Nat.le_of_ble_eq_true rfl) h ?_
  intro M3 h
  refine w_aload_n dX10_game_29 rfl ?_
  refine w_getR dX10_game_30 fX10_55 rfl rfl rfl ?_
  refine w_aload_n dX10_game_33 rfl ?_
  refine w_getR dX10_game_34 fX10_28 rfl rfl rfl ?_
  refine w_getI (x := (M3 36 1)) dX10_game_37 fX10_120 rfl rfl rfl (fun g4 => ?_)
  have h := h g4
  refine k_vI (as := [pI (M3 36 1)]) dX10_game_40 kX10_229 ⟨⟨Nat.le_of_ble_eq_true rfl, rfl, rfl⟩, Nat.le_of_ble_eq_true rfl⟩ rfl (by decide) rfl (Nat.le_of_ble_eq_true rfl) h ?_
  intro r5 M6 h
  refine w_istore_n dX10_game_43 (by decide) ?_
  refine w_iload_n dX10_game_44 rfl ?_
  refine w_iconst dX10_game_45 ?_
  obtain ⟨o7, h⟩ := h
  refine w_icmp_ne dX10_game_46 rfl ⟨o7, (by decide)⟩ (fun c => ?_) (fun c => ?_)
  · have h := h.1 c
    refine w_iload_n dX10_game_51 rfl ?_
    refine w_bipush dX10_game_52 (by decide) ?_
    obtain ⟨o8, h⟩ := h
    refine w_icmp_ne dX10_game_54 rfl ⟨o8, (by decide)⟩ (fun c => ?_) (fun c => ?_)
    · have h := h.1 c
      refine w_iconst dX10_game_61 ?_
      exact k_iret dX10_game_62 rfl h
    · have h := h.2 c
      refine w_iconst dX10_game_57 ?_
      refine w_goto dX10_game_58 rfl ?_
      exact k_iret dX10_game_62 rfl h
  · have h := h.2 c
    refine w_iload_n dX10_game_49 rfl ?_
    exact k_iret dX10_game_50 rfl h
theorem vX10_drunk_0 {E : Scr} {f : Int → Mem → Prop} {M : Mem} (x1 x2 x3 : Int) (h : (CI E mX1_hasRow [pR 21, pI x1] M (fun r1 M2 => (iR r1) ∧ ((r1 = 0 → f (-1) M2) ∧ (r1 ≠ 0 → (iR x2) ∧ ((x2 < 0 → f (-1) M2) ∧ (x2 ≥ 0 → (iR x2) ∧ ((x2 > 5 → f (-1) M2) ∧ (x2 ≤ 5 → (iR x3) ∧ ((x3 < 0 → f (-1) M2) ∧ (x3 ≥ 0 → (iR x3) ∧ ((x3 ≤ 1 → ((iR (M2 36 2)) → (CV E mX4_lay [pR 86, pR 21, pI (M2 36 2)] M2 (fun M10 => ((iR (M10 36 1)) → (CL E mX4_drunkTo [pR 86, pI (M10 36 1), pI x1, pI x2] M10 (fun r12 M13 => (CL E mX10_power [pL 840, pI x2] M13 (fun r14 M15 => (CL E mX10_inLeastTerms [pL r12, pL r14, pI x3] M15 (fun r16 M17 => f r16 M17))))))))))) ∧ (x3 > 1 → f (-1) M2))))))))))))) : CL E mX10_drunk [pR 0, pI x1, pI x2, pI x3] M f := by
  refine (show KW E mX10_drunk (qL f) M 0 [(0, pR 0), (1, pI x1), (2, pI x2), (3, pI x3)] [] from ?_)
  refine w_aload_n dX10_drunk_0 rfl ?_
  refine w_getR dX10_drunk_1 fX10_21 rfl rfl rfl ?_
  refine w_iload_n dX10_drunk_4 rfl ?_
  refine k_vI (as := [pI x1]) dX10_drunk_5 kX10_138 ⟨⟨Nat.le_of_ble_eq_true rfl, rfl, rfl⟩, Nat.le_of_ble_eq_true rfl⟩ rfl (by decide) rfl (Nat.le_of_ble_eq_true rfl) h ?_
  intro r1 M2 h
  obtain ⟨o3, h⟩ := h
  refine w_if_eq dX10_drunk_8 rfl o3 (fun c => ?_) (fun c => ?_)
  · have h := h.1 c
    refine w_ldc2 dX10_drunk_29 qX10_232 ?_
    exact k_lret dX10_drunk_32 rfl h
  · have h := h.2 c
    refine w_iload_n dX10_drunk_11 rfl ?_
    obtain ⟨o4, h⟩ := h
    refine w_if_lt dX10_drunk_12 rfl o4 (fun c => ?_) (fun c => ?_)
    · have h := h.1 c
      refine w_ldc2 dX10_drunk_29 qX10_232 ?_
      exact k_lret dX10_drunk_32 rfl h
    · have h := h.2 c
      refine w_iload_n dX10_drunk_15 rfl ?_
      refine w_iconst dX10_drunk_16 ?_
      obtain ⟨o5, h⟩ := h
      refine w_icmp_gt dX10_drunk_17 rfl ⟨o5, (by decide)⟩ (fun c => ?_) (fun c => ?_)
      · have h := h.1 c
        refine w_ldc2 dX10_drunk_29 qX10_232 ?_
        exact k_lret dX10_drunk_32 rfl h
      · have h := h.2 c
        refine w_iload_n dX10_drunk_20 rfl ?_
        obtain ⟨o6, h⟩ := h
        refine w_if_lt dX10_drunk_21 rfl o6 (fun c => ?_) (fun c => ?_)
        · have h := h.1 c
          refine w_ldc2 dX10_drunk_29 qX10_232 ?_
          exact k_lret dX10_drunk_32 rfl h
        · have h := h.2 c
          refine w_iload_n dX10_drunk_24 rfl ?_
          refine w_iconst dX10_drunk_25 ?_
          obtain ⟨o7, h⟩ := h
          refine w_icmp_le dX10_drunk_26 rfl ⟨o7, (by decide)⟩ (fun c => ?_) (fun c => ?_)
          · have h := h.1 c
            refine w_aload_n dX10_drunk_33 rfl ?_
            refine w_getR dX10_drunk_34 fX10_55 rfl rfl rfl ?_
            refine w_aload_n dX10_drunk_37 rfl ?_
            refine w_getR dX10_drunk_38 fX10_21 rfl rfl rfl ?_
            refine w_aload_n dX10_drunk_41 rfl ?_
            refine w_getR dX10_drunk_42 fX10_28 rfl rfl rfl ?_
            refine w_getI (x := (M2 36 2)) dX10_drunk_45 fX10_123 rfl rfl rfl (fun g8 => ?_)
            have h := h g8
            refine k_vV (as := [pR 21, pI (M2 36 2)]) dX10_drunk_48 kX10_202 ⟨⟨Nat.le_of_ble_eq_true rfl, rfl, rfl⟩, Nat.le_of_ble_eq_true rfl⟩ rfl (by decide) rfl (Nat.le_of_ble_eq_true rfl) h ?_
            intro M10 h
            refine w_aload_n dX10_drunk_51 rfl ?_
            refine w_getR dX10_drunk_52 fX10_55 rfl rfl rfl ?_
            refine w_aload_n dX10_drunk_55 rfl ?_
            refine w_getR dX10_drunk_56 fX10_28 rfl rfl rfl ?_
            refine w_getI (x := (M10 36 1)) dX10_drunk_59 fX10_120 rfl rfl rfl (fun g11 => ?_)
            have h := h g11
            refine w_iload_n dX10_drunk_62 rfl ?_
            refine w_iload_n dX10_drunk_63 rfl ?_
            refine k_vL (as := [pI (M10 36 1), pI x1, pI x2]) dX10_drunk_64 kX10_234 ⟨⟨Nat.le_of_ble_eq_true rfl, rfl, rfl⟩, Nat.le_of_ble_eq_true rfl⟩ rfl (by decide) rfl (Nat.le_of_ble_eq_true rfl) h ?_
            intro r12 M13 h
            refine w_lstore dX10_drunk_67 (by decide) ?_
            refine w_lload dX10_drunk_69 rfl ?_
            refine w_ldc2 dX10_drunk_71 qX10_238 ?_
            refine w_iload_n dX10_drunk_74 rfl ?_
            refine k_sL (as := [pL 840, pI x2]) dX10_drunk_75 kX10_240 ⟨⟨Nat.le_of_ble_eq_true rfl, rfl, rfl⟩, Nat.le_of_ble_eq_true rfl⟩ rfl (Nat.le_of_ble_eq_true rfl) h ?_
            intro r14 M15 h
            refine w_iload_n dX10_drunk_78 rfl ?_
            refine k_sL (as := [pL r12, pL r14, pI x3]) dX10_drunk_79 kX10_244 ⟨⟨Nat.le_of_ble_eq_true rfl, rfl, rfl⟩, Nat.le_of_ble_eq_true rfl⟩ rfl (Nat.le_of_ble_eq_true rfl) h ?_
            intro r16 M17 h
            exact k_lret dX10_drunk_82 rfl h
          · have h := h.2 c
            refine w_ldc2 dX10_drunk_29 qX10_232 ?_
            exact k_lret dX10_drunk_32 rfl h
theorem vX10_holds_0 {E : Scr} {f : Int → Mem → Prop} {M : Mem} (x1 x2 : Int) (h : (iR x1) ∧ ((x1 < 0 → f (-1) M) ∧ (x1 ≥ 0 → (iR x1) ∧ ((x1 > 6 → f (-1) M) ∧ (x1 ≤ 6 → (iR x2) ∧ ((x2 < 0 → f (-1) M) ∧ (x2 ≥ 0 → (iR x2) ∧ ((x2 ≤ 1 → ((iR (M 21 15)) → (iR (100 - (M 21 15))) ∧ (CL E mX10_power [pL (100 - (M 21 15)), pI x1] M (fun r7 M8 => (CL E mX10_power [pL 100, pI x1] M8 (fun r9 M10 => (CL E mX10_inLeastTerms [pL r7, pL r9, pI x2] M10 (fun r11 M12 => f r11 M12)))))))) ∧ (x2 > 1 → f (-1) M))))))))) : CL E mX10_holds [pR 0, pI x1, pI x2] M f := by
  refine (show KW E mX10_holds (qL f) M 0 [(0, pR 0), (1, pI x1), (2, pI x2)] [] from ?_)
  refine w_iload_n dX10_holds_0 rfl ?_
  obtain ⟨o1, h⟩ := h
  refine w_if_lt dX10_holds_1 rfl o1 (fun c => ?_) (fun c => ?_)
  · have h := h.1 c
    refine w_ldc2 dX10_holds_19 qX10_232 ?_
    exact k_lret dX10_holds_22 rfl h
  · have h := h.2 c
    refine w_iload_n dX10_holds_4 rfl ?_
    refine w_bipush dX10_holds_5 (by decide) ?_
    obtain ⟨o2, h⟩ := h
    refine w_icmp_gt dX10_holds_7 rfl ⟨o2, (by decide)⟩ (fun c => ?_) (fun c => ?_)
    · have h := h.1 c
      refine w_ldc2 dX10_holds_19 qX10_232 ?_
      exact k_lret dX10_holds_22 rfl h
    · have h := h.2 c
      refine w_iload_n dX10_holds_10 rfl ?_
      obtain ⟨o3, h⟩ := h
      refine w_if_lt dX10_holds_11 rfl o3 (fun c => ?_) (fun c => ?_)
      · have h := h.1 c
        refine w_ldc2 dX10_holds_19 qX10_232 ?_
        exact k_lret dX10_holds_22 rfl h
      · have h := h.2 c
        refine w_iload_n dX10_holds_14 rfl ?_
        refine w_iconst dX10_holds_15 ?_
        obtain ⟨o4, h⟩ := h
        refine w_icmp_le dX10_holds_16 rfl ⟨o4, (by decide)⟩ (fun c => ?_) (fun c => ?_)
        · have h := h.1 c
          refine w_bipush dX10_holds_23 (by decide) ?_
          refine w_aload_n dX10_holds_25 rfl ?_
          refine w_getR dX10_holds_26 fX10_21 rfl rfl rfl ?_
          refine w_getI (x := (M 21 15)) dX10_holds_29 fX10_248 rfl rfl rfl (fun g5 => ?_)
          have h := h g5
          refine w_isub dX10_holds_32 ?_
          obtain ⟨o6, h⟩ := h
          refine w_i2l dX10_holds_33 o6 ?_
          refine w_iload_n dX10_holds_34 rfl ?_
          refine k_sL (as := [pL (100 - (M 21 15)), pI x1]) dX10_holds_35 kX10_240 ⟨⟨Nat.le_of_ble_eq_true rfl, rfl, rfl⟩, Nat.le_of_ble_eq_true rfl⟩ rfl (Nat.le_of_ble_eq_true rfl) h ?_
          intro r7 M8 h
          refine w_ldc2 dX10_holds_38 qX10_251 ?_
          refine w_iload_n dX10_holds_41 rfl ?_
          refine k_sL (as := [pL 100, pI x1]) dX10_holds_42 kX10_240 ⟨⟨Nat.le_of_ble_eq_true rfl, rfl, rfl⟩, Nat.le_of_ble_eq_true rfl⟩ rfl (Nat.le_of_ble_eq_true rfl) h ?_
          intro r9 M10 h
          refine w_iload_n dX10_holds_45 rfl ?_
          refine k_sL (as := [pL r7, pL r9, pI x2]) dX10_holds_46 kX10_244 ⟨⟨Nat.le_of_ble_eq_true rfl, rfl, rfl⟩, Nat.le_of_ble_eq_true rfl⟩ rfl (Nat.le_of_ble_eq_true rfl) h ?_
          intro r11 M12 h
          exact k_lret dX10_holds_49 rfl h
        · have h := h.2 c
          refine w_ldc2 dX10_holds_19 qX10_232 ?_
          exact k_lret dX10_holds_22 rfl h
theorem vX10_note_0 {E : Scr} {f : Int → Mem → Prop} {M : Mem} (x1 x2 x3 : Int) (h : (CI E mX1_hasRow [pR 21, pI x1] M (fun r1 M2 => (iR r1) ∧ ((r1 = 0 → f (-1) M2) ∧ (r1 ≠ 0 → (CI E mX1_has [pR 21, pI x2] M2 (fun r4 M5 => (iR r4) ∧ ((r4 ≠ 0 → (CI E mX3_add [pR 93, pI x2, pI x1, pI x3] M5 (fun r7 M8 => f r7 M8))) ∧ (r4 = 0 → f (-1) M5))))))))) : CI E mX10_note [pR 0, pI x1, pI x2, pI x3] M f := by
  refine (show KW E mX10_note (qI f) M 0 [(0, pR 0), (1, pI x1), (2, pI x2), (3, pI x3)] [] from ?_)
  refine w_aload_n dX10_note_0 rfl ?_
  refine w_getR dX10_note_1 fX10_21 rfl rfl rfl ?_
  refine w_iload_n dX10_note_4 rfl ?_
  refine k_vI (as := [pI x1]) dX10_note_5 kX10_138 ⟨⟨Nat.le_of_ble_eq_true rfl, rfl, rfl⟩, Nat.le_of_ble_eq_true rfl⟩ rfl (by decide) rfl (Nat.le_of_ble_eq_true rfl) h ?_
  intro r1 M2 h
  obtain ⟨o3, h⟩ := h
  refine w_if_eq dX10_note_8 rfl o3 (fun c => ?_) (fun c => ?_)
  · have h := h.1 c
    refine w_iconst dX10_note_22 ?_
    exact k_iret dX10_note_23 rfl h
  · have h := h.2 c
    refine w_aload_n dX10_note_11 rfl ?_
    refine w_getR dX10_note_12 fX10_21 rfl rfl rfl ?_
    refine w_iload_n dX10_note_15 rfl ?_
    refine k_vI (as := [pI x2]) dX10_note_16 kX10_110 ⟨⟨Nat.le_of_ble_eq_true rfl, rfl, rfl⟩, Nat.le_of_ble_eq_true rfl⟩ rfl (by decide) rfl (Nat.le_of_ble_eq_true rfl) h ?_
    intro r4 M5 h
    obtain ⟨o6, h⟩ := h
    refine w_if_ne dX10_note_19 rfl o6 (fun c => ?_) (fun c => ?_)
    · have h := h.1 c
      refine w_aload_n dX10_note_24 rfl ?_
      refine w_getR dX10_note_25 fX10_62 rfl rfl rfl ?_
      refine w_iload_n dX10_note_28 rfl ?_
      refine w_iload_n dX10_note_29 rfl ?_
      refine w_iload_n dX10_note_30 rfl ?_
      refine k_vI (as := [pI x2, pI x1, pI x3]) dX10_note_31 kX10_253 ⟨⟨Nat.le_of_ble_eq_true rfl, rfl, rfl⟩, Nat.le_of_ble_eq_true rfl⟩ rfl (by decide) rfl (Nat.le_of_ble_eq_true rfl) h ?_
      intro r7 M8 h
      exact k_iret dX10_note_34 rfl h
    · have h := h.2 c
      refine w_iconst dX10_note_22 ?_
      exact k_iret dX10_note_23 rfl h
theorem vX10_strike_0 {E : Scr} {f : Int → Mem → Prop} {M : Mem} (x1 : Int) (h : (iR x1) ∧ ((x1 < 0 → f (-1) M) ∧ (x1 ≥ 0 → ((iR (M 93 4)) → (iR x1) ∧ ((x1 < (M 93 4) → (CI E mX3_add [pR 93, pI (-1), pI x1, pI 0] M (fun r4 M5 => f r4 M5))) ∧ (x1 ≥ (M 93 4) → f (-1) M)))))) : CI E mX10_strike [pR 0, pI x1] M f := by
  refine (show KW E mX10_strike (qI f) M 0 [(0, pR 0), (1, pI x1)] [] from ?_)
  refine w_iload_n dX10_strike_0 rfl ?_
  obtain ⟨o1, h⟩ := h
  refine w_if_lt dX10_strike_1 rfl o1 (fun c => ?_) (fun c => ?_)
  · have h := h.1 c
    refine w_iconst dX10_strike_15 ?_
    exact k_iret dX10_strike_16 rfl h
  · have h := h.2 c
    refine w_iload_n dX10_strike_4 rfl ?_
    refine w_aload_n dX10_strike_5 rfl ?_
    refine w_getR dX10_strike_6 fX10_62 rfl rfl rfl ?_
    refine w_getI (x := (M 93 4)) dX10_strike_9 fX10_256 rfl rfl rfl (fun g2 => ?_)
    have h := h g2
    obtain ⟨o3, h⟩ := h
    refine w_icmp_lt dX10_strike_12 rfl ⟨o3, g2⟩ (fun c => ?_) (fun c => ?_)
    · have h := h.1 c
      refine w_aload_n dX10_strike_17 rfl ?_
      refine w_getR dX10_strike_18 fX10_62 rfl rfl rfl ?_
      refine w_iconst dX10_strike_21 ?_
      refine w_iload_n dX10_strike_22 rfl ?_
      refine w_iconst dX10_strike_23 ?_
      refine k_vI (as := [pI (-1), pI x1, pI 0]) dX10_strike_24 kX10_253 ⟨⟨Nat.le_of_ble_eq_true rfl, rfl, rfl⟩, Nat.le_of_ble_eq_true rfl⟩ rfl (by decide) rfl (Nat.le_of_ble_eq_true rfl) h ?_
      intro r4 M5 h
      exact k_iret dX10_strike_27 rfl h
    · have h := h.2 c
      refine w_iconst dX10_strike_15 ?_
      exact k_iret dX10_strike_16 rfl h
theorem vX10_known_0 {E : Scr} {f : Int → Mem → Prop} {M : Mem} (x1 : Int) (h : (iR x1) ∧ ((x1 < (-1) → f 0 M) ∧ (x1 ≥ (-1) → ((iR (M 93 4)) → (iR x1) ∧ ((x1 ≤ (M 93 4) → (iR x1) ∧ f 1 (upM M 93 5 x1)) ∧ (x1 > (M 93 4) → f 0 M)))))) : CI E mX10_known [pR 0, pI x1] M f := by
  refine (show KW E mX10_known (qI f) M 0 [(0, pR 0), (1, pI x1)] [] from ?_)
  refine w_iload_n dX10_known_0 rfl ?_
  refine w_iconst dX10_known_1 ?_
  obtain ⟨o1, h⟩ := h
  refine w_icmp_lt dX10_known_2 rfl ⟨o1, (by decide)⟩ (fun c => ?_) (fun c => ?_)
  · have h := h.1 c
    refine w_iconst dX10_known_16 ?_
    exact k_zret dX10_known_17 rfl (by decide) h
  · have h := h.2 c
    refine w_iload_n dX10_known_5 rfl ?_
    refine w_aload_n dX10_known_6 rfl ?_
    refine w_getR dX10_known_7 fX10_62 rfl rfl rfl ?_
    refine w_getI (x := (M 93 4)) dX10_known_10 fX10_256 rfl rfl rfl (fun g2 => ?_)
    have h := h g2
    obtain ⟨o3, h⟩ := h
    refine w_icmp_le dX10_known_13 rfl ⟨o3, g2⟩ (fun c => ?_) (fun c => ?_)
    · have h := h.1 c
      refine w_aload_n dX10_known_18 rfl ?_
      refine w_getR dX10_known_19 fX10_62 rfl rfl rfl ?_
      refine w_iload_n dX10_known_22 rfl ?_
      obtain ⟨o4, h⟩ := h
      refine w_putI dX10_known_23 (Or.inl ⟨rfl, fX10_257⟩) rfl rfl o4 ?_
      refine w_iconst dX10_known_26 ?_
      exact k_zret dX10_known_27 rfl (by decide) h
    · have h := h.2 c
      refine w_iconst dX10_known_16 ?_
      exact k_zret dX10_known_17 rfl (by decide) h
theorem vX10_fits_0 {E : Scr} {f : Int → Mem → Prop} {M : Mem} (x1 : Int) (h : (CI E mX1_has [pR 21, pI x1] M (fun r1 M2 => (iR r1) ∧ ((r1 = 0 → f (-1) M2) ∧ (r1 ≠ 0 → ((iR (M2 21 1)) → (CI E mX3_fitting [pR 93, pI x1, pI (M2 21 1)] M2 (fun r5 M6 => f r5 M6)))))))) : CI E mX10_fits [pR 0, pI x1] M f := by
  refine (show KW E mX10_fits (qI f) M 0 [(0, pR 0), (1, pI x1)] [] from ?_)
  refine w_aload_n dX10_fits_0 rfl ?_
  refine w_getR dX10_fits_1 fX10_21 rfl rfl rfl ?_
  refine w_iload_n dX10_fits_4 rfl ?_
  refine k_vI (as := [pI x1]) dX10_fits_5 kX10_110 ⟨⟨Nat.le_of_ble_eq_true rfl, rfl, rfl⟩, Nat.le_of_ble_eq_true rfl⟩ rfl (by decide) rfl (Nat.le_of_ble_eq_true rfl) h ?_
  intro r1 M2 h
  obtain ⟨o3, h⟩ := h
  refine w_if_eq dX10_fits_8 rfl o3 (fun c => ?_) (fun c => ?_)
  · have h := h.1 c
    refine w_iconst dX10_fits_29 ?_
    exact k_iret dX10_fits_30 rfl h
  · have h := h.2 c
    refine w_aload_n dX10_fits_11 rfl ?_
    refine w_getR dX10_fits_12 fX10_62 rfl rfl rfl ?_
    refine w_iload_n dX10_fits_15 rfl ?_
    refine w_aload_n dX10_fits_16 rfl ?_
    refine w_getR dX10_fits_17 fX10_21 rfl rfl rfl ?_
    refine w_getI (x := (M2 21 1)) dX10_fits_20 fX10_260 rfl rfl rfl (fun g4 => ?_)
    have h := h g4
    refine k_vI (as := [pI x1, pI (M2 21 1)]) dX10_fits_23 kX10_263 ⟨⟨Nat.le_of_ble_eq_true rfl, rfl, rfl⟩, Nat.le_of_ble_eq_true rfl⟩ rfl (by decide) rfl (Nat.le_of_ble_eq_true rfl) h ?_
    intro r5 M6 h
    refine w_goto dX10_fits_26 rfl ?_
    exact k_iret dX10_fits_30 rfl h
theorem vX10_ask_0 {E : Scr} {f : Int → Mem → Prop} {M : Mem} (x1 x2 : Int) (h : (CI E mX1_has [pR 21, pI x1] M (fun r1 M2 => (iR r1) ∧ ((r1 = 0 → f (-1) M2) ∧ (r1 ≠ 0 → (iR x2) ∧ ((x2 < 0 → f (-1) M2) ∧ (x2 ≥ 0 → (iR x2) ∧ ((x2 ≤ 1 → ((iR (M2 21 1)) → (CI E mX3_bestAsked [pR 93, pI x1, pI (M2 21 1), pI x2] M2 (fun r7 M8 => f r7 M8)))) ∧ (x2 > 1 → f (-1) M2))))))))) : CI E mX10_ask [pR 0, pI x1, pI x2] M f := by
  refine (show KW E mX10_ask (qI f) M 0 [(0, pR 0), (1, pI x1), (2, pI x2)] [] from ?_)
  refine w_aload_n dX10_ask_0 rfl ?_
  refine w_getR dX10_ask_1 fX10_21 rfl rfl rfl ?_
  refine w_iload_n dX10_ask_4 rfl ?_
  refine k_vI (as := [pI x1]) dX10_ask_5 kX10_110 ⟨⟨Nat.le_of_ble_eq_true rfl, rfl, rfl⟩, Nat.le_of_ble_eq_true rfl⟩ rfl (by decide) rfl (Nat.le_of_ble_eq_true rfl) h ?_
  intro r1 M2 h
  obtain ⟨o3, h⟩ := h
  refine w_if_eq dX10_ask_8 rfl o3 (fun c => ?_) (fun c => ?_)
  · have h := h.1 c
    refine w_iconst dX10_ask_20 ?_
    exact k_iret dX10_ask_21 rfl h
  · have h := h.2 c
    refine w_iload_n dX10_ask_11 rfl ?_
    obtain ⟨o4, h⟩ := h
    refine w_if_lt dX10_ask_12 rfl o4 (fun c => ?_) (fun c => ?_)
    · have h := h.1 c
      refine w_iconst dX10_ask_20 ?_
      exact k_iret dX10_ask_21 rfl h
    · have h := h.2 c
      refine w_iload_n dX10_ask_15 rfl ?_
      refine w_iconst dX10_ask_16 ?_
      obtain ⟨o5, h⟩ := h
      refine w_icmp_le dX10_ask_17 rfl ⟨o5, (by decide)⟩ (fun c => ?_) (fun c => ?_)
      · have h := h.1 c
        refine w_aload_n dX10_ask_22 rfl ?_
        refine w_getR dX10_ask_23 fX10_62 rfl rfl rfl ?_
        refine w_iload_n dX10_ask_26 rfl ?_
        refine w_aload_n dX10_ask_27 rfl ?_
        refine w_getR dX10_ask_28 fX10_21 rfl rfl rfl ?_
        refine w_getI (x := (M2 21 1)) dX10_ask_31 fX10_260 rfl rfl rfl (fun g6 => ?_)
        have h := h g6
        refine w_iload_n dX10_ask_34 rfl ?_
        refine k_vI (as := [pI x1, pI (M2 21 1), pI x2]) dX10_ask_35 kX10_266 ⟨⟨Nat.le_of_ble_eq_true rfl, rfl, rfl⟩, Nat.le_of_ble_eq_true rfl⟩ rfl (by decide) rfl (Nat.le_of_ble_eq_true rfl) h ?_
        intro r7 M8 h
        exact k_iret dX10_ask_38 rfl h
      · have h := h.2 c
        refine w_iconst dX10_ask_20 ?_
        exact k_iret dX10_ask_21 rfl h
theorem vX10_chance_0 {E : Scr} {f : Int → Mem → Prop} {M : Mem} (x1 x2 x3 : Int) (h : (iR x1) ∧ ((x1 < 0 → f (-1) M) ∧ (x1 ≥ 0 → (iR x2) ∧ ((x2 < 1 → f (-1) M) ∧ (x2 ≥ 1 → (iR x2) ∧ ((x2 > 99 → f (-1) M) ∧ (x2 ≤ 99 → (CI E mX1_has [pR 21, pI x3] M (fun r4 M5 => (iR r4) ∧ ((r4 ≠ 0 → (CV E mX0_drawn [pR 42] M5 (fun M8 => (iR x1) ∧ (KW E mX10_chance (qI f) M8 45 [(0, pR 0), (2, pI x2), (3, pI x3), (4, pL x1), (6, pI 0), (7, pI 0)] [])))) ∧ (r4 = 0 → f (-1) M5))))))))))) : CI E mX10_chance [pR 0, pI x1, pI x2, pI x3] M f := by
  refine (show KW E mX10_chance (qI f) M 0 [(0, pR 0), (1, pI x1), (2, pI x2), (3, pI x3)] [] from ?_)
  refine w_iload_n dX10_chance_0 rfl ?_
  obtain ⟨o1, h⟩ := h
  refine w_if_lt dX10_chance_1 rfl o1 (fun c => ?_) (fun c => ?_)
  · have h := h.1 c
    refine w_iconst dX10_chance_26 ?_
    exact k_iret dX10_chance_27 rfl h
  · have h := h.2 c
    refine w_iload_n dX10_chance_4 rfl ?_
    refine w_iconst dX10_chance_5 ?_
    obtain ⟨o2, h⟩ := h
    refine w_icmp_lt dX10_chance_6 rfl ⟨o2, (by decide)⟩ (fun c => ?_) (fun c => ?_)
    · have h := h.1 c
      refine w_iconst dX10_chance_26 ?_
      exact k_iret dX10_chance_27 rfl h
    · have h := h.2 c
      refine w_iload_n dX10_chance_9 rfl ?_
      refine w_bipush dX10_chance_10 (by decide) ?_
      obtain ⟨o3, h⟩ := h
      refine w_icmp_gt dX10_chance_12 rfl ⟨o3, (by decide)⟩ (fun c => ?_) (fun c => ?_)
      · have h := h.1 c
        refine w_iconst dX10_chance_26 ?_
        exact k_iret dX10_chance_27 rfl h
      · have h := h.2 c
        refine w_aload_n dX10_chance_15 rfl ?_
        refine w_getR dX10_chance_16 fX10_21 rfl rfl rfl ?_
        refine w_iload_n dX10_chance_19 rfl ?_
        refine k_vI (as := [pI x3]) dX10_chance_20 kX10_110 ⟨⟨Nat.le_of_ble_eq_true rfl, rfl, rfl⟩, Nat.le_of_ble_eq_true rfl⟩ rfl (by decide) rfl (Nat.le_of_ble_eq_true rfl) h ?_
        intro r4 M5 h
        obtain ⟨o6, h⟩ := h
        refine w_if_ne dX10_chance_23 rfl o6 (fun c => ?_) (fun c => ?_)
        · have h := h.1 c
          refine w_aload_n dX10_chance_28 rfl ?_
          refine w_getR dX10_chance_29 fX10_41 rfl rfl rfl ?_
          refine k_vV (as := []) dX10_chance_32 kX10_166 ⟨⟨Nat.le_of_ble_eq_true rfl, rfl, rfl⟩, Nat.le_of_ble_eq_true rfl⟩ rfl (by decide) rfl (Nat.le_of_ble_eq_true rfl) h ?_
          intro M8 h
          refine w_iload_n dX10_chance_35 rfl ?_
          obtain ⟨o9, h⟩ := h
          refine w_i2l dX10_chance_36 o9 ?_
          refine w_lstore dX10_chance_37 (by decide) ?_
          refine w_iconst dX10_chance_39 ?_
          refine w_istore dX10_chance_40 (by decide) ?_
          refine w_iconst dX10_chance_42 ?_
          refine w_istore dX10_chance_43 (by decide) ?_
          exact k_pick [3, 5, 6, 2, 1, 0] rfl h
        · have h := h.2 c
          refine w_iconst dX10_chance_26 ?_
          exact k_iret dX10_chance_27 rfl h
theorem vX10_chance_45 {E : Scr} {f : Int → Mem → Prop} {M : Mem} (x2 x3 x4 x6 x7 : Int) (h : (iR x7) ∧ ((x7 ≥ 10 → f x6 M) ∧ (x7 < 10 → (CV E mX7_take [pR 38, pR 36] M (fun M3 => (lR x4) ∧ (CV E mX0_pass [pR 42, pR 21, pR 38, pI x2] (upM M3 38 5 x4) (fun M6 => ((lR (M6 38 5)) → ((iR (M6 38 2)) → (KW E mX10_chance (qI f) M6 45 [(0, pR 0), (2, pI x2), (3, pI x3), (4, pL (M6 38 5)), (6, pI (x6 + (bAnd (bShr (M6 38 2) x3) 1))), (7, pI (x7 + 1))] [])))))))))) : KW E mX10_chance (qI f) M 45 [(0, pR 0), (2, pI x2), (3, pI x3), (4, pL x4), (6, pI x6), (7, pI x7)] [] := by
  refine w_iload dX10_chance_45 rfl ?_
  refine w_bipush dX10_chance_47 (by decide) ?_
  obtain ⟨o1, h⟩ := h
  refine w_icmp_ge dX10_chance_49 rfl ⟨o1, (by decide)⟩ (fun c => ?_) (fun c => ?_)
  · have h := h.1 c
    refine w_iload dX10_chance_119 rfl ?_
    exact k_iret dX10_chance_121 rfl h
  · have h := h.2 c
    refine w_aload_n dX10_chance_52 rfl ?_
    refine w_getR dX10_chance_53 fX10_32 rfl rfl rfl ?_
    refine w_aload_n dX10_chance_56 rfl ?_
    refine w_getR dX10_chance_57 fX10_28 rfl rfl rfl ?_
    refine k_vV (as := [pR 36]) dX10_chance_60 kX10_173 ⟨⟨Nat.le_of_ble_eq_true rfl, rfl, rfl⟩, Nat.le_of_ble_eq_true rfl⟩ rfl (by decide) rfl (Nat.le_of_ble_eq_true rfl) h ?_
    intro M3 h
    refine w_aload_n dX10_chance_63 rfl ?_
    refine w_getR dX10_chance_64 fX10_32 rfl rfl rfl ?_
    refine w_lload dX10_chance_67 rfl ?_
    obtain ⟨o4, h⟩ := h
    refine w_putL dX10_chance_69 (Or.inl ⟨rfl, fX10_269⟩) rfl rfl o4 ?_
    refine w_aload_n dX10_chance_72 rfl ?_
    refine w_getR dX10_chance_73 fX10_41 rfl rfl rfl ?_
    refine w_aload_n dX10_chance_76 rfl ?_
    refine w_getR dX10_chance_77 fX10_21 rfl rfl rfl ?_
    refine w_aload_n dX10_chance_80 rfl ?_
    refine w_getR dX10_chance_81 fX10_32 rfl rfl rfl ?_
    refine w_iload_n dX10_chance_84 rfl ?_
    refine k_vV (as := [pR 21, pR 38, pI x2]) dX10_chance_85 kX10_169 ⟨⟨Nat.le_of_ble_eq_true rfl, rfl, rfl⟩, Nat.le_of_ble_eq_true rfl⟩ rfl (by decide) rfl (Nat.le_of_ble_eq_true rfl) h ?_
    intro M6 h
    refine w_aload_n dX10_chance_88 rfl ?_
    refine w_getR dX10_chance_89 fX10_32 rfl rfl rfl ?_
    refine w_getL (x := (M6 38 5)) dX10_chance_92 fX10_269 rfl rfl rfl (fun g7 => ?_)
    have h := h g7
    refine w_lstore dX10_chance_95 (by decide) ?_
    refine w_iload dX10_chance_97 rfl ?_
    refine w_aload_n dX10_chance_99 rfl ?_
    refine w_getR dX10_chance_100 fX10_32 rfl rfl rfl ?_
    refine w_getI (x := (M6 38 2)) dX10_chance_103 fX10_123 rfl rfl rfl (fun g8 => ?_)
    have h := h g8
    refine w_iload_n dX10_chance_106 rfl ?_
    refine w_ishr dX10_chance_107 ?_
    refine w_iconst dX10_chance_108 ?_
    refine w_iand dX10_chance_109 ?_
    refine w_iadd dX10_chance_110 ?_
    refine w_istore dX10_chance_111 (by decide) ?_
    refine w_iinc dX10_chance_113 rfl (by decide) ?_
    refine w_goto dX10_chance_116 rfl ?_
    exact k_pick [3, 4, 5, 2, 1, 0] rfl h
theorem vX10_tried_0 {E : Scr} {f : Int → Mem → Prop} {M : Mem} (x1 x2 x3 : Int) (h : (iR x1) ∧ ((x1 ≠ 2 → (iR x2) ∧ ((x2 ≠ 0 → (KW E mX10_tried (qI f) M 25 [(0, pR 0), (1, pI x1), (2, pI x2), (3, pI x3)] [pI 0])) ∧ (x2 = 0 → (KW E mX10_tried (qI f) M 25 [(0, pR 0), (1, pI x1), (2, pI x2), (3, pI x3)] [pI 1])))) ∧ (x1 = 2 → (CI E mX1_has [pR 21, pI x2] M (fun r3 M4 => (KW E mX10_tried (qI f) M4 25 [(0, pR 0), (1, pI x1), (2, pI x2), (3, pI x3)] [pI r3])))))) : CI E mX10_tried [pR 0, pI x1, pI x2, pI x3] M f := by
  refine (show KW E mX10_tried (qI f) M 0 [(0, pR 0), (1, pI x1), (2, pI x2), (3, pI x3)] [] from ?_)
  refine w_iload_n dX10_tried_0 rfl ?_
  refine w_iconst dX10_tried_1 ?_
  obtain ⟨o1, h⟩ := h
  refine w_icmp_ne dX10_tried_2 rfl ⟨o1, (by decide)⟩ (fun c => ?_) (fun c => ?_)
  · have h := h.1 c
    refine w_iload_n dX10_tried_16 rfl ?_
    obtain ⟨o2, h⟩ := h
    refine w_if_ne dX10_tried_17 rfl o2 (fun c => ?_) (fun c => ?_)
    · have h := h.1 c
      refine w_iconst dX10_tried_24 ?_
      exact k_pick [0, 1, 2, 3] rfl h
    · have h := h.2 c
      refine w_iconst dX10_tried_20 ?_
      refine w_goto dX10_tried_21 rfl ?_
      exact k_pick [0, 1, 2, 3] rfl h
  · have h := h.2 c
    refine w_aload_n dX10_tried_5 rfl ?_
    refine w_getR dX10_tried_6 fX10_21 rfl rfl rfl ?_
    refine w_iload_n dX10_tried_9 rfl ?_
    refine k_vI (as := [pI x2]) dX10_tried_10 kX10_110 ⟨⟨Nat.le_of_ble_eq_true rfl, rfl, rfl⟩, Nat.le_of_ble_eq_true rfl⟩ rfl (by decide) rfl (Nat.le_of_ble_eq_true rfl) h ?_
    intro r3 M4 h
    refine w_goto dX10_tried_13 rfl ?_
    exact k_pick [0, 1, 2, 3] rfl h
theorem vX10_tried_25 {E : Scr} {f : Int → Mem → Prop} {M : Mem} (x1 x2 x3 s0 : Int) (h : (iR x1) ∧ ((x1 < 0 → f (-1) M) ∧ (x1 ≥ 0 → (iR x1) ∧ ((x1 > 4 → f (-1) M) ∧ (x1 ≤ 4 → (iR s0) ∧ ((s0 = 0 → f (-1) M) ∧ (s0 ≠ 0 → (iR x3) ∧ ((x3 < 0 → f (-1) M) ∧ (x3 ≥ 0 → (iR x3) ∧ ((x3 ≤ 200 → (CV E mX7_take [pR 38, pR 36] M (fun M7 => (CV E mX0_otherwise [pR 42, pI x1, pI x2] M7 (fun M9 => (CV E mX0_pass [pR 42, pR 21, pR 38, pI x3] M9 (fun M11 => ((iR (M11 38 3)) → ((iR (M11 36 3)) → f ((M11 38 3) - (M11 36 3)) M11))))))))) ∧ (x3 > 200 → f (-1) M))))))))))) : KW E mX10_tried (qI f) M 25 [(0, pR 0), (1, pI x1), (2, pI x2), (3, pI x3)] [pI s0] := by
  refine w_istore dX10_tried_25 (by decide) ?_
  refine w_iload_n dX10_tried_27 rfl ?_
  obtain ⟨o1, h⟩ := h
  refine w_if_lt dX10_tried_28 rfl o1 (fun c => ?_) (fun c => ?_)
  · have h := h.1 c
    refine w_iconst dX10_tried_52 ?_
    exact k_iret dX10_tried_53 rfl h
  · have h := h.2 c
    refine w_iload_n dX10_tried_31 rfl ?_
    refine w_iconst dX10_tried_32 ?_
    obtain ⟨o2, h⟩ := h
    refine w_icmp_gt dX10_tried_33 rfl ⟨o2, (by decide)⟩ (fun c => ?_) (fun c => ?_)
    · have h := h.1 c
      refine w_iconst dX10_tried_52 ?_
      exact k_iret dX10_tried_53 rfl h
    · have h := h.2 c
      refine w_iload dX10_tried_36 rfl ?_
      obtain ⟨o3, h⟩ := h
      refine w_if_eq dX10_tried_38 rfl o3 (fun c => ?_) (fun c => ?_)
      · have h := h.1 c
        refine w_iconst dX10_tried_52 ?_
        exact k_iret dX10_tried_53 rfl h
      · have h := h.2 c
        refine w_iload_n dX10_tried_41 rfl ?_
        obtain ⟨o4, h⟩ := h
        refine w_if_lt dX10_tried_42 rfl o4 (fun c => ?_) (fun c => ?_)
        · have h := h.1 c
          refine w_iconst dX10_tried_52 ?_
          exact k_iret dX10_tried_53 rfl h
        · have h := h.2 c
          refine w_iload_n dX10_tried_45 rfl ?_
          refine w_sipush dX10_tried_46 (by decide) ?_
          obtain ⟨o5, h⟩ := h
          refine w_icmp_le dX10_tried_49 rfl ⟨o5, (by decide)⟩ (fun c => ?_) (fun c => ?_)
          · have h := h.1 c
            refine w_aload_n dX10_tried_54 rfl ?_
            refine w_getR dX10_tried_55 fX10_32 rfl rfl rfl ?_
            refine w_aload_n dX10_tried_58 rfl ?_
            refine w_getR dX10_tried_59 fX10_28 rfl rfl rfl ?_
            refine k_vV (as := [pR 36]) dX10_tried_62 kX10_173 ⟨⟨Nat.le_of_ble_eq_true rfl, rfl, rfl⟩, Nat.le_of_ble_eq_true rfl⟩ rfl (by decide) rfl (Nat.le_of_ble_eq_true rfl) h ?_
            intro M7 h
            refine w_aload_n dX10_tried_65 rfl ?_
            refine w_getR dX10_tried_66 fX10_41 rfl rfl rfl ?_
            refine w_iload_n dX10_tried_69 rfl ?_
            refine w_iload_n dX10_tried_70 rfl ?_
            refine k_vV (as := [pI x1, pI x2]) dX10_tried_71 kX10_273 ⟨⟨Nat.le_of_ble_eq_true rfl, rfl, rfl⟩, Nat.le_of_ble_eq_true rfl⟩ rfl (by decide) rfl (Nat.le_of_ble_eq_true rfl) h ?_
            intro M9 h
            refine w_aload_n dX10_tried_74 rfl ?_
            refine w_getR dX10_tried_75 fX10_41 rfl rfl rfl ?_
            refine w_aload_n dX10_tried_78 rfl ?_
            refine w_getR dX10_tried_79 fX10_21 rfl rfl rfl ?_
            refine w_aload_n dX10_tried_82 rfl ?_
            refine w_getR dX10_tried_83 fX10_32 rfl rfl rfl ?_
            refine w_iload_n dX10_tried_86 rfl ?_
            refine k_vV (as := [pR 21, pR 38, pI x3]) dX10_tried_87 kX10_169 ⟨⟨Nat.le_of_ble_eq_true rfl, rfl, rfl⟩, Nat.le_of_ble_eq_true rfl⟩ rfl (by decide) rfl (Nat.le_of_ble_eq_true rfl) h ?_
            intro M11 h
            refine w_aload_n dX10_tried_90 rfl ?_
            refine w_getR dX10_tried_91 fX10_32 rfl rfl rfl ?_
            refine w_getI (x := (M11 38 3)) dX10_tried_94 fX10_177 rfl rfl rfl (fun g12 => ?_)
            have h := h g12
            refine w_aload_n dX10_tried_97 rfl ?_
            refine w_getR dX10_tried_98 fX10_28 rfl rfl rfl ?_
            refine w_getI (x := (M11 36 3)) dX10_tried_101 fX10_177 rfl rfl rfl (fun g13 => ?_)
            have h := h g13
            refine w_isub dX10_tried_104 ?_
            exact k_iret dX10_tried_105 rfl h
          · have h := h.2 c
            refine w_iconst dX10_tried_52 ?_
            exact k_iret dX10_tried_53 rfl h
theorem vX10_undo_0 {E : Scr} {f : Int → Mem → Prop} {M : Mem} (h : (CI E mX9_takeBack [pR 44, pR 36] M (fun r1 M2 => f r1 M2))) : CI E mX10_undo [pR 0] M f := by
  refine (show KW E mX10_undo (qI f) M 0 [(0, pR 0)] [] from ?_)
  refine w_aload_n dX10_undo_0 rfl ?_
  refine w_getR dX10_undo_1 fX10_48 rfl rfl rfl ?_
  refine w_aload_n dX10_undo_4 rfl ?_
  refine w_getR dX10_undo_5 fX10_28 rfl rfl rfl ?_
  refine k_vI (as := [pR 36]) dX10_undo_8 kX10_277 ⟨⟨Nat.le_of_ble_eq_true rfl, rfl, rfl⟩, Nat.le_of_ble_eq_true rfl⟩ rfl (by decide) rfl (Nat.le_of_ble_eq_true rfl) h ?_
  intro r1 M2 h
  exact k_iret dX10_undo_11 rfl h
theorem vX10_keep_0 {E : Scr} {f : Int → Mem → Prop} {M : Mem} (h : (CV E mX7_take [pR 40, pR 36] M (fun M2 => ((iR (M2 36 0)) → f (M2 36 0) (upM M2 0 5 1))))) : CI E mX10_keep [pR 0] M f := by
  refine (show KW E mX10_keep (qI f) M 0 [(0, pR 0)] [] from ?_)
  refine w_aload_n dX10_keep_0 rfl ?_
  refine w_getR dX10_keep_1 fX10_35 rfl rfl rfl ?_
  refine w_aload_n dX10_keep_4 rfl ?_
  refine w_getR dX10_keep_5 fX10_28 rfl rfl rfl ?_
  refine k_vV (as := [pR 36]) dX10_keep_8 kX10_173 ⟨⟨Nat.le_of_ble_eq_true rfl, rfl, rfl⟩, Nat.le_of_ble_eq_true rfl⟩ rfl (by decide) rfl (Nat.le_of_ble_eq_true rfl) h ?_
  intro M2 h
  refine w_aload_n dX10_keep_11 rfl ?_
  refine w_iconst dX10_keep_12 ?_
  refine w_putZ dX10_keep_13 (Or.inl ⟨rfl, fX10_93⟩) rfl rfl (by decide) ?_
  refine w_aload_n dX10_keep_16 rfl ?_
  refine w_getR dX10_keep_17 fX10_28 rfl rfl rfl ?_
  refine w_getI (x := (M2 36 0)) dX10_keep_20 fX10_163 rfl rfl rfl (fun g3 => ?_)
  have h := h g3
  exact k_iret dX10_keep_23 rfl h
theorem vX10_back_0 {E : Scr} {f : Int → Mem → Prop} {M : Mem} (h : ((zR (M 0 5)) → (((M 0 5) ≠ 0 → (CV E mX7_take [pR 36, pR 40] M (fun M3 => (CV E mX9_clear [pR 44] M3 (fun M5 => ((iR (M5 36 0)) → f (M5 36 0) M5)))))) ∧ ((M 0 5) = 0 → f (-1) M)))) : CI E mX10_back [pR 0] M f := by
  refine (show KW E mX10_back (qI f) M 0 [(0, pR 0)] [] from ?_)
  refine w_aload_n dX10_back_0 rfl ?_
  refine w_getZ (x := (M 0 5)) dX10_back_1 fX10_93 rfl rfl rfl (fun g1 => ?_)
  have h := h g1
  refine w_if_ne dX10_back_4 rfl (z2i g1) (fun c => ?_) (fun c => ?_)
  · have h := h.1 c
    refine w_aload_n dX10_back_9 rfl ?_
    refine w_getR dX10_back_10 fX10_28 rfl rfl rfl ?_
    refine w_aload_n dX10_back_13 rfl ?_
    refine w_getR dX10_back_14 fX10_35 rfl rfl rfl ?_
    refine k_vV (as := [pR 40]) dX10_back_17 kX10_173 ⟨⟨Nat.le_of_ble_eq_true rfl, rfl, rfl⟩, Nat.le_of_ble_eq_true rfl⟩ rfl (by decide) rfl (Nat.le_of_ble_eq_true rfl) h ?_
    intro M3 h
    refine w_aload_n dX10_back_20 rfl ?_
    refine w_getR dX10_back_21 fX10_48 rfl rfl rfl ?_
    refine k_vV (as := []) dX10_back_24 kX10_92 ⟨⟨Nat.le_of_ble_eq_true rfl, rfl, rfl⟩, Nat.le_of_ble_eq_true rfl⟩ rfl (by decide) rfl (Nat.le_of_ble_eq_true rfl) h ?_
    intro M5 h
    refine w_aload_n dX10_back_27 rfl ?_
    refine w_getR dX10_back_28 fX10_28 rfl rfl rfl ?_
    refine w_getI (x := (M5 36 0)) dX10_back_31 fX10_163 rfl rfl rfl (fun g6 => ?_)
    have h := h g6
    exact k_iret dX10_back_34 rfl h
  · have h := h.2 c
    refine w_iconst dX10_back_7 ?_
    exact k_iret dX10_back_8 rfl h
theorem vX10_count_0 {E : Scr} {f : Int → Mem → Prop} {M : Mem} (x1 : Int) (h : (iR x1) ∧ ((x1 = 0 → ((iR (M 21 1)) → f (M 21 1) M)) ∧ (x1 = 1 → ((iR (M 21 4)) → f (M 21 4) M)) ∧ (x1 = 2 → ((iR (M 21 10)) → f (M 21 10) M)) ∧ (x1 = 3 → ((iR (M 31 3)) → f (M 31 3) M)) ∧ (x1 = 4 → ((iR (M 36 0)) → f (M 36 0) M)) ∧ (x1 = 5 → ((iR (M 36 1)) → (CI E mJ6_bitCount_0f7a4 [pI (M 36 1)] M (fun r8 M9 => f r8 M9)))) ∧ (x1 = 6 → ((iR (M 36 2)) → (CI E mJ6_bitCount_0f7a4 [pI (M 36 2)] M (fun r11 M12 => f r11 M12)))) ∧ (x1 = 7 → ((iR (M 36 3)) → f (M 36 3) M)) ∧ (x1 = 8 → ((iR (M 36 4)) → f (M 36 4) M)) ∧ (x1 = 9 → (CI E mX7_wornInAll [pR 36] M (fun r15 M16 => f r15 M16))) ∧ (x1 = 10 → ((iR (M 93 4)) → f (M 93 4) M)) ∧ (x1 = 11 → (CI E mX3_counted [pR 93] M (fun r18 M19 => f r18 M19))) ∧ (x1 = 12 → ((iR (M 44 6)) → f (M 44 6) M)) ∧ (x1 < 0 ∨ 12 < x1 → f (-1) M))) : CI E mX10_count [pR 0, pI x1] M f := by
  refine (show KW E mX10_count (qI f) M 0 [(0, pR 0), (1, pI x1)] [] from ?_)
  refine w_iload_n dX10_count_0 rfl ?_
  obtain ⟨o1, h⟩ := h
  refine w_tsw (tgs := [68, 76, 84, 92, 103, 111, 122, 133, 141, 149, 157, 165, 173]) (td := 181) dX10_count_1 o1 rfl (by decide) rfl ?_ ?_
  · intro j hj hx
    match j, hj, hx with
    | 0, _, hx =>
      have h := h.1 (by simpa using hx)
      clear hx
      refine w_aload_n dX10_count_68 rfl ?_
      refine w_getR dX10_count_69 fX10_21 rfl rfl rfl ?_
      refine w_getI (x := (M 21 1)) dX10_count_72 fX10_260 rfl rfl rfl (fun g2 => ?_)
      have h := h g2
      exact k_iret dX10_count_75 rfl h
    | 1, _, hx =>
      have h := h.2.1 (by simpa using hx)
      clear hx
      refine w_aload_n dX10_count_76 rfl ?_
      refine w_getR dX10_count_77 fX10_21 rfl rfl rfl ?_
      refine w_getI (x := (M 21 4)) dX10_count_80 fX10_281 rfl rfl rfl (fun g3 => ?_)
      have h := h g3
      exact k_iret dX10_count_83 rfl h
    | 2, _, hx =>
      have h := h.2.2.1 (by simpa using hx)
      clear hx
      refine w_aload_n dX10_count_84 rfl ?_
      refine w_getR dX10_count_85 fX10_21 rfl rfl rfl ?_
      refine w_getI (x := (M 21 10)) dX10_count_88 fX10_284 rfl rfl rfl (fun g4 => ?_)
      have h := h g4
      exact k_iret dX10_count_91 rfl h
    | 3, _, hx =>
      have h := h.2.2.2.1 (by simpa using hx)
      clear hx
      refine w_aload_n dX10_count_92 rfl ?_
      refine w_getR dX10_count_93 fX10_21 rfl rfl rfl ?_
      refine w_getR dX10_count_96 fX10_286 rfl rfl rfl ?_
      refine w_getI (x := (M 31 3)) dX10_count_99 fX10_290 rfl rfl rfl (fun g5 => ?_)
      have h := h g5
      exact k_iret dX10_count_102 rfl h
    | 4, _, hx =>
      have h := h.2.2.2.2.1 (by simpa using hx)
      clear hx
      refine w_aload_n dX10_count_103 rfl ?_
      refine w_getR dX10_count_104 fX10_28 rfl rfl rfl ?_
      refine w_getI (x := (M 36 0)) dX10_count_107 fX10_163 rfl rfl rfl (fun g6 => ?_)
      have h := h g6
      exact k_iret dX10_count_110 rfl h
    | 5, _, hx =>
      have h := h.2.2.2.2.2.1 (by simpa using hx)
      clear hx
      refine w_aload_n dX10_count_111 rfl ?_
      refine w_getR dX10_count_112 fX10_28 rfl rfl rfl ?_
      refine w_getI (x := (M 36 1)) dX10_count_115 fX10_120 rfl rfl rfl (fun g7 => ?_)
      have h := h g7
      refine k_sI (as := [pI (M 36 1)]) dX10_count_118 kX10_158 ⟨⟨Nat.le_of_ble_eq_true rfl, rfl, rfl⟩, Nat.le_of_ble_eq_true rfl⟩ rfl (Nat.le_of_ble_eq_true rfl) h ?_
      intro r8 M9 h
      exact k_iret dX10_count_121 rfl h
    | 6, _, hx =>
      have h := h.2.2.2.2.2.2.1 (by simpa using hx)
      clear hx
      refine w_aload_n dX10_count_122 rfl ?_
      refine w_getR dX10_count_123 fX10_28 rfl rfl rfl ?_
      refine w_getI (x := (M 36 2)) dX10_count_126 fX10_123 rfl rfl rfl (fun g10 => ?_)
      have h := h g10
      refine k_sI (as := [pI (M 36 2)]) dX10_count_129 kX10_158 ⟨⟨Nat.le_of_ble_eq_true rfl, rfl, rfl⟩, Nat.le_of_ble_eq_true rfl⟩ rfl (Nat.le_of_ble_eq_true rfl) h ?_
      intro r11 M12 h
      exact k_iret dX10_count_132 rfl h
    | 7, _, hx =>
      have h := h.2.2.2.2.2.2.2.1 (by simpa using hx)
      clear hx
      refine w_aload_n dX10_count_133 rfl ?_
      refine w_getR dX10_count_134 fX10_28 rfl rfl rfl ?_
      refine w_getI (x := (M 36 3)) dX10_count_137 fX10_177 rfl rfl rfl (fun g13 => ?_)
      have h := h g13
      exact k_iret dX10_count_140 rfl h
    | 8, _, hx =>
      have h := h.2.2.2.2.2.2.2.2.1 (by simpa using hx)
      clear hx
      refine w_aload_n dX10_count_141 rfl ?_
      refine w_getR dX10_count_142 fX10_28 rfl rfl rfl ?_
      refine w_getI (x := (M 36 4)) dX10_count_145 fX10_180 rfl rfl rfl (fun g14 => ?_)
      have h := h g14
      exact k_iret dX10_count_148 rfl h
    | 9, _, hx =>
      have h := h.2.2.2.2.2.2.2.2.2.1 (by simpa using hx)
      clear hx
      refine w_aload_n dX10_count_149 rfl ?_
      refine w_getR dX10_count_150 fX10_28 rfl rfl rfl ?_
      refine k_vI (as := []) dX10_count_153 kX10_293 ⟨⟨Nat.le_of_ble_eq_true rfl, rfl, rfl⟩, Nat.le_of_ble_eq_true rfl⟩ rfl (by decide) rfl (Nat.le_of_ble_eq_true rfl) h ?_
      intro r15 M16 h
      exact k_iret dX10_count_156 rfl h
    | 10, _, hx =>
      have h := h.2.2.2.2.2.2.2.2.2.2.1 (by simpa using hx)
      clear hx
      refine w_aload_n dX10_count_157 rfl ?_
      refine w_getR dX10_count_158 fX10_62 rfl rfl rfl ?_
      refine w_getI (x := (M 93 4)) dX10_count_161 fX10_256 rfl rfl rfl (fun g17 => ?_)
      have h := h g17
      exact k_iret dX10_count_164 rfl h
    | 11, _, hx =>
      have h := h.2.2.2.2.2.2.2.2.2.2.2.1 (by simpa using hx)
      clear hx
      refine w_aload_n dX10_count_165 rfl ?_
      refine w_getR dX10_count_166 fX10_62 rfl rfl rfl ?_
      refine k_vI (as := []) dX10_count_169 kX10_296 ⟨⟨Nat.le_of_ble_eq_true rfl, rfl, rfl⟩, Nat.le_of_ble_eq_true rfl⟩ rfl (by decide) rfl (Nat.le_of_ble_eq_true rfl) h ?_
      intro r18 M19 h
      exact k_iret dX10_count_172 rfl h
    | 12, _, hx =>
      have h := h.2.2.2.2.2.2.2.2.2.2.2.2.1 (by simpa using hx)
      clear hx
      refine w_aload_n dX10_count_173 rfl ?_
      refine w_getR dX10_count_174 fX10_48 rfl rfl rfl ?_
      refine w_getI (x := (M 44 6)) dX10_count_177 fX10_299 rfl rfl rfl (fun g20 => ?_)
      have h := h g20
      exact k_iret dX10_count_180 rfl h
    | _ + 13, hj, _ => exact absurd hj (by simp)
  · intro c
    have h := h.2.2.2.2.2.2.2.2.2.2.2.2.2 c
    refine w_iconst dX10_count_181 ?_
    exact k_iret dX10_count_182 rfl h
theorem vX10_lookAround_0 {E : Scr} {f : Mem → Prop} {M : Mem} (h : ((iR (M 36 2)) → (CV E mX4_lay [pR 86, pR 21, pI (M 36 2)] M (fun M3 => ((iR (M3 36 1)) → (CV E mX4_spread [pR 86, pI (M3 36 1)] M3 (fun M6 => f M6))))))) : CV E mX10_lookAround [pR 0] M f := by
  refine (show KW E mX10_lookAround (qV f) M 0 [(0, pR 0)] [] from ?_)
  refine w_aload_n dX10_lookAround_0 rfl ?_
  refine w_getR dX10_lookAround_1 fX10_55 rfl rfl rfl ?_
  refine w_aload_n dX10_lookAround_4 rfl ?_
  refine w_getR dX10_lookAround_5 fX10_21 rfl rfl rfl ?_
  refine w_aload_n dX10_lookAround_8 rfl ?_
  refine w_getR dX10_lookAround_9 fX10_28 rfl rfl rfl ?_
  refine w_getI (x := (M 36 2)) dX10_lookAround_12 fX10_123 rfl rfl rfl (fun g1 => ?_)
  have h := h g1
  refine k_vV (as := [pR 21, pI (M 36 2)]) dX10_lookAround_15 kX10_202 ⟨⟨Nat.le_of_ble_eq_true rfl, rfl, rfl⟩, Nat.le_of_ble_eq_true rfl⟩ rfl (by decide) rfl (Nat.le_of_ble_eq_true rfl) h ?_
  intro M3 h
  refine w_aload_n dX10_lookAround_18 rfl ?_
  refine w_getR dX10_lookAround_19 fX10_55 rfl rfl rfl ?_
  refine w_aload_n dX10_lookAround_22 rfl ?_
  refine w_getR dX10_lookAround_23 fX10_28 rfl rfl rfl ?_
  refine w_getI (x := (M3 36 1)) dX10_lookAround_26 fX10_120 rfl rfl rfl (fun g4 => ?_)
  have h := h g4
  refine k_vV (as := [pI (M3 36 1)]) dX10_lookAround_29 kX10_300 ⟨⟨Nat.le_of_ble_eq_true rfl, rfl, rfl⟩, Nat.le_of_ble_eq_true rfl⟩ rfl (by decide) rfl (Nat.le_of_ble_eq_true rfl) h ?_
  intro M6 h
  exact k_vret dX10_lookAround_32 rfl h
theorem vX10_power_0 {E : Scr} {f : Int → Mem → Prop} {M : Mem} (x0 x2 : Int) (h : (KW E mX10_power (qL f) M 5 [(0, pL x0), (2, pI x2), (3, pL 1), (5, pI 0)] [])) : CL E mX10_power [pL x0, pI x2] M f := by
  refine (show KW E mX10_power (qL f) M 0 [(0, pL x0), (2, pI x2)] [] from ?_)
  refine w_lconst (x := 1) dX10_power_0 rfl ?_
  refine w_lstore_n dX10_power_1 (by decide) ?_
  refine w_iconst dX10_power_2 ?_
  refine w_istore dX10_power_3 (by decide) ?_
  exact k_pick [2, 3, 1, 0] rfl h
theorem vX10_power_5 {E : Scr} {f : Int → Mem → Prop} {M : Mem} (x0 x2 x3 x5 : Int) (h : (iR x5) ∧ (iR x2) ∧ ((x5 ≥ x2 → f x3 M) ∧ (x5 < x2 → (KW E mX10_power (qL f) M 5 [(0, pL x0), (2, pI x2), (3, pL (x3 * x0)), (5, pI (x5 + 1))] [])))) : KW E mX10_power (qL f) M 5 [(0, pL x0), (2, pI x2), (3, pL x3), (5, pI x5)] [] := by
  refine w_iload dX10_power_5 rfl ?_
  refine w_iload_n dX10_power_7 rfl ?_
  obtain ⟨o1, h⟩ := h
  obtain ⟨o2, h⟩ := h
  refine w_icmp_ge dX10_power_8 rfl ⟨o1, o2⟩ (fun c => ?_) (fun c => ?_)
  · have h := h.1 c
    refine w_lload_n dX10_power_21 rfl ?_
    exact k_lret dX10_power_22 rfl h
  · have h := h.2 c
    refine w_lload_n dX10_power_11 rfl ?_
    refine w_lload_n dX10_power_12 rfl ?_
    refine w_lmul dX10_power_13 ?_
    refine w_lstore_n dX10_power_14 (by decide) ?_
    refine w_iinc dX10_power_15 rfl (by decide) ?_
    refine w_goto dX10_power_18 rfl ?_
    exact k_pick [2, 3, 1, 0] rfl h
theorem vX10_inLeastTerms_0 {E : Scr} {f : Int → Mem → Prop} {M : Mem} (x0 x2 x4 : Int) (h : (KW E mX10_inLeastTerms (qL f) M 9 [(0, pL x0), (2, pL x2), (4, pI x4), (5, pL x2), (7, pL x0), (9, pI 0)] [])) : CL E mX10_inLeastTerms [pL x0, pL x2, pI x4] M f := by
  refine (show KW E mX10_inLeastTerms (qL f) M 0 [(0, pL x0), (2, pL x2), (4, pI x4)] [] from ?_)
  refine w_lload_n dX10_inLeastTerms_0 rfl ?_
  refine w_lstore dX10_inLeastTerms_1 (by decide) ?_
  refine w_lload_n dX10_inLeastTerms_3 rfl ?_
  refine w_lstore dX10_inLeastTerms_4 (by decide) ?_
  refine w_iconst dX10_inLeastTerms_6 ?_
  refine w_istore dX10_inLeastTerms_7 (by decide) ?_
  exact k_pick [3, 4, 5, 2, 1, 0] rfl h
theorem vX10_inLeastTerms_9 {E : Scr} {f : Int → Mem → Prop} {M : Mem} (x0 x2 x4 x5 x7 x9 : Int) (h : (iR x9) ∧ ((x9 ≥ 100 → (lR x5) ∧ ((x5 ≠ 0 → (iR x4) ∧ ((x4 ≠ 0 → (lR x2) ∧ (lR x5) ∧ (x5 ≠ 0) ∧ f (Int.tdiv x2 x5) M) ∧ (x4 = 0 → (lR x0) ∧ (lR x5) ∧ (x5 ≠ 0) ∧ f (Int.tdiv x0 x5) M))) ∧ (x5 = 0 → f (-1) M))) ∧ (x9 < 100 → (lR x7) ∧ ((x7 = 0 → (lR x5) ∧ ((x5 ≠ 0 → (iR x4) ∧ ((x4 ≠ 0 → (lR x2) ∧ (lR x5) ∧ (x5 ≠ 0) ∧ f (Int.tdiv x2 x5) M) ∧ (x4 = 0 → (lR x0) ∧ (lR x5) ∧ (x5 ≠ 0) ∧ f (Int.tdiv x0 x5) M))) ∧ (x5 = 0 → f (-1) M))) ∧ (x7 ≠ 0 → (lR x5) ∧ (lR x7) ∧ (x7 ≠ 0) ∧ (KW E mX10_inLeastTerms (qL f) M 9 [(0, pL x0), (2, pL x2), (4, pI x4), (5, pL x7), (7, pL (Int.tmod x5 x7)), (9, pI (x9 + 1))] [])))))) : KW E mX10_inLeastTerms (qL f) M 9 [(0, pL x0), (2, pL x2), (4, pI x4), (5, pL x5), (7, pL x7), (9, pI x9)] [] := by
  refine w_iload dX10_inLeastTerms_9 rfl ?_
  refine w_bipush dX10_inLeastTerms_11 (by decide) ?_
  obtain ⟨o1, h⟩ := h
  refine w_icmp_ge dX10_inLeastTerms_13 rfl ⟨o1, (by decide)⟩ (fun c => ?_) (fun c => ?_)
  · have h := h.1 c
    refine w_lload dX10_inLeastTerms_44 rfl ?_
    refine w_lconst (x := 0) dX10_inLeastTerms_46 rfl ?_
    obtain ⟨o2, h⟩ := h
    refine w_lcmp_ne dX10_inLeastTerms_47 dX10_inLeastTerms_48 rfl ⟨o2, (by decide)⟩ (fun c => ?_) (fun c => ?_)
    · have h := h.1 c
      refine w_iload dX10_inLeastTerms_55 rfl ?_
      obtain ⟨o3, h⟩ := h
      refine w_if_ne dX10_inLeastTerms_57 rfl o3 (fun c => ?_) (fun c => ?_)
      · have h := h.1 c
        refine w_lload_n dX10_inLeastTerms_64 rfl ?_
        refine w_lload dX10_inLeastTerms_65 rfl ?_
        obtain ⟨o4, h⟩ := h
        obtain ⟨o5, h⟩ := h
        obtain ⟨o6, h⟩ := h
        refine w_ldiv dX10_inLeastTerms_67 ⟨o4, o5, o6⟩ ?_
        exact k_lret dX10_inLeastTerms_68 rfl h
      · have h := h.2 c
        refine w_lload_n dX10_inLeastTerms_60 rfl ?_
        refine w_goto dX10_inLeastTerms_61 rfl ?_
        refine w_lload dX10_inLeastTerms_65 rfl ?_
        obtain ⟨o7, h⟩ := h
        obtain ⟨o8, h⟩ := h
        obtain ⟨o9, h⟩ := h
        refine w_ldiv dX10_inLeastTerms_67 ⟨o7, o8, o9⟩ ?_
        exact k_lret dX10_inLeastTerms_68 rfl h
    · have h := h.2 c
      refine w_ldc2 dX10_inLeastTerms_51 qX10_232 ?_
      exact k_lret dX10_inLeastTerms_54 rfl h
  · have h := h.2 c
    refine w_lload dX10_inLeastTerms_16 rfl ?_
    refine w_lconst (x := 0) dX10_inLeastTerms_18 rfl ?_
    obtain ⟨o10, h⟩ := h
    refine w_lcmp_eq dX10_inLeastTerms_19 dX10_inLeastTerms_20 rfl ⟨o10, (by decide)⟩ (fun c => ?_) (fun c => ?_)
    · have h := h.1 c
      refine w_lload dX10_inLeastTerms_44 rfl ?_
      refine w_lconst (x := 0) dX10_inLeastTerms_46 rfl ?_
      obtain ⟨o11, h⟩ := h
      refine w_lcmp_ne dX10_inLeastTerms_47 dX10_inLeastTerms_48 rfl ⟨o11, (by decide)⟩ (fun c => ?_) (fun c => ?_)
      · have h := h.1 c
        refine w_iload dX10_inLeastTerms_55 rfl ?_
        obtain ⟨o12, h⟩ := h
        refine w_if_ne dX10_inLeastTerms_57 rfl o12 (fun c => ?_) (fun c => ?_)
        · have h := h.1 c
          refine w_lload_n dX10_inLeastTerms_64 rfl ?_
          refine w_lload dX10_inLeastTerms_65 rfl ?_
          obtain ⟨o13, h⟩ := h
          obtain ⟨o14, h⟩ := h
          obtain ⟨o15, h⟩ := h
          refine w_ldiv dX10_inLeastTerms_67 ⟨o13, o14, o15⟩ ?_
          exact k_lret dX10_inLeastTerms_68 rfl h
        · have h := h.2 c
          refine w_lload_n dX10_inLeastTerms_60 rfl ?_
          refine w_goto dX10_inLeastTerms_61 rfl ?_
          refine w_lload dX10_inLeastTerms_65 rfl ?_
          obtain ⟨o16, h⟩ := h
          obtain ⟨o17, h⟩ := h
          obtain ⟨o18, h⟩ := h
          refine w_ldiv dX10_inLeastTerms_67 ⟨o16, o17, o18⟩ ?_
          exact k_lret dX10_inLeastTerms_68 rfl h
      · have h := h.2 c
        refine w_ldc2 dX10_inLeastTerms_51 qX10_232 ?_
        exact k_lret dX10_inLeastTerms_54 rfl h
    · have h := h.2 c
      refine w_lload dX10_inLeastTerms_23 rfl ?_
      refine w_lload dX10_inLeastTerms_25 rfl ?_
      obtain ⟨o19, h⟩ := h
      obtain ⟨o20, h⟩ := h
      obtain ⟨o21, h⟩ := h
      refine w_lrem dX10_inLeastTerms_27 ⟨o19, o20, o21⟩ ?_
      refine w_lstore dX10_inLeastTerms_28 (by decide) ?_
      refine w_lload dX10_inLeastTerms_30 rfl ?_
      refine w_lstore dX10_inLeastTerms_32 (by decide) ?_
      refine w_lload dX10_inLeastTerms_34 rfl ?_
      refine w_lstore dX10_inLeastTerms_36 (by decide) ?_
      refine w_iinc dX10_inLeastTerms_38 rfl (by decide) ?_
      refine w_goto dX10_inLeastTerms_41 rfl ?_
      exact k_pick [4, 5, 6, 2, 1, 0] rfl h
theorem vX10_rank_0 {E : Scr} {f : Int → Mem → Prop} {M : Mem} (x0 : Int) (h : (iR x0) ∧ ((x0 = 10 → f 1 M) ∧ (x0 = 11 → f 2 M) ∧ (x0 = 12 → f 3 M) ∧ (x0 = 13 → (KW E mX10_rank (qI f) M 137 [] [])) ∧ (x0 = 14 → (KW E mX10_rank (qI f) M 137 [] [])) ∧ (x0 = 15 → (KW E mX10_rank (qI f) M 137 [] [])) ∧ (x0 = 16 → (KW E mX10_rank (qI f) M 137 [] [])) ∧ (x0 = 17 → (KW E mX10_rank (qI f) M 137 [] [])) ∧ (x0 = 18 → (KW E mX10_rank (qI f) M 137 [] [])) ∧ (x0 = 19 → (KW E mX10_rank (qI f) M 137 [] [])) ∧ (x0 = 20 → (KW E mX10_rank (qI f) M 137 [] [])) ∧ (x0 = 21 → (KW E mX10_rank (qI f) M 137 [] [])) ∧ (x0 = 22 → (KW E mX10_rank (qI f) M 137 [] [])) ∧ (x0 = 23 → (KW E mX10_rank (qI f) M 137 [] [])) ∧ (x0 = 24 → (KW E mX10_rank (qI f) M 137 [] [])) ∧ (x0 = 25 → (KW E mX10_rank (qI f) M 137 [] [])) ∧ (x0 = 26 → (KW E mX10_rank (qI f) M 137 [] [])) ∧ (x0 = 27 → f 4 M) ∧ (x0 = 28 → f 4 M) ∧ (x0 = 29 → f 4 M) ∧ (x0 = 30 → f 5 M) ∧ (x0 = 31 → f 5 M) ∧ (x0 = 32 → f 6 M) ∧ (x0 = 33 → f 6 M) ∧ (x0 = 34 → f 4 M) ∧ (x0 = 35 → f 4 M) ∧ (x0 = 36 → f 4 M) ∧ (x0 < 10 ∨ 36 < x0 → (KW E mX10_rank (qI f) M 137 [] [])))) : CI E mX10_rank [pI x0] M f := by
  refine (show KW E mX10_rank (qI f) M 0 [(0, pI x0)] [] from ?_)
  refine w_iload_n dX10_rank_0 rfl ?_
  obtain ⟨o1, h⟩ := h
  refine w_tsw (tgs := [124, 126, 128, 137, 137, 137, 137, 137, 137, 137, 137, 137, 137, 137, 137, 137, 137, 130, 130, 130, 132, 132, 134, 134, 130, 130, 130]) (td := 137) dX10_rank_1 o1 rfl (by decide) rfl ?_ ?_
  · intro j hj hx
    match j, hj, hx with
    | 0, _, hx =>
      have h := h.1 (by simpa using hx)
      clear hx
      refine w_iconst dX10_rank_124 ?_
      exact k_iret dX10_rank_125 rfl h
    | 1, _, hx =>
      have h := h.2.1 (by simpa using hx)
      clear hx
      refine w_iconst dX10_rank_126 ?_
      exact k_iret dX10_rank_127 rfl h
    | 2, _, hx =>
      have h := h.2.2.1 (by simpa using hx)
      clear hx
      refine w_iconst dX10_rank_128 ?_
      exact k_iret dX10_rank_129 rfl h
    | 3, _, hx =>
      have h := h.2.2.2.1 (by simpa using hx)
      clear hx
      exact k_pick [] rfl h
    | 4, _, hx =>
      have h := h.2.2.2.2.1 (by simpa using hx)
      clear hx
      exact k_pick [] rfl h
    | 5, _, hx =>
      have h := h.2.2.2.2.2.1 (by simpa using hx)
      clear hx
      exact k_pick [] rfl h
    | 6, _, hx =>
      have h := h.2.2.2.2.2.2.1 (by simpa using hx)
      clear hx
      exact k_pick [] rfl h
    | 7, _, hx =>
      have h := h.2.2.2.2.2.2.2.1 (by simpa using hx)
      clear hx
      exact k_pick [] rfl h
    | 8, _, hx =>
      have h := h.2.2.2.2.2.2.2.2.1 (by simpa using hx)
      clear hx
      exact k_pick [] rfl h
    | 9, _, hx =>
      have h := h.2.2.2.2.2.2.2.2.2.1 (by simpa using hx)
      clear hx
      exact k_pick [] rfl h
    | 10, _, hx =>
      have h := h.2.2.2.2.2.2.2.2.2.2.1 (by simpa using hx)
      clear hx
      exact k_pick [] rfl h
    | 11, _, hx =>
      have h := h.2.2.2.2.2.2.2.2.2.2.2.1 (by simpa using hx)
      clear hx
      exact k_pick [] rfl h
    | 12, _, hx =>
      have h := h.2.2.2.2.2.2.2.2.2.2.2.2.1 (by simpa using hx)
      clear hx
      exact k_pick [] rfl h
    | 13, _, hx =>
      have h := h.2.2.2.2.2.2.2.2.2.2.2.2.2.1 (by simpa using hx)
      clear hx
      exact k_pick [] rfl h
    | 14, _, hx =>
      have h := h.2.2.2.2.2.2.2.2.2.2.2.2.2.2.1 (by simpa using hx)
      clear hx
      exact k_pick [] rfl h
    | 15, _, hx =>
      have h := h.2.2.2.2.2.2.2.2.2.2.2.2.2.2.2.1 (by simpa using hx)
      clear hx
      exact k_pick [] rfl h
    | 16, _, hx =>
      have h := h.2.2.2.2.2.2.2.2.2.2.2.2.2.2.2.2.1 (by simpa using hx)
      clear hx
      exact k_pick [] rfl h
    | 17, _, hx =>
      have h := h.2.2.2.2.2.2.2.2.2.2.2.2.2.2.2.2.2.1 (by simpa using hx)
      clear hx
      refine w_iconst dX10_rank_130 ?_
      exact k_iret dX10_rank_131 rfl h
    | 18, _, hx =>
      have h := h.2.2.2.2.2.2.2.2.2.2.2.2.2.2.2.2.2.2.1 (by simpa using hx)
      clear hx
      refine w_iconst dX10_rank_130 ?_
      exact k_iret dX10_rank_131 rfl h
    | 19, _, hx =>
      have h := h.2.2.2.2.2.2.2.2.2.2.2.2.2.2.2.2.2.2.2.1 (by simpa using hx)
      clear hx
      refine w_iconst dX10_rank_130 ?_
      exact k_iret dX10_rank_131 rfl h
    | 20, _, hx =>
      have h := h.2.2.2.2.2.2.2.2.2.2.2.2.2.2.2.2.2.2.2.2.1 (by simpa using hx)
      clear hx
      refine w_iconst dX10_rank_132 ?_
      exact k_iret dX10_rank_133 rfl h
    | 21, _, hx =>
      have h := h.2.2.2.2.2.2.2.2.2.2.2.2.2.2.2.2.2.2.2.2.2.1 (by simpa using hx)
      clear hx
      refine w_iconst dX10_rank_132 ?_
      exact k_iret dX10_rank_133 rfl h
    | 22, _, hx =>
      have h := h.2.2.2.2.2.2.2.2.2.2.2.2.2.2.2.2.2.2.2.2.2.2.1 (by simpa using hx)
      clear hx
      refine w_bipush dX10_rank_134 (by decide) ?_
      exact k_iret dX10_rank_136 rfl h
    | 23, _, hx =>
      have h := h.2.2.2.2.2.2.2.2.2.2.2.2.2.2.2.2.2.2.2.2.2.2.2.1 (by simpa using hx)
      clear hx
      refine w_bipush dX10_rank_134 (by decide) ?_
      exact k_iret dX10_rank_136 rfl h
    | 24, _, hx =>
      have h := h.2.2.2.2.2.2.2.2.2.2.2.2.2.2.2.2.2.2.2.2.2.2.2.2.1 (by simpa using hx)
      clear hx
      refine w_iconst dX10_rank_130 ?_
      exact k_iret dX10_rank_131 rfl h
    | 25, _, hx =>
      have h := h.2.2.2.2.2.2.2.2.2.2.2.2.2.2.2.2.2.2.2.2.2.2.2.2.2.1 (by simpa using hx)
      clear hx
      refine w_iconst dX10_rank_130 ?_
      exact k_iret dX10_rank_131 rfl h
    | 26, _, hx =>
      have h := h.2.2.2.2.2.2.2.2.2.2.2.2.2.2.2.2.2.2.2.2.2.2.2.2.2.2.1 (by simpa using hx)
      clear hx
      refine w_iconst dX10_rank_130 ?_
      exact k_iret dX10_rank_131 rfl h
    | _ + 27, hj, _ => exact absurd hj (by simp)
  · intro c
    have h := h.2.2.2.2.2.2.2.2.2.2.2.2.2.2.2.2.2.2.2.2.2.2.2.2.2.2.2 c
    exact k_pick [] rfl h
theorem vX10_rank_137 {E : Scr} {f : Int → Mem → Prop} {M : Mem} (h : f 0 M) : KW E mX10_rank (qI f) M 137 [] [] := by
  refine w_iconst dX10_rank_137 ?_
  exact k_iret dX10_rank_138 rfl h
