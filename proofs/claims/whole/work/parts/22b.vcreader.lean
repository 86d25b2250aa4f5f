theorem vX5_reads_0 {E : Scr} {f : Int → Mem → Prop} {M : Mem} (x1 : Int) (h : (CV E mX1_clear [pR 5] M (fun M2 => (CV E mX8_begin [pR 2, pI x1] (upM (upM (upM (upM (upM M2 1 6 0) 1 7 0) 1 8 0) 1 9 0) 1 10 (-1)) (fun M4 => (KW E mX5_reads (qI f) M4 42 [(0, pR 1), (2, pI 0)] [])))))) : CI E mX5_reads [pR 1, pI x1] M f := by
  refine (show KW E mX5_reads (qI f) M 0 [(0, pR 1), (1, pI x1)] [] from ?_)
  refine w_aload_n dX5_reads_0 rfl ?_
  refine w_getR dX5_reads_1 fX5_21 rfl rfl rfl ?_
  refine k_vV (as := []) dX5_reads_4 kX5_36 ⟨⟨Nat.le_of_ble_eq_true rfl, rfl, rfl⟩, Nat.le_of_ble_eq_true rfl⟩ rfl (by decide) rfl (Nat.le_of_ble_eq_true rfl) h ?_
  intro M2 h
  refine w_aload_n dX5_reads_7 rfl ?_
  refine w_iconst dX5_reads_8 ?_
  refine w_putI dX5_reads_9 (Or.inl ⟨rfl, fX5_39⟩) rfl rfl (by decide) ?_
  refine w_aload_n dX5_reads_12 rfl ?_
  refine w_iconst dX5_reads_13 ?_
  refine w_putZ dX5_reads_14 (Or.inl ⟨rfl, fX5_42⟩) rfl rfl (by decide) ?_
  refine w_aload_n dX5_reads_17 rfl ?_
  refine w_iconst dX5_reads_18 ?_
  refine w_putZ dX5_reads_19 (Or.inl ⟨rfl, fX5_46⟩) rfl rfl (by decide) ?_
  refine w_aload_n dX5_reads_22 rfl ?_
  refine w_iconst dX5_reads_23 ?_
  refine w_putI dX5_reads_24 (Or.inl ⟨rfl, fX5_49⟩) rfl rfl (by decide) ?_
  refine w_aload_n dX5_reads_27 rfl ?_
  refine w_iconst dX5_reads_28 ?_
  refine w_putI dX5_reads_29 (Or.inl ⟨rfl, fX5_33⟩) rfl rfl (by decide) ?_
  refine w_aload_n dX5_reads_32 rfl ?_
  refine w_getR dX5_reads_33 fX5_12 rfl rfl rfl ?_
  refine w_iload_n dX5_reads_36 rfl ?_
  refine k_vV (as := [pI x1]) dX5_reads_37 kX5_52 ⟨⟨Nat.le_of_ble_eq_true rfl, rfl, rfl⟩, Nat.le_of_ble_eq_true rfl⟩ rfl (by decide) rfl (Nat.le_of_ble_eq_true rfl) h ?_
  intro M4 h
  refine w_iconst dX5_reads_40 ?_
  refine w_istore_n dX5_reads_41 (by decide) ?_
  exact k_pick [1, 0] rfl h
theorem vX5_reads_42 {E : Scr} {f : Int → Mem → Prop} {M : Mem} (x2 : Int) (h : (iR x2) ∧ ((x2 > 700 → (CV E mX1_settle [pR 5] M (fun M3 => f 1 M3))) ∧ (x2 ≤ 700 → ((iR (M 2 5)) → (((M 2 5) = 39 → (CV E mX1_settle [pR 5] M (fun M6 => f 1 M6))) ∧ ((M 2 5) ≠ 39 → (CI E mX5_line [pR 1] M (fun r7 M8 => (iR r7) ∧ ((r7 = 0 → f 0 M8) ∧ (r7 ≠ 0 → (CI E mX5_ends [pR 1] M8 (fun r10 M11 => (iR r10) ∧ ((r10 ≠ 0 → ((iR (M11 5 0)) → (iR ((M11 5 0) + 1)) ∧ (KW E mX5_reads (qI f) (upM M11 5 0 ((M11 5 0) + 1)) 42 [(0, pR 1), (2, pI (x2 + 1))] []))) ∧ (r10 = 0 → f 0 M11)))))))))))))) : KW E mX5_reads (qI f) M 42 [(0, pR 1), (2, pI x2)] [] := by
  refine w_iload_n dX5_reads_42 rfl ?_
  refine w_sipush dX5_reads_43 (by decide) ?_
  obtain ⟨o1, h⟩ := h
  refine w_icmp_gt dX5_reads_46 rfl ⟨o1, (by decide)⟩ (fun c => ?_) (fun c => ?_)
  · have h := h.1 c
    refine w_aload_n dX5_reads_96 rfl ?_
    refine w_getR dX5_reads_97 fX5_21 rfl rfl rfl ?_
    refine k_vV (as := []) dX5_reads_100 kX5_69 ⟨⟨Nat.le_of_ble_eq_true rfl, rfl, rfl⟩, Nat.le_of_ble_eq_true rfl⟩ rfl (by decide) rfl (Nat.le_of_ble_eq_true rfl) h ?_
    intro M3 h
    refine w_iconst dX5_reads_103 ?_
    exact k_zret dX5_reads_104 rfl (by decide) h
  · have h := h.2 c
    refine w_aload_n dX5_reads_49 rfl ?_
    refine w_getR dX5_reads_50 fX5_12 rfl rfl rfl ?_
    refine w_getI (x := (M 2 5)) dX5_reads_53 fX5_56 rfl rfl rfl (fun g4 => ?_)
    have h := h g4
    refine w_bipush dX5_reads_56 (by decide) ?_
    refine w_icmp_eq dX5_reads_58 rfl ⟨g4, (by decide)⟩ (fun c => ?_) (fun c => ?_)
    · have h := h.1 c
      refine w_aload_n dX5_reads_96 rfl ?_
      refine w_getR dX5_reads_97 fX5_21 rfl rfl rfl ?_
      refine k_vV (as := []) dX5_reads_100 kX5_69 ⟨⟨Nat.le_of_ble_eq_true rfl, rfl, rfl⟩, Nat.le_of_ble_eq_true rfl⟩ rfl (by decide) rfl (Nat.le_of_ble_eq_true rfl) h ?_
      intro M6 h
      refine w_iconst dX5_reads_103 ?_
      exact k_zret dX5_reads_104 rfl (by decide) h
    · have h := h.2 c
      refine w_aload_n dX5_reads_61 rfl ?_
      refine k_vI (as := []) dX5_reads_62 kX5_59 ⟨⟨Nat.le_of_ble_eq_true rfl, rfl, rfl⟩, Nat.le_of_ble_eq_true rfl⟩ rfl (by decide) rfl (Nat.le_of_ble_eq_true rfl) h ?_
      intro r7 M8 h
      obtain ⟨o9, h⟩ := h
      refine w_if_eq dX5_reads_65 rfl o9 (fun c => ?_) (fun c => ?_)
      · have h := h.1 c
        refine w_iconst dX5_reads_75 ?_
        exact k_zret dX5_reads_76 rfl (by decide) h
      · have h := h.2 c
        refine w_aload_n dX5_reads_68 rfl ?_
        refine k_vI (as := []) dX5_reads_69 kX5_63 ⟨⟨Nat.le_of_ble_eq_true rfl, rfl, rfl⟩, Nat.le_of_ble_eq_true rfl⟩ rfl (by decide) rfl (Nat.le_of_ble_eq_true rfl) h ?_
        intro r10 M11 h
        obtain ⟨o12, h⟩ := h
        refine w_if_ne dX5_reads_72 rfl o12 (fun c => ?_) (fun c => ?_)
        · have h := h.1 c
          refine w_aload_n dX5_reads_77 rfl ?_
          refine w_getR dX5_reads_78 fX5_21 rfl rfl rfl ?_
          refine w_dup dX5_reads_81 rfl ?_
          refine w_getI (x := (M11 5 0)) dX5_reads_82 fX5_66 rfl rfl rfl (fun g13 => ?_)
          have h := h g13
          refine w_iconst dX5_reads_85 ?_
          refine w_iadd dX5_reads_86 ?_
          obtain ⟨o14, h⟩ := h
          refine w_putI dX5_reads_87 (Or.inl ⟨rfl, fX5_66⟩) rfl rfl o14 ?_
          refine w_iinc dX5_reads_90 rfl (by decide) ?_
          refine w_goto dX5_reads_93 rfl ?_
          exact k_pick [1, 0] rfl h
        · have h := h.2 c
          refine w_iconst dX5_reads_75 ?_
          exact k_zret dX5_reads_76 rfl (by decide) h
theorem vX5_fails_0 {E : Scr} {f : Int → Mem → Prop} {M : Mem} (x1 : Int) (h : (iR x1) ∧ ((iR (M 2 6)) → f 0 (upM (upM M 1 9 x1) 1 10 (M 2 6)))) : CI E mX5_fails [pR 1, pI x1] M f := by
  refine (show KW E mX5_fails (qI f) M 0 [(0, pR 1), (1, pI x1)] [] from ?_)
  refine w_aload_n dX5_fails_0 rfl ?_
  refine w_iload_n dX5_fails_1 rfl ?_
  obtain ⟨o1, h⟩ := h
  refine w_putI dX5_fails_2 (Or.inl ⟨rfl, fX5_49⟩) rfl rfl o1 ?_
  refine w_aload_n dX5_fails_5 rfl ?_
  refine w_aload_n dX5_fails_6 rfl ?_
  refine w_getR dX5_fails_7 fX5_12 rfl rfl rfl ?_
  refine w_getI (x := (M 2 6)) dX5_fails_10 fX5_72 rfl rfl rfl (fun g2 => ?_)
  have h := h g2
  refine w_putI dX5_fails_13 (Or.inl ⟨rfl, fX5_33⟩) rfl rfl g2 ?_
  refine w_iconst dX5_fails_16 ?_
  exact k_zret dX5_fails_17 rfl (by decide) h
theorem vX5_ends_0 {E : Scr} {f : Int → Mem → Prop} {M : Mem} (h : ((iR (M 2 5)) → (((M 2 5) = 24 → (CV E mX8_advance [pR 2] M (fun M3 => f 1 M3))) ∧ ((M 2 5) ≠ 24 → (CI E mX5_fails [pR 1, pI 1] M (fun r4 M5 => (zR r4) ∧ f r4 M5)))))) : CI E mX5_ends [pR 1] M f := by
  refine (show KW E mX5_ends (qI f) M 0 [(0, pR 1)] [] from ?_)
  refine w_aload_n dX5_ends_0 rfl ?_
  refine w_getR dX5_ends_1 fX5_12 rfl rfl rfl ?_
  refine w_getI (x := (M 2 5)) dX5_ends_4 fX5_56 rfl rfl rfl (fun g1 => ?_)
  have h := h g1
  refine w_bipush dX5_ends_7 (by decide) ?_
  refine w_icmp_eq dX5_ends_9 rfl ⟨g1, (by decide)⟩ (fun c => ?_) (fun c => ?_)
  · have h := h.1 c
    refine w_aload_n dX5_ends_18 rfl ?_
    refine w_getR dX5_ends_19 fX5_12 rfl rfl rfl ?_
    refine k_vV (as := []) dX5_ends_22 kX5_79 ⟨⟨Nat.le_of_ble_eq_true rfl, rfl, rfl⟩, Nat.le_of_ble_eq_true rfl⟩ rfl (by decide) rfl (Nat.le_of_ble_eq_true rfl) h ?_
    intro M3 h
    refine w_iconst dX5_ends_25 ?_
    exact k_zret dX5_ends_26 rfl (by decide) h
  · have h := h.2 c
    refine w_aload_n dX5_ends_12 rfl ?_
    refine w_iconst dX5_ends_13 ?_
    refine k_vI (as := [pI 1]) dX5_ends_14 kX5_75 ⟨⟨Nat.le_of_ble_eq_true rfl, rfl, rfl⟩, Nat.le_of_ble_eq_true rfl⟩ rfl (by decide) rfl (Nat.le_of_ble_eq_true rfl) h ?_
    intro r4 M5 h
    obtain ⟨o6, h⟩ := h
    exact k_zret dX5_ends_17 rfl o6 h
theorem vX5_line_0 {E : Scr} {f : Int → Mem → Prop} {M : Mem} (h : ((iR (M 2 5)) → (((M 2 5) = 0 → (CI E mX5_latchLine [pR 1] M (fun r2 M3 => (zR r2) ∧ f r2 M3))) ∧ ((M 2 5) = 1 → (CI E mX5_leanLine [pR 1] M (fun r5 M6 => (zR r5) ∧ f r5 M6))) ∧ ((M 2 5) = 2 → (CI E mX5_pushLine [pR 1] M (fun r8 M9 => (zR r8) ∧ f r8 M9))) ∧ ((M 2 5) = 3 → (CI E mX5_oilLine [pR 1] M (fun r11 M12 => (zR r11) ∧ f r11 M12))) ∧ ((M 2 5) = 4 → (CI E mX5_rustLine [pR 1] M (fun r14 M15 => (zR r14) ∧ f r14 M15))) ∧ ((M 2 5) = 5 → (CI E mX5_seedLine [pR 1] M (fun r17 M18 => (zR r17) ∧ f r17 M18))) ∧ ((M 2 5) = 6 → (CI E mX5_lawLine [pR 1] M (fun r20 M21 => (zR r20) ∧ f r20 M21))) ∧ ((M 2 5) < 0 ∨ 6 < (M 2 5) → (CI E mX5_fails [pR 1, pI 1] M (fun r23 M24 => (zR r23) ∧ f r23 M24)))))) : CI E mX5_line [pR 1] M f := by
  refine (show KW E mX5_line (qI f) M 0 [(0, pR 1)] [] from ?_)
  refine w_aload_n dX5_line_0 rfl ?_
  refine w_getR dX5_line_1 fX5_12 rfl rfl rfl ?_
  refine w_getI (x := (M 2 5)) dX5_line_4 fX5_56 rfl rfl rfl (fun g1 => ?_)
  have h := h g1
  refine w_tsw (tgs := [48, 53, 58, 63, 68, 73, 78]) (td := 83) dX5_line_7 g1 rfl (by decide) rfl ?_ ?_
  · intro j hj hx
    match j, hj, hx with
    | 0, _, hx =>
      have h := h.1 (by simpa using hx)
      clear hx
      refine w_aload_n dX5_line_48 rfl ?_
      refine k_vI (as := []) dX5_line_49 kX5_82 ⟨⟨Nat.le_of_ble_eq_true rfl, rfl, rfl⟩, Nat.le_of_ble_eq_true rfl⟩ rfl (by decide) rfl (Nat.le_of_ble_eq_true rfl) h ?_
      intro r2 M3 h
      obtain ⟨o4, h⟩ := h
      exact k_zret dX5_line_52 rfl o4 h
    | 1, _, hx =>
      have h := h.2.1 (by simpa using hx)
      clear hx
      refine w_aload_n dX5_line_53 rfl ?_
      refine k_vI (as := []) dX5_line_54 kX5_85 ⟨⟨Nat.le_of_ble_eq_true rfl, rfl, rfl⟩, Nat.le_of_ble_eq_true rfl⟩ rfl (by decide) rfl (Nat.le_of_ble_eq_true rfl) h ?_
      intro r5 M6 h
      obtain ⟨o7, h⟩ := h
      exact k_zret dX5_line_57 rfl o7 h
    | 2, _, hx =>
      have h := h.2.2.1 (by simpa using hx)
      clear hx
      refine w_aload_n dX5_line_58 rfl ?_
      refine k_vI (as := []) dX5_line_59 kX5_88 ⟨⟨Nat.le_of_ble_eq_true rfl, rfl, rfl⟩, Nat.le_of_ble_eq_true rfl⟩ rfl (by decide) rfl (Nat.le_of_ble_eq_true rfl) h ?_
      intro r8 M9 h
      obtain ⟨o10, h⟩ := h
      exact k_zret dX5_line_62 rfl o10 h
    | 3, _, hx =>
      have h := h.2.2.2.1 (by simpa using hx)
      clear hx
      refine w_aload_n dX5_line_63 rfl ?_
      refine k_vI (as := []) dX5_line_64 kX5_91 ⟨⟨Nat.le_of_ble_eq_true rfl, rfl, rfl⟩, Nat.le_of_ble_eq_true rfl⟩ rfl (by decide) rfl (Nat.le_of_ble_eq_true rfl) h ?_
      intro r11 M12 h
      obtain ⟨o13, h⟩ := h
      exact k_zret dX5_line_67 rfl o13 h
    | 4, _, hx =>
      have h := h.2.2.2.2.1 (by simpa using hx)
      clear hx
      refine w_aload_n dX5_line_68 rfl ?_
      refine k_vI (as := []) dX5_line_69 kX5_94 ⟨⟨Nat.le_of_ble_eq_true rfl, rfl, rfl⟩, Nat.le_of_ble_eq_true rfl⟩ rfl (by decide) rfl (Nat.le_of_ble_eq_true rfl) h ?_
      intro r14 M15 h
      obtain ⟨o16, h⟩ := h
      exact k_zret dX5_line_72 rfl o16 h
    | 5, _, hx =>
      have h := h.2.2.2.2.2.1 (by simpa using hx)
      clear hx
      refine w_aload_n dX5_line_73 rfl ?_
      refine k_vI (as := []) dX5_line_74 kX5_97 ⟨⟨Nat.le_of_ble_eq_true rfl, rfl, rfl⟩, Nat.le_of_ble_eq_true rfl⟩ rfl (by decide) rfl (Nat.le_of_ble_eq_true rfl) h ?_
      intro r17 M18 h
      obtain ⟨o19, h⟩ := h
      exact k_zret dX5_line_77 rfl o19 h
    | 6, _, hx =>
      have h := h.2.2.2.2.2.2.1 (by simpa using hx)
      clear hx
      refine w_aload_n dX5_line_78 rfl ?_
      refine k_vI (as := []) dX5_line_79 kX5_100 ⟨⟨Nat.le_of_ble_eq_true rfl, rfl, rfl⟩, Nat.le_of_ble_eq_true rfl⟩ rfl (by decide) rfl (Nat.le_of_ble_eq_true rfl) h ?_
      intro r20 M21 h
      obtain ⟨o22, h⟩ := h
      exact k_zret dX5_line_82 rfl o22 h
    | _ + 7, hj, _ => exact absurd hj (by simp)
  · intro c
    have h := h.2.2.2.2.2.2.2 c
    refine w_aload_n dX5_line_83 rfl ?_
    refine w_iconst dX5_line_84 ?_
    refine k_vI (as := [pI 1]) dX5_line_85 kX5_75 ⟨⟨Nat.le_of_ble_eq_true rfl, rfl, rfl⟩, Nat.le_of_ble_eq_true rfl⟩ rfl (by decide) rfl (Nat.le_of_ble_eq_true rfl) h ?_
    intro r23 M24 h
    obtain ⟨o25, h⟩ := h
    exact k_zret dX5_line_88 rfl o25 h
theorem vX5_latchLine_0 {E : Scr} {f : Int → Mem → Prop} {M : Mem} (h : ((iR (M 5 1)) → (((M 5 1) < 8 → (CV E mX8_advance [pR 2] M (fun M3 => ((iR (M3 2 5)) → (((M3 2 5) = 38 → ((iR (M3 2 7)) → (CI E mX1_numberOf [pR 5, pI (M3 2 7)] M3 (fun r6 M7 => (iR r6) ∧ ((r6 = (-1) → (CV E mX8_advance [pR 2] M7 (fun M10 => (CI E mX5_numberTo [pR 1, pI 1] M10 (fun r11 M12 => (iR r11) ∧ ((r11 ≠ 0 → ((iR (M12 2 7)) → (CV E mX1_addLatch [pR 5, pI (M3 2 7), pI (M12 2 7)] M12 (fun M16 => (CV E mX8_advance [pR 2] M16 (fun M18 => f 1 M18)))))) ∧ (r11 = 0 → f 0 M12))))))) ∧ (r6 ≠ (-1) → (CI E mX5_fails [pR 1, pI 3] M7 (fun r19 M20 => (zR r19) ∧ f r19 M20)))))))) ∧ ((M3 2 5) ≠ 38 → (CI E mX5_fails [pR 1, pI 1] M3 (fun r22 M23 => (zR r22) ∧ f r22 M23)))))))) ∧ ((M 5 1) ≥ 8 → (CI E mX5_fails [pR 1, pI 2] M (fun r25 M26 => (zR r25) ∧ f r25 M26)))))) : CI E mX5_latchLine [pR 1] M f := by
  refine (show KW E mX5_latchLine (qI f) M 0 [(0, pR 1)] [] from ?_)
  refine w_aload_n dX5_latchLine_0 rfl ?_
  refine w_getR dX5_latchLine_1 fX5_21 rfl rfl rfl ?_
  refine w_getI (x := (M 5 1)) dX5_latchLine_4 fX5_103 rfl rfl rfl (fun g1 => ?_)
  have h := h g1
  refine w_bipush dX5_latchLine_7 (by decide) ?_
  refine w_icmp_lt dX5_latchLine_9 rfl ⟨g1, (by decide)⟩ (fun c => ?_) (fun c => ?_)
  · have h := h.1 c
    refine w_aload_n dX5_latchLine_18 rfl ?_
    refine w_getR dX5_latchLine_19 fX5_12 rfl rfl rfl ?_
    refine k_vV (as := []) dX5_latchLine_22 kX5_79 ⟨⟨Nat.le_of_ble_eq_true rfl, rfl, rfl⟩, Nat.le_of_ble_eq_true rfl⟩ rfl (by decide) rfl (Nat.le_of_ble_eq_true rfl) h ?_
    intro M3 h
    refine w_aload_n dX5_latchLine_25 rfl ?_
    refine w_getR dX5_latchLine_26 fX5_12 rfl rfl rfl ?_
    refine w_getI (x := (M3 2 5)) dX5_latchLine_29 fX5_56 rfl rfl rfl (fun g4 => ?_)
    have h := h g4
    refine w_bipush dX5_latchLine_32 (by decide) ?_
    refine w_icmp_eq dX5_latchLine_34 rfl ⟨g4, (by decide)⟩ (fun c => ?_) (fun c => ?_)
    · have h := h.1 c
      refine w_aload_n dX5_latchLine_43 rfl ?_
      refine w_getR dX5_latchLine_44 fX5_12 rfl rfl rfl ?_
      refine w_getI (x := (M3 2 7)) dX5_latchLine_47 fX5_106 rfl rfl rfl (fun g5 => ?_)
      have h := h g5
      refine w_istore_n dX5_latchLine_50 (by decide) ?_
      refine w_aload_n dX5_latchLine_51 rfl ?_
      refine w_getR dX5_latchLine_52 fX5_21 rfl rfl rfl ?_
      refine w_iload_n dX5_latchLine_55 rfl ?_
      refine k_vI (as := [pI (M3 2 7)]) dX5_latchLine_56 kX5_109 ⟨⟨Nat.le_of_ble_eq_true rfl, rfl, rfl⟩, Nat.le_of_ble_eq_true rfl⟩ rfl (by decide) rfl (Nat.le_of_ble_eq_true rfl) h ?_
      intro r6 M7 h
      refine w_iconst dX5_latchLine_59 ?_
      obtain ⟨o8, h⟩ := h
      refine w_icmp_eq dX5_latchLine_60 rfl ⟨o8, (by decide)⟩ (fun c => ?_) (fun c => ?_)
      · have h := h.1 c
        refine w_aload_n dX5_latchLine_69 rfl ?_
        refine w_getR dX5_latchLine_70 fX5_12 rfl rfl rfl ?_
        refine k_vV (as := []) dX5_latchLine_73 kX5_79 ⟨⟨Nat.le_of_ble_eq_true rfl, rfl, rfl⟩, Nat.le_of_ble_eq_true rfl⟩ rfl (by decide) rfl (Nat.le_of_ble_eq_true rfl) h ?_
        intro M10 h
        refine w_aload_n dX5_latchLine_76 rfl ?_
        refine w_iconst dX5_latchLine_77 ?_
        refine k_vI (as := [pI 1]) dX5_latchLine_78 kX5_113 ⟨⟨Nat.le_of_ble_eq_true rfl, rfl, rfl⟩, Nat.le_of_ble_eq_true rfl⟩ rfl (by decide) rfl (Nat.le_of_ble_eq_true rfl) h ?_
        intro r11 M12 h
        obtain ⟨o13, h⟩ := h
        refine w_if_ne dX5_latchLine_81 rfl o13 (fun c => ?_) (fun c => ?_)
        · have h := h.1 c
          refine w_aload_n dX5_latchLine_86 rfl ?_
          refine w_getR dX5_latchLine_87 fX5_21 rfl rfl rfl ?_
          refine w_iload_n dX5_latchLine_90 rfl ?_
          refine w_aload_n dX5_latchLine_91 rfl ?_
          refine w_getR dX5_latchLine_92 fX5_12 rfl rfl rfl ?_
          refine w_getI (x := (M12 2 7)) dX5_latchLine_95 fX5_106 rfl rfl rfl (fun g14 => ?_)
          have h := h g14
          refine k_vV (as := [pI (M3 2 7), pI (M12 2 7)]) dX5_latchLine_98 kX5_116 ⟨⟨Nat.le_of_ble_eq_true rfl, rfl, rfl⟩, Nat.le_of_ble_eq_true rfl⟩ rfl (by decide) rfl (Nat.le_of_ble_eq_true rfl) h ?_
          intro M16 h
          refine w_aload_n dX5_latchLine_101 rfl ?_
          refine w_getR dX5_latchLine_102 fX5_12 rfl rfl rfl ?_
          refine k_vV (as := []) dX5_latchLine_105 kX5_79 ⟨⟨Nat.le_of_ble_eq_true rfl, rfl, rfl⟩, Nat.le_of_ble_eq_true rfl⟩ rfl (by decide) rfl (Nat.le_of_ble_eq_true rfl) h ?_
          intro M18 h
          refine w_iconst dX5_latchLine_108 ?_
          exact k_zret dX5_latchLine_109 rfl (by decide) h
        · have h := h.2 c
          refine w_iconst dX5_latchLine_84 ?_
          exact k_zret dX5_latchLine_85 rfl (by decide) h
      · have h := h.2 c
        refine w_aload_n dX5_latchLine_63 rfl ?_
        refine w_iconst dX5_latchLine_64 ?_
        refine k_vI (as := [pI 3]) dX5_latchLine_65 kX5_75 ⟨⟨Nat.le_of_ble_eq_true rfl, rfl, rfl⟩, Nat.le_of_ble_eq_true rfl⟩ rfl (by decide) rfl (Nat.le_of_ble_eq_true rfl) h ?_
        intro r19 M20 h
        obtain ⟨o21, h⟩ := h
        exact k_zret dX5_latchLine_68 rfl o21 h
    · have h := h.2 c
      refine w_aload_n dX5_latchLine_37 rfl ?_
      refine w_iconst dX5_latchLine_38 ?_
      refine k_vI (as := [pI 1]) dX5_latchLine_39 kX5_75 ⟨⟨Nat.le_of_ble_eq_true rfl, rfl, rfl⟩, Nat.le_of_ble_eq_true rfl⟩ rfl (by decide) rfl (Nat.le_of_ble_eq_true rfl) h ?_
      intro r22 M23 h
      obtain ⟨o24, h⟩ := h
      exact k_zret dX5_latchLine_42 rfl o24 h
  · have h := h.2 c
    refine w_aload_n dX5_latchLine_12 rfl ?_
    refine w_iconst dX5_latchLine_13 ?_
    refine k_vI (as := [pI 2]) dX5_latchLine_14 kX5_75 ⟨⟨Nat.le_of_ble_eq_true rfl, rfl, rfl⟩, Nat.le_of_ble_eq_true rfl⟩ rfl (by decide) rfl (Nat.le_of_ble_eq_true rfl) h ?_
    intro r25 M26 h
    obtain ⟨o27, h⟩ := h
    exact k_zret dX5_latchLine_17 rfl o27 h
theorem vX5_leanLine_0 {E : Scr} {f : Int → Mem → Prop} {M : Mem} (h : (CV E mX8_advance [pR 2] M (fun M2 => (CI E mX5_toldLatch [pR 1] M2 (fun r3 M4 => (iR r3) ∧ ((r3 ≠ 0 → ((iR (M4 2 7)) → (CI E mX1_numberOf [pR 5, pI (M4 2 7)] M4 (fun r7 M8 => (CI E mX1_doesLean [pR 5, pI r7] M8 (fun r9 M10 => (iR r9) ∧ ((r9 = 0 → (CV E mX8_advance [pR 2] M10 (fun M13 => ((iR (M13 15 3)) → (CI E mX5_formula [pR 1, pI r7] M13 (fun r15 M16 => (iR r15) ∧ ((r15 ≠ 0 → (CV E mX1_addLean [pR 5, pI r7, pI (M13 15 3)] M16 (fun M19 => f 1 M19))) ∧ (r15 = 0 → f 0 M16)))))))) ∧ (r9 ≠ 0 → (CI E mX5_fails [pR 1, pI 3] M10 (fun r20 M21 => (zR r20) ∧ f r20 M21)))))))))) ∧ (r3 = 0 → f 0 M4))))))) : CI E mX5_leanLine [pR 1] M f := by
  refine (show KW E mX5_leanLine (qI f) M 0 [(0, pR 1)] [] from ?_)
  refine w_aload_n dX5_leanLine_0 rfl ?_
  refine w_getR dX5_leanLine_1 fX5_12 rfl rfl rfl ?_
  refine k_vV (as := []) dX5_leanLine_4 kX5_79 ⟨⟨Nat.le_of_ble_eq_true rfl, rfl, rfl⟩, Nat.le_of_ble_eq_true rfl⟩ rfl (by decide) rfl (Nat.le_of_ble_eq_true rfl) h ?_
  intro M2 h
  refine w_aload_n dX5_leanLine_7 rfl ?_
  refine k_vI (as := []) dX5_leanLine_8 kX5_120 ⟨⟨Nat.le_of_ble_eq_true rfl, rfl, rfl⟩, Nat.le_of_ble_eq_true rfl⟩ rfl (by decide) rfl (Nat.le_of_ble_eq_true rfl) h ?_
  intro r3 M4 h
  obtain ⟨o5, h⟩ := h
  refine w_if_ne dX5_leanLine_11 rfl o5 (fun c => ?_) (fun c => ?_)
  · have h := h.1 c
    refine w_aload_n dX5_leanLine_16 rfl ?_
    refine w_getR dX5_leanLine_17 fX5_21 rfl rfl rfl ?_
    refine w_aload_n dX5_leanLine_20 rfl ?_
    refine w_getR dX5_leanLine_21 fX5_12 rfl rfl rfl ?_
    refine w_getI (x := (M4 2 7)) dX5_leanLine_24 fX5_106 rfl rfl rfl (fun g6 => ?_)
    have h := h g6
    refine k_vI (as := [pI (M4 2 7)]) dX5_leanLine_27 kX5_109 ⟨⟨Nat.le_of_ble_eq_true rfl, rfl, rfl⟩, Nat.le_of_ble_eq_true rfl⟩ rfl (by decide) rfl (Nat.le_of_ble_eq_true rfl) h ?_
    intro r7 M8 h
    refine w_istore_n dX5_leanLine_30 (by decide) ?_
    refine w_aload_n dX5_leanLine_31 rfl ?_
    refine w_getR dX5_leanLine_32 fX5_21 rfl rfl rfl ?_
    refine w_iload_n dX5_leanLine_35 rfl ?_
    refine k_vI (as := [pI r7]) dX5_leanLine_36 kX5_123 ⟨⟨Nat.le_of_ble_eq_true rfl, rfl, rfl⟩, Nat.le_of_ble_eq_true rfl⟩ rfl (by decide) rfl (Nat.le_of_ble_eq_true rfl) h ?_
    intro r9 M10 h
    obtain ⟨o11, h⟩ := h
    refine w_if_eq dX5_leanLine_39 rfl o11 (fun c => ?_) (fun c => ?_)
    · have h := h.1 c
      refine w_aload_n dX5_leanLine_48 rfl ?_
      refine w_getR dX5_leanLine_49 fX5_12 rfl rfl rfl ?_
      refine k_vV (as := []) dX5_leanLine_52 kX5_79 ⟨⟨Nat.le_of_ble_eq_true rfl, rfl, rfl⟩, Nat.le_of_ble_eq_true rfl⟩ rfl (by decide) rfl (Nat.le_of_ble_eq_true rfl) h ?_
      intro M13 h
      refine w_aload_n dX5_leanLine_55 rfl ?_
      refine w_getR dX5_leanLine_56 fX5_21 rfl rfl rfl ?_
      refine w_getR dX5_leanLine_59 fX5_126 rfl rfl rfl ?_
      refine w_getI (x := (M13 15 3)) dX5_leanLine_62 fX5_130 rfl rfl rfl (fun g14 => ?_)
      have h := h g14
      refine w_istore_n dX5_leanLine_65 (by decide) ?_
      refine w_aload_n dX5_leanLine_66 rfl ?_
      refine w_iload_n dX5_leanLine_67 rfl ?_
      refine k_vI (as := [pI r7]) dX5_leanLine_68 kX5_135 ⟨⟨Nat.le_of_ble_eq_true rfl, rfl, rfl⟩, Nat.le_of_ble_eq_true rfl⟩ rfl (by decide) rfl (Nat.le_of_ble_eq_true rfl) h ?_
      intro r15 M16 h
      obtain ⟨o17, h⟩ := h
      refine w_if_ne dX5_leanLine_71 rfl o17 (fun c => ?_) (fun c => ?_)
      · have h := h.1 c
        refine w_aload_n dX5_leanLine_76 rfl ?_
        refine w_getR dX5_leanLine_77 fX5_21 rfl rfl rfl ?_
        refine w_iload_n dX5_leanLine_80 rfl ?_
        refine w_iload_n dX5_leanLine_81 rfl ?_
        refine k_vV (as := [pI r7, pI (M13 15 3)]) dX5_leanLine_82 kX5_138 ⟨⟨Nat.le_of_ble_eq_true rfl, rfl, rfl⟩, Nat.le_of_ble_eq_true rfl⟩ rfl (by decide) rfl (Nat.le_of_ble_eq_true rfl) h ?_
        intro M19 h
        refine w_iconst dX5_leanLine_85 ?_
        exact k_zret dX5_leanLine_86 rfl (by decide) h
      · have h := h.2 c
        refine w_iconst dX5_leanLine_74 ?_
        exact k_zret dX5_leanLine_75 rfl (by decide) h
    · have h := h.2 c
      refine w_aload_n dX5_leanLine_42 rfl ?_
      refine w_iconst dX5_leanLine_43 ?_
      refine k_vI (as := [pI 3]) dX5_leanLine_44 kX5_75 ⟨⟨Nat.le_of_ble_eq_true rfl, rfl, rfl⟩, Nat.le_of_ble_eq_true rfl⟩ rfl (by decide) rfl (Nat.le_of_ble_eq_true rfl) h ?_
      intro r20 M21 h
      obtain ⟨o22, h⟩ := h
      exact k_zret dX5_leanLine_47 rfl o22 h
  · have h := h.2 c
    refine w_iconst dX5_leanLine_14 ?_
    exact k_zret dX5_leanLine_15 rfl (by decide) h
theorem vX5_pushLine_0 {E : Scr} {f : Int → Mem → Prop} {M : Mem} (h : ((iR (M 5 10)) → (((M 5 10) < 16 → (CV E mX8_advance [pR 2] M (fun M3 => (CI E mX5_toldLatch [pR 1] M3 (fun r4 M5 => (iR r4) ∧ ((r4 ≠ 0 → ((iR (M5 2 7)) → (CI E mX1_numberOf [pR 5, pI (M5 2 7)] M5 (fun r8 M9 => (CV E mX8_advance [pR 2] M9 (fun M11 => (CI E mX5_numberTo [pR 1, pI 99] M11 (fun r12 M13 => (iR r12) ∧ ((r12 ≠ 0 → ((iR (M13 2 7)) → (CV E mX1_addPush [pR 5, pI r8, pI (M13 2 7)] M13 (fun M17 => (CV E mX8_advance [pR 2] M17 (fun M19 => f 1 M19)))))) ∧ (r12 = 0 → f 0 M13)))))))))) ∧ (r4 = 0 → f 0 M5))))))) ∧ ((M 5 10) ≥ 16 → (CI E mX5_fails [pR 1, pI 2] M (fun r20 M21 => (zR r20) ∧ f r20 M21)))))) : CI E mX5_pushLine [pR 1] M f := by
  refine (show KW E mX5_pushLine (qI f) M 0 [(0, pR 1)] [] from ?_)
  refine w_aload_n dX5_pushLine_0 rfl ?_
  refine w_getR dX5_pushLine_1 fX5_21 rfl rfl rfl ?_
  refine w_getI (x := (M 5 10)) dX5_pushLine_4 fX5_141 rfl rfl rfl (fun g1 => ?_)
  have h := h g1
  refine w_bipush dX5_pushLine_7 (by decide) ?_
  refine w_icmp_lt dX5_pushLine_9 rfl ⟨g1, (by decide)⟩ (fun c => ?_) (fun c => ?_)
  · have h := h.1 c
    refine w_aload_n dX5_pushLine_18 rfl ?_
    refine w_getR dX5_pushLine_19 fX5_12 rfl rfl rfl ?_
    refine k_vV (as := []) dX5_pushLine_22 kX5_79 ⟨⟨Nat.le_of_ble_eq_true rfl, rfl, rfl⟩, Nat.le_of_ble_eq_true rfl⟩ rfl (by decide) rfl (Nat.le_of_ble_eq_true rfl) h ?_
    intro M3 h
    refine w_aload_n dX5_pushLine_25 rfl ?_
    refine k_vI (as := []) dX5_pushLine_26 kX5_120 ⟨⟨Nat.le_of_ble_eq_true rfl, rfl, rfl⟩, Nat.le_of_ble_eq_true rfl⟩ rfl (by decide) rfl (Nat.le_of_ble_eq_true rfl) h ?_
    intro r4 M5 h
    obtain ⟨o6, h⟩ := h
    refine w_if_ne dX5_pushLine_29 rfl o6 (fun c => ?_) (fun c => ?_)
    · have h := h.1 c
      refine w_aload_n dX5_pushLine_34 rfl ?_
      refine w_getR dX5_pushLine_35 fX5_21 rfl rfl rfl ?_
      refine w_aload_n dX5_pushLine_38 rfl ?_
      refine w_getR dX5_pushLine_39 fX5_12 rfl rfl rfl ?_
      refine w_getI (x := (M5 2 7)) dX5_pushLine_42 fX5_106 rfl rfl rfl (fun g7 => ?_)
      have h := h g7
      refine k_vI (as := [pI (M5 2 7)]) dX5_pushLine_45 kX5_109 ⟨⟨Nat.le_of_ble_eq_true rfl, rfl, rfl⟩, Nat.le_of_ble_eq_true rfl⟩ rfl (by decide) rfl (Nat.le_of_ble_eq_true rfl) h ?_
      intro r8 M9 h
      refine w_istore_n dX5_pushLine_48 (by decide) ?_
      refine w_aload_n dX5_pushLine_49 rfl ?_
      refine w_getR dX5_pushLine_50 fX5_12 rfl rfl rfl ?_
      refine k_vV (as := []) dX5_pushLine_53 kX5_79 ⟨⟨Nat.le_of_ble_eq_true rfl, rfl, rfl⟩, Nat.le_of_ble_eq_true rfl⟩ rfl (by decide) rfl (Nat.le_of_ble_eq_true rfl) h ?_
      intro M11 h
      refine w_aload_n dX5_pushLine_56 rfl ?_
      refine w_bipush dX5_pushLine_57 (by decide) ?_
      refine k_vI (as := [pI 99]) dX5_pushLine_59 kX5_113 ⟨⟨Nat.le_of_ble_eq_true rfl, rfl, rfl⟩, Nat.le_of_ble_eq_true rfl⟩ rfl (by decide) rfl (Nat.le_of_ble_eq_true rfl) h ?_
      intro r12 M13 h
      obtain ⟨o14, h⟩ := h
      refine w_if_ne dX5_pushLine_62 rfl o14 (fun c => ?_) (fun c => ?_)
      · have h := h.1 c
        refine w_aload_n dX5_pushLine_67 rfl ?_
        refine w_getR dX5_pushLine_68 fX5_21 rfl rfl rfl ?_
        refine w_iload_n dX5_pushLine_71 rfl ?_
        refine w_aload_n dX5_pushLine_72 rfl ?_
        refine w_getR dX5_pushLine_73 fX5_12 rfl rfl rfl ?_
        refine w_getI (x := (M13 2 7)) dX5_pushLine_76 fX5_106 rfl rfl rfl (fun g15 => ?_)
        have h := h g15
        refine k_vV (as := [pI r8, pI (M13 2 7)]) dX5_pushLine_79 kX5_144 ⟨⟨Nat.le_of_ble_eq_true rfl, rfl, rfl⟩, Nat.le_of_ble_eq_true rfl⟩ rfl (by decide) rfl (Nat.le_of_ble_eq_true rfl) h ?_
        intro M17 h
        refine w_aload_n dX5_pushLine_82 rfl ?_
        refine w_getR dX5_pushLine_83 fX5_12 rfl rfl rfl ?_
        refine k_vV (as := []) dX5_pushLine_86 kX5_79 ⟨⟨Nat.le_of_ble_eq_true rfl, rfl, rfl⟩, Nat.le_of_ble_eq_true rfl⟩ rfl (by decide) rfl (Nat.le_of_ble_eq_true rfl) h ?_
        intro M19 h
        refine w_iconst dX5_pushLine_89 ?_
        exact k_zret dX5_pushLine_90 rfl (by decide) h
      · have h := h.2 c
        refine w_iconst dX5_pushLine_65 ?_
        exact k_zret dX5_pushLine_66 rfl (by decide) h
    · have h := h.2 c
      refine w_iconst dX5_pushLine_32 ?_
      exact k_zret dX5_pushLine_33 rfl (by decide) h
  · have h := h.2 c
    refine w_aload_n dX5_pushLine_12 rfl ?_
    refine w_iconst dX5_pushLine_13 ?_
    refine k_vI (as := [pI 2]) dX5_pushLine_14 kX5_75 ⟨⟨Nat.le_of_ble_eq_true rfl, rfl, rfl⟩, Nat.le_of_ble_eq_true rfl⟩ rfl (by decide) rfl (Nat.le_of_ble_eq_true rfl) h ?_
    intro r20 M21 h
    obtain ⟨o22, h⟩ := h
    exact k_zret dX5_pushLine_17 rfl o22 h
theorem vX5_oilLine_0 {E : Scr} {f : Int → Mem → Prop} {M : Mem} (h : ((iR (M 5 13)) → (((M 5 13) < 4 → (CV E mX8_advance [pR 2] M (fun M3 => (CI E mX5_numberTo [pR 1, pI 99] M3 (fun r4 M5 => (iR r4) ∧ ((r4 ≠ 0 → ((iR (M5 2 7)) → (CV E mX1_addOil [pR 5, pI (M5 2 7)] M5 (fun M9 => (CV E mX8_advance [pR 2] M9 (fun M11 => f 1 M11)))))) ∧ (r4 = 0 → f 0 M5))))))) ∧ ((M 5 13) ≥ 4 → (CI E mX5_fails [pR 1, pI 2] M (fun r12 M13 => (zR r12) ∧ f r12 M13)))))) : CI E mX5_oilLine [pR 1] M f := by
  refine (show KW E mX5_oilLine (qI f) M 0 [(0, pR 1)] [] from ?_)
  refine w_aload_n dX5_oilLine_0 rfl ?_
  refine w_getR dX5_oilLine_1 fX5_21 rfl rfl rfl ?_
  refine w_getI (x := (M 5 13)) dX5_oilLine_4 fX5_147 rfl rfl rfl (fun g1 => ?_)
  have h := h g1
  refine w_iconst dX5_oilLine_7 ?_
  refine w_icmp_lt dX5_oilLine_8 rfl ⟨g1, (by decide)⟩ (fun c => ?_) (fun c => ?_)
  · have h := h.1 c
    refine w_aload_n dX5_oilLine_17 rfl ?_
    refine w_getR dX5_oilLine_18 fX5_12 rfl rfl rfl ?_
    refine k_vV (as := []) dX5_oilLine_21 kX5_79 ⟨⟨Nat.le_of_ble_eq_true rfl, rfl, rfl⟩, Nat.le_of_ble_eq_true rfl⟩ rfl (by decide) rfl (Nat.le_of_ble_eq_true rfl) h ?_
    intro M3 h
    refine w_aload_n dX5_oilLine_24 rfl ?_
    refine w_bipush dX5_oilLine_25 (by decide) ?_
    refine k_vI (as := [pI 99]) dX5_oilLine_27 kX5_113 ⟨⟨Nat.le_of_ble_eq_true rfl, rfl, rfl⟩, Nat.le_of_ble_eq_true rfl⟩ rfl (by decide) rfl (Nat.le_of_ble_eq_true rfl) h ?_
    intro r4 M5 h
    obtain ⟨o6, h⟩ := h
    refine w_if_ne dX5_oilLine_30 rfl o6 (fun c => ?_) (fun c => ?_)
    · have h := h.1 c
      refine w_aload_n dX5_oilLine_35 rfl ?_
      refine w_getR dX5_oilLine_36 fX5_21 rfl rfl rfl ?_
      refine w_aload_n dX5_oilLine_39 rfl ?_
      refine w_getR dX5_oilLine_40 fX5_12 rfl rfl rfl ?_
      refine w_getI (x := (M5 2 7)) dX5_oilLine_43 fX5_106 rfl rfl rfl (fun g7 => ?_)
      have h := h g7
      refine k_vV (as := [pI (M5 2 7)]) dX5_oilLine_46 kX5_150 ⟨⟨Nat.le_of_ble_eq_true rfl, rfl, rfl⟩, Nat.le_of_ble_eq_true rfl⟩ rfl (by decide) rfl (Nat.le_of_ble_eq_true rfl) h ?_
      intro M9 h
      refine w_aload_n dX5_oilLine_49 rfl ?_
      refine w_getR dX5_oilLine_50 fX5_12 rfl rfl rfl ?_
      refine k_vV (as := []) dX5_oilLine_53 kX5_79 ⟨⟨Nat.le_of_ble_eq_true rfl, rfl, rfl⟩, Nat.le_of_ble_eq_true rfl⟩ rfl (by decide) rfl (Nat.le_of_ble_eq_true rfl) h ?_
      intro M11 h
      refine w_iconst dX5_oilLine_56 ?_
      exact k_zret dX5_oilLine_57 rfl (by decide) h
    · have h := h.2 c
      refine w_iconst dX5_oilLine_33 ?_
      exact k_zret dX5_oilLine_34 rfl (by decide) h
  · have h := h.2 c
    refine w_aload_n dX5_oilLine_11 rfl ?_
    refine w_iconst dX5_oilLine_12 ?_
    refine k_vI (as := [pI 2]) dX5_oilLine_13 kX5_75 ⟨⟨Nat.le_of_ble_eq_true rfl, rfl, rfl⟩, Nat.le_of_ble_eq_true rfl⟩ rfl (by decide) rfl (Nat.le_of_ble_eq_true rfl) h ?_
    intro r12 M13 h
    obtain ⟨o14, h⟩ := h
    exact k_zret dX5_oilLine_16 rfl o14 h
theorem vX5_rustLine_0 {E : Scr} {f : Int → Mem → Prop} {M : Mem} (h : ((zR (M 1 7)) → (CI E mX5_once [pR 1, pI (M 1 7), pI 100] M (fun r2 M3 => (iR r2) ∧ ((r2 ≠ 0 → ((iR (M3 2 7)) → (CV E mX8_advance [pR 2] (upM (upM M3 1 7 1) 5 15 (M3 2 7)) (fun M7 => f 1 M7)))) ∧ (r2 = 0 → f 0 M3)))))) : CI E mX5_rustLine [pR 1] M f := by
  refine (show KW E mX5_rustLine (qI f) M 0 [(0, pR 1)] [] from ?_)
  refine w_aload_n dX5_rustLine_0 rfl ?_
  refine w_aload_n dX5_rustLine_1 rfl ?_
  refine w_getZ (x := (M 1 7)) dX5_rustLine_2 fX5_42 rfl rfl rfl (fun g1 => ?_)
  have h := h g1
  refine w_bipush dX5_rustLine_5 (by decide) ?_
  refine k_vI (as := [pI (M 1 7), pI 100]) dX5_rustLine_7 kX5_153 ⟨⟨Nat.le_of_ble_eq_true rfl, rfl, rfl⟩, Nat.le_of_ble_eq_true rfl⟩ rfl (by decide) rfl (Nat.le_of_ble_eq_true rfl) h ?_
  intro r2 M3 h
  obtain ⟨o4, h⟩ := h
  refine w_if_ne dX5_rustLine_10 rfl o4 (fun c => ?_) (fun c => ?_)
  · have h := h.1 c
    refine w_aload_n dX5_rustLine_15 rfl ?_
    refine w_iconst dX5_rustLine_16 ?_
    refine w_putZ dX5_rustLine_17 (Or.inl ⟨rfl, fX5_42⟩) rfl rfl (by decide) ?_
    refine w_aload_n dX5_rustLine_20 rfl ?_
    refine w_getR dX5_rustLine_21 fX5_21 rfl rfl rfl ?_
    refine w_aload_n dX5_rustLine_24 rfl ?_
    refine w_getR dX5_rustLine_25 fX5_12 rfl rfl rfl ?_
    refine w_getI (x := (M3 2 7)) dX5_rustLine_28 fX5_106 rfl rfl rfl (fun g5 => ?_)
    have h := h g5
    refine w_putI dX5_rustLine_31 (Or.inl ⟨rfl, fX5_157⟩) rfl rfl g5 ?_
    refine w_aload_n dX5_rustLine_34 rfl ?_
    refine w_getR dX5_rustLine_35 fX5_12 rfl rfl rfl ?_
    refine k_vV (as := []) dX5_rustLine_38 kX5_79 ⟨⟨Nat.le_of_ble_eq_true rfl, rfl, rfl⟩, Nat.le_of_ble_eq_true rfl⟩ rfl (by decide) rfl (Nat.le_of_ble_eq_true rfl) h ?_
    intro M7 h
    refine w_iconst dX5_rustLine_41 ?_
    exact k_zret dX5_rustLine_42 rfl (by decide) h
  · have h := h.2 c
    refine w_iconst dX5_rustLine_13 ?_
    exact k_zret dX5_rustLine_14 rfl (by decide) h
theorem vX5_seedLine_0 {E : Scr} {f : Int → Mem → Prop} {M : Mem} (h : ((zR (M 1 8)) → (CI E mX5_once [pR 1, pI (M 1 8), pI 99999] M (fun r2 M3 => (iR r2) ∧ ((r2 ≠ 0 → ((iR (M3 2 7)) → (CV E mX8_advance [pR 2] (upM (upM M3 1 8 1) 5 16 (M3 2 7)) (fun M7 => f 1 M7)))) ∧ (r2 = 0 → f 0 M3)))))) : CI E mX5_seedLine [pR 1] M f := by
  refine (show KW E mX5_seedLine (qI f) M 0 [(0, pR 1)] [] from ?_)
  refine w_aload_n dX5_seedLine_0 rfl ?_
  refine w_aload_n dX5_seedLine_1 rfl ?_
  refine w_getZ (x := (M 1 8)) dX5_seedLine_2 fX5_46 rfl rfl rfl (fun g1 => ?_)
  have h := h g1
  refine w_ldc dX5_seedLine_5 qX5_160 ?_
  refine k_vI (as := [pI (M 1 8), pI 99999]) dX5_seedLine_7 kX5_153 ⟨⟨Nat.le_of_ble_eq_true rfl, rfl, rfl⟩, Nat.le_of_ble_eq_true rfl⟩ rfl (by decide) rfl (Nat.le_of_ble_eq_true rfl) h ?_
  intro r2 M3 h
  obtain ⟨o4, h⟩ := h
  refine w_if_ne dX5_seedLine_10 rfl o4 (fun c => ?_) (fun c => ?_)
  · have h := h.1 c
    refine w_aload_n dX5_seedLine_15 rfl ?_
    refine w_iconst dX5_seedLine_16 ?_
    refine w_putZ dX5_seedLine_17 (Or.inl ⟨rfl, fX5_46⟩) rfl rfl (by decide) ?_
    refine w_aload_n dX5_seedLine_20 rfl ?_
    refine w_getR dX5_seedLine_21 fX5_21 rfl rfl rfl ?_
    refine w_aload_n dX5_seedLine_24 rfl ?_
    refine w_getR dX5_seedLine_25 fX5_12 rfl rfl rfl ?_
    refine w_getI (x := (M3 2 7)) dX5_seedLine_28 fX5_106 rfl rfl rfl (fun g5 => ?_)
    have h := h g5
    refine w_putI dX5_seedLine_31 (Or.inl ⟨rfl, fX5_161⟩) rfl rfl g5 ?_
    refine w_aload_n dX5_seedLine_34 rfl ?_
    refine w_getR dX5_seedLine_35 fX5_12 rfl rfl rfl ?_
    refine k_vV (as := []) dX5_seedLine_38 kX5_79 ⟨⟨Nat.le_of_ble_eq_true rfl, rfl, rfl⟩, Nat.le_of_ble_eq_true rfl⟩ rfl (by decide) rfl (Nat.le_of_ble_eq_true rfl) h ?_
    intro M7 h
    refine w_iconst dX5_seedLine_41 ?_
    exact k_zret dX5_seedLine_42 rfl (by decide) h
  · have h := h.2 c
    refine w_iconst dX5_seedLine_13 ?_
    exact k_zret dX5_seedLine_14 rfl (by decide) h
theorem vX5_once_0 {E : Scr} {f : Int → Mem → Prop} {M : Mem} (x1 x2 : Int) (h : (iR x1) ∧ ((x1 = 0 → (CV E mX8_advance [pR 2] M (fun M3 => (CI E mX5_numberTo [pR 1, pI x2] M3 (fun r4 M5 => (zR r4) ∧ f r4 M5))))) ∧ (x1 ≠ 0 → (CI E mX5_fails [pR 1, pI 3] M (fun r7 M8 => (zR r7) ∧ f r7 M8))))) : CI E mX5_once [pR 1, pI x1, pI x2] M f := by
  refine (show KW E mX5_once (qI f) M 0 [(0, pR 1), (1, pI x1), (2, pI x2)] [] from ?_)
  refine w_iload_n dX5_once_0 rfl ?_
  obtain ⟨o1, h⟩ := h
  refine w_if_eq dX5_once_1 rfl o1 (fun c => ?_) (fun c => ?_)
  · have h := h.1 c
    refine w_aload_n dX5_once_10 rfl ?_
    refine w_getR dX5_once_11 fX5_12 rfl rfl rfl ?_
    refine k_vV (as := []) dX5_once_14 kX5_79 ⟨⟨Nat.le_of_ble_eq_true rfl, rfl, rfl⟩, Nat.le_of_ble_eq_true rfl⟩ rfl (by decide) rfl (Nat.le_of_ble_eq_true rfl) h ?_
    intro M3 h
    refine w_aload_n dX5_once_17 rfl ?_
    refine w_iload_n dX5_once_18 rfl ?_
    refine k_vI (as := [pI x2]) dX5_once_19 kX5_113 ⟨⟨Nat.le_of_ble_eq_true rfl, rfl, rfl⟩, Nat.le_of_ble_eq_true rfl⟩ rfl (by decide) rfl (Nat.le_of_ble_eq_true rfl) h ?_
    intro r4 M5 h
    obtain ⟨o6, h⟩ := h
    exact k_zret dX5_once_22 rfl o6 h
  · have h := h.2 c
    refine w_aload_n dX5_once_4 rfl ?_
    refine w_iconst dX5_once_5 ?_
    refine k_vI (as := [pI 3]) dX5_once_6 kX5_75 ⟨⟨Nat.le_of_ble_eq_true rfl, rfl, rfl⟩, Nat.le_of_ble_eq_true rfl⟩ rfl (by decide) rfl (Nat.le_of_ble_eq_true rfl) h ?_
    intro r7 M8 h
    obtain ⟨o9, h⟩ := h
    exact k_zret dX5_once_9 rfl o9 h
theorem vX5_lawLine_0 {E : Scr} {f : Int → Mem → Prop} {M : Mem} (h : (CV E mX8_advance [pR 2] M (fun M2 => ((iR (M2 2 5)) → ((iR (M2 2 5)) → (((M2 2 5) < 7 → (CI E mX5_fails [pR 1, pI 1] M2 (fun r5 M6 => (zR r5) ∧ f r5 M6))) ∧ ((M2 2 5) ≥ 7 → ((iR (M2 2 5)) → (((M2 2 5) ≤ 9 → (CI E mX1_hasLaw [pR 5, pI ((M2 2 5) - 7)] M2 (fun r9 M10 => (iR r9) ∧ ((r9 = 0 → (CV E mX8_advance [pR 2] M10 (fun M13 => ((iR (M13 15 3)) → (CI E mX5_formula [pR 1, pI (-1)] M13 (fun r15 M16 => (iR r15) ∧ ((r15 ≠ 0 → (CV E mX1_addLaw [pR 5, pI ((M2 2 5) - 7), pI (M13 15 3)] M16 (fun M19 => f 1 M19))) ∧ (r15 = 0 → f 0 M16)))))))) ∧ (r9 ≠ 0 → (CI E mX5_fails [pR 1, pI 3] M10 (fun r20 M21 => (zR r20) ∧ f r20 M21))))))) ∧ ((M2 2 5) > 9 → (CI E mX5_fails [pR 1, pI 1] M2 (fun r23 M24 => (zR r23) ∧ f r23 M24)))))))))))) : CI E mX5_lawLine [pR 1] M f := by
  refine (show KW E mX5_lawLine (qI f) M 0 [(0, pR 1)] [] from ?_)
  refine w_aload_n dX5_lawLine_0 rfl ?_
  refine w_getR dX5_lawLine_1 fX5_12 rfl rfl rfl ?_
  refine k_vV (as := []) dX5_lawLine_4 kX5_79 ⟨⟨Nat.le_of_ble_eq_true rfl, rfl, rfl⟩, Nat.le_of_ble_eq_true rfl⟩ rfl (by decide) rfl (Nat.le_of_ble_eq_true rfl) h ?_
  intro M2 h
  refine w_aload_n dX5_lawLine_7 rfl ?_
  refine w_getR dX5_lawLine_8 fX5_12 rfl rfl rfl ?_
  refine w_getI (x := (M2 2 5)) dX5_lawLine_11 fX5_56 rfl rfl rfl (fun g3 => ?_)
  have h := h g3
  refine w_bipush dX5_lawLine_14 (by decide) ?_
  refine w_isub dX5_lawLine_16 ?_
  refine w_istore_n dX5_lawLine_17 (by decide) ?_
  refine w_aload_n dX5_lawLine_18 rfl ?_
  refine w_getR dX5_lawLine_19 fX5_12 rfl rfl rfl ?_
  refine w_getI (x := (M2 2 5)) dX5_lawLine_22 fX5_56 rfl rfl rfl (fun g4 => ?_)
  have h := h g4
  refine w_bipush dX5_lawLine_25 (by decide) ?_
  refine w_icmp_lt dX5_lawLine_27 rfl ⟨g4, (by decide)⟩ (fun c => ?_) (fun c => ?_)
  · have h := h.1 c
    refine w_aload_n dX5_lawLine_42 rfl ?_
    refine w_iconst dX5_lawLine_43 ?_
    refine k_vI (as := [pI 1]) dX5_lawLine_44 kX5_75 ⟨⟨Nat.le_of_ble_eq_true rfl, rfl, rfl⟩, Nat.le_of_ble_eq_true rfl⟩ rfl (by decide) rfl (Nat.le_of_ble_eq_true rfl) h ?_
    intro r5 M6 h
    obtain ⟨o7, h⟩ := h
    exact k_zret dX5_lawLine_47 rfl o7 h
  · have h := h.2 c
    refine w_aload_n dX5_lawLine_30 rfl ?_
    refine w_getR dX5_lawLine_31 fX5_12 rfl rfl rfl ?_
    refine w_getI (x := (M2 2 5)) dX5_lawLine_34 fX5_56 rfl rfl rfl (fun g8 => ?_)
    have h := h g8
    refine w_bipush dX5_lawLine_37 (by decide) ?_
    refine w_icmp_le dX5_lawLine_39 rfl ⟨g8, (by decide)⟩ (fun c => ?_) (fun c => ?_)
    · have h := h.1 c
      refine w_aload_n dX5_lawLine_48 rfl ?_
      refine w_getR dX5_lawLine_49 fX5_21 rfl rfl rfl ?_
      refine w_iload_n dX5_lawLine_52 rfl ?_
      refine k_vI (as := [pI ((M2 2 5) - 7)]) dX5_lawLine_53 kX5_164 ⟨⟨Nat.le_of_ble_eq_true rfl, rfl, rfl⟩, Nat.le_of_ble_eq_true rfl⟩ rfl (by decide) rfl (Nat.le_of_ble_eq_true rfl) h ?_
      intro r9 M10 h
      obtain ⟨o11, h⟩ := h
      refine w_if_eq dX5_lawLine_56 rfl o11 (fun c => ?_) (fun c => ?_)
      · have h := h.1 c
        refine w_aload_n dX5_lawLine_65 rfl ?_
        refine w_getR dX5_lawLine_66 fX5_12 rfl rfl rfl ?_
        refine k_vV (as := []) dX5_lawLine_69 kX5_79 ⟨⟨Nat.le_of_ble_eq_true rfl, rfl, rfl⟩, Nat.le_of_ble_eq_true rfl⟩ rfl (by decide) rfl (Nat.le_of_ble_eq_true rfl) h ?_
        intro M13 h
        refine w_aload_n dX5_lawLine_72 rfl ?_
        refine w_getR dX5_lawLine_73 fX5_21 rfl rfl rfl ?_
        refine w_getR dX5_lawLine_76 fX5_126 rfl rfl rfl ?_
        refine w_getI (x := (M13 15 3)) dX5_lawLine_79 fX5_130 rfl rfl rfl (fun g14 => ?_)
        have h := h g14
        refine w_istore_n dX5_lawLine_82 (by decide) ?_
        refine w_aload_n dX5_lawLine_83 rfl ?_
        refine w_iconst dX5_lawLine_84 ?_
        refine k_vI (as := [pI (-1)]) dX5_lawLine_85 kX5_135 ⟨⟨Nat.le_of_ble_eq_true rfl, rfl, rfl⟩, Nat.le_of_ble_eq_true rfl⟩ rfl (by decide) rfl (Nat.le_of_ble_eq_true rfl) h ?_
        intro r15 M16 h
        obtain ⟨o17, h⟩ := h
        refine w_if_ne dX5_lawLine_88 rfl o17 (fun c => ?_) (fun c => ?_)
        · have h := h.1 c
          refine w_aload_n dX5_lawLine_93 rfl ?_
          refine w_getR dX5_lawLine_94 fX5_21 rfl rfl rfl ?_
          refine w_iload_n dX5_lawLine_97 rfl ?_
          refine w_iload_n dX5_lawLine_98 rfl ?_
          refine k_vV (as := [pI ((M2 2 5) - 7), pI (M13 15 3)]) dX5_lawLine_99 kX5_167 ⟨⟨Nat.le_of_ble_eq_true rfl, rfl, rfl⟩, Nat.le_of_ble_eq_true rfl⟩ rfl (by decide) rfl (Nat.le_of_ble_eq_true rfl) h ?_
          intro M19 h
          refine w_iconst dX5_lawLine_102 ?_
          exact k_zret dX5_lawLine_103 rfl (by decide) h
        · have h := h.2 c
          refine w_iconst dX5_lawLine_91 ?_
          exact k_zret dX5_lawLine_92 rfl (by decide) h
      · have h := h.2 c
        refine w_aload_n dX5_lawLine_59 rfl ?_
        refine w_iconst dX5_lawLine_60 ?_
        refine k_vI (as := [pI 3]) dX5_lawLine_61 kX5_75 ⟨⟨Nat.le_of_ble_eq_true rfl, rfl, rfl⟩, Nat.le_of_ble_eq_true rfl⟩ rfl (by decide) rfl (Nat.le_of_ble_eq_true rfl) h ?_
        intro r20 M21 h
        obtain ⟨o22, h⟩ := h
        exact k_zret dX5_lawLine_64 rfl o22 h
    · have h := h.2 c
      refine w_aload_n dX5_lawLine_42 rfl ?_
      refine w_iconst dX5_lawLine_43 ?_
      refine k_vI (as := [pI 1]) dX5_lawLine_44 kX5_75 ⟨⟨Nat.le_of_ble_eq_true rfl, rfl, rfl⟩, Nat.le_of_ble_eq_true rfl⟩ rfl (by decide) rfl (Nat.le_of_ble_eq_true rfl) h ?_
      intro r23 M24 h
      obtain ⟨o25, h⟩ := h
      exact k_zret dX5_lawLine_47 rfl o25 h
theorem vX5_numberTo_0 {E : Scr} {f : Int → Mem → Prop} {M : Mem} (x1 : Int) (h : ((iR (M 2 5)) → (((M 2 5) = 37 → ((iR (M 2 7)) → (iR x1) ∧ (((M 2 7) ≤ x1 → f 1 M) ∧ ((M 2 7) > x1 → (CI E mX5_fails [pR 1, pI 2] M (fun r4 M5 => (iR r4) ∧ ((r4 = 0 → f 0 M5) ∧ (r4 ≠ 0 → f 1 M5)))))))) ∧ ((M 2 5) ≠ 37 → (CI E mX5_fails [pR 1, pI 1] M (fun r7 M8 => (zR r7) ∧ f r7 M8)))))) : CI E mX5_numberTo [pR 1, pI x1] M f := by
  refine (show KW E mX5_numberTo (qI f) M 0 [(0, pR 1), (1, pI x1)] [] from ?_)
  refine w_aload_n dX5_numberTo_0 rfl ?_
  refine w_getR dX5_numberTo_1 fX5_12 rfl rfl rfl ?_
  refine w_getI (x := (M 2 5)) dX5_numberTo_4 fX5_56 rfl rfl rfl (fun g1 => ?_)
  have h := h g1
  refine w_bipush dX5_numberTo_7 (by decide) ?_
  refine w_icmp_eq dX5_numberTo_9 rfl ⟨g1, (by decide)⟩ (fun c => ?_) (fun c => ?_)
  · have h := h.1 c
    refine w_aload_n dX5_numberTo_18 rfl ?_
    refine w_getR dX5_numberTo_19 fX5_12 rfl rfl rfl ?_
    refine w_getI (x := (M 2 7)) dX5_numberTo_22 fX5_106 rfl rfl rfl (fun g2 => ?_)
    have h := h g2
    refine w_iload_n dX5_numberTo_25 rfl ?_
    obtain ⟨o3, h⟩ := h
    refine w_icmp_le dX5_numberTo_26 rfl ⟨g2, o3⟩ (fun c => ?_) (fun c => ?_)
    · have h := h.1 c
      refine w_iconst dX5_numberTo_37 ?_
      refine w_goto dX5_numberTo_38 rfl ?_
      exact k_zret dX5_numberTo_42 rfl (by decide) h
    · have h := h.2 c
      refine w_aload_n dX5_numberTo_29 rfl ?_
      refine w_iconst dX5_numberTo_30 ?_
      refine k_vI (as := [pI 2]) dX5_numberTo_31 kX5_75 ⟨⟨Nat.le_of_ble_eq_true rfl, rfl, rfl⟩, Nat.le_of_ble_eq_true rfl⟩ rfl (by decide) rfl (Nat.le_of_ble_eq_true rfl) h ?_
      intro r4 M5 h
      obtain ⟨o6, h⟩ := h
      refine w_if_eq dX5_numberTo_34 rfl o6 (fun c => ?_) (fun c => ?_)
      · have h := h.1 c
        refine w_iconst dX5_numberTo_41 ?_
        exact k_zret dX5_numberTo_42 rfl (by decide) h
      · have h := h.2 c
        refine w_iconst dX5_numberTo_37 ?_
        refine w_goto dX5_numberTo_38 rfl ?_
        exact k_zret dX5_numberTo_42 rfl (by decide) h
  · have h := h.2 c
    refine w_aload_n dX5_numberTo_12 rfl ?_
    refine w_iconst dX5_numberTo_13 ?_
    refine k_vI (as := [pI 1]) dX5_numberTo_14 kX5_75 ⟨⟨Nat.le_of_ble_eq_true rfl, rfl, rfl⟩, Nat.le_of_ble_eq_true rfl⟩ rfl (by decide) rfl (Nat.le_of_ble_eq_true rfl) h ?_
    intro r7 M8 h
    obtain ⟨o9, h⟩ := h
    exact k_zret dX5_numberTo_17 rfl o9 h
theorem vX5_toldLatch_0 {E : Scr} {f : Int → Mem → Prop} {M : Mem} (h : ((iR (M 2 5)) → (((M 2 5) = 38 → ((iR (M 2 7)) → (CI E mX1_numberOf [pR 5, pI (M 2 7)] M (fun r3 M4 => (iR r3) ∧ ((r3 ≠ (-1) → f 1 M4) ∧ (r3 = (-1) → (CI E mX5_fails [pR 1, pI 4] M4 (fun r6 M7 => (iR r6) ∧ ((r6 = 0 → f 0 M7) ∧ (r6 ≠ 0 → f 1 M7)))))))))) ∧ ((M 2 5) ≠ 38 → (CI E mX5_fails [pR 1, pI 1] M (fun r9 M10 => (zR r9) ∧ f r9 M10)))))) : CI E mX5_toldLatch [pR 1] M f := by
  refine (show KW E mX5_toldLatch (qI f) M 0 [(0, pR 1)] [] from ?_)
  refine w_aload_n dX5_toldLatch_0 rfl ?_
  refine w_getR dX5_toldLatch_1 fX5_12 rfl rfl rfl ?_
  refine w_getI (x := (M 2 5)) dX5_toldLatch_4 fX5_56 rfl rfl rfl (fun g1 => ?_)
  have h := h g1
  refine w_bipush dX5_toldLatch_7 (by decide) ?_
  refine w_icmp_eq dX5_toldLatch_9 rfl ⟨g1, (by decide)⟩ (fun c => ?_) (fun c => ?_)
  · have h := h.1 c
    refine w_aload_n dX5_toldLatch_18 rfl ?_
    refine w_getR dX5_toldLatch_19 fX5_21 rfl rfl rfl ?_
    refine w_aload_n dX5_toldLatch_22 rfl ?_
    refine w_getR dX5_toldLatch_23 fX5_12 rfl rfl rfl ?_
    refine w_getI (x := (M 2 7)) dX5_toldLatch_26 fX5_106 rfl rfl rfl (fun g2 => ?_)
    have h := h g2
    refine k_vI (as := [pI (M 2 7)]) dX5_toldLatch_29 kX5_109 ⟨⟨Nat.le_of_ble_eq_true rfl, rfl, rfl⟩, Nat.le_of_ble_eq_true rfl⟩ rfl (by decide) rfl (Nat.le_of_ble_eq_true rfl) h ?_
    intro r3 M4 h
    refine w_iconst dX5_toldLatch_32 ?_
    obtain ⟨o5, h⟩ := h
    refine w_icmp_ne dX5_toldLatch_33 rfl ⟨o5, (by decide)⟩ (fun c => ?_) (fun c => ?_)
    · have h := h.1 c
      refine w_iconst dX5_toldLatch_44 ?_
      refine w_goto dX5_toldLatch_45 rfl ?_
      exact k_zret dX5_toldLatch_49 rfl (by decide) h
    · have h := h.2 c
      refine w_aload_n dX5_toldLatch_36 rfl ?_
      refine w_iconst dX5_toldLatch_37 ?_
      refine k_vI (as := [pI 4]) dX5_toldLatch_38 kX5_75 ⟨⟨Nat.le_of_ble_eq_true rfl, rfl, rfl⟩, Nat.le_of_ble_eq_true rfl⟩ rfl (by decide) rfl (Nat.le_of_ble_eq_true rfl) h ?_
      intro r6 M7 h
      obtain ⟨o8, h⟩ := h
      refine w_if_eq dX5_toldLatch_41 rfl o8 (fun c => ?_) (fun c => ?_)
      · have h := h.1 c
        refine w_iconst dX5_toldLatch_48 ?_
        exact k_zret dX5_toldLatch_49 rfl (by decide) h
      · have h := h.2 c
        refine w_iconst dX5_toldLatch_44 ?_
        refine w_goto dX5_toldLatch_45 rfl ?_
        exact k_zret dX5_toldLatch_49 rfl (by decide) h
  · have h := h.2 c
    refine w_aload_n dX5_toldLatch_12 rfl ?_
    refine w_iconst dX5_toldLatch_13 ?_
    refine k_vI (as := [pI 1]) dX5_toldLatch_14 kX5_75 ⟨⟨Nat.le_of_ble_eq_true rfl, rfl, rfl⟩, Nat.le_of_ble_eq_true rfl⟩ rfl (by decide) rfl (Nat.le_of_ble_eq_true rfl) h ?_
    intro r9 M10 h
    obtain ⟨o11, h⟩ := h
    exact k_zret dX5_toldLatch_17 rfl o11 h
theorem vX5_formula_0 {E : Scr} {f : Int → Mem → Prop} {M : Mem} (x1 : Int) (h : (KW E mX5_formula (qI f) (upM (upM (upM M 1 3 0) 1 4 0) 1 5 (-1)) 19 [(0, pR 1), (1, pI x1), (2, pI 1), (3, pI 0)] [])) : CI E mX5_formula [pR 1, pI x1] M f := by
  refine (show KW E mX5_formula (qI f) M 0 [(0, pR 1), (1, pI x1)] [] from ?_)
  refine w_aload_n dX5_formula_0 rfl ?_
  refine w_iconst dX5_formula_1 ?_
  refine w_putI dX5_formula_2 (Or.inl ⟨rfl, fX5_170⟩) rfl rfl (by decide) ?_
  refine w_aload_n dX5_formula_5 rfl ?_
  refine w_iconst dX5_formula_6 ?_
  refine w_putI dX5_formula_7 (Or.inl ⟨rfl, fX5_173⟩) rfl rfl (by decide) ?_
  refine w_aload_n dX5_formula_10 rfl ?_
  refine w_iconst dX5_formula_11 ?_
  refine w_putI dX5_formula_12 (Or.inl ⟨rfl, fX5_29⟩) rfl rfl (by decide) ?_
  refine w_iconst dX5_formula_15 ?_
  refine w_istore_n dX5_formula_16 (by decide) ?_
  refine w_iconst dX5_formula_17 ?_
  refine w_istore_n dX5_formula_18 (by decide) ?_
  exact k_pick [2, 3, 1, 0] rfl h
theorem vX5_formula_19 {E : Scr} {f : Int → Mem → Prop} {M : Mem} (x1 x2 x3 : Int) (h : (iR x3) ∧ ((x3 > 700 → (CI E mX5_fails [pR 1, pI 1] M (fun r2 M3 => (zR r2) ∧ f r2 M3))) ∧ (x3 ≤ 700 → ((iR (M 1 5)) → (((M 1 5) = (-1) → (iR x2) ∧ ((x2 ≠ 0 → (KW E mX5_formula (qI f) M 74 [(0, pR 1), (1, pI x1), (2, pI x2), (3, pI x3)] [])) ∧ (x2 = 0 → ((iR (M 2 5)) → (((M 2 5) ≠ 24 → (KW E mX5_formula (qI f) M 74 [(0, pR 1), (1, pI x1), (2, pI x2), (3, pI x3)] [])) ∧ ((M 2 5) = 24 → ((iR (M 1 4)) → (((M 1 4) ≠ 0 → (KW E mX5_formula (qI f) M 74 [(0, pR 1), (1, pI x1), (2, pI x2), (3, pI x3)] [])) ∧ ((M 1 4) = 0 → (CV E mX5_settlePending [pR 1, pI 1] M (fun M10 => f 1 M10))))))))))) ∧ ((M 1 5) ≠ (-1) → (CI E mX5_asks [pR 1, pI x1] M (fun r11 M12 => (iR r11) ∧ ((r11 ≠ 0 → (KW E mX5_formula (qI f) M12 212 [(0, pR 1), (1, pI x1), (2, pI x2), (3, pI x3)] [])) ∧ (r11 = 0 → f 0 M12)))))))))) : KW E mX5_formula (qI f) M 19 [(0, pR 1), (1, pI x1), (2, pI x2), (3, pI x3)] [] := by
  refine w_iload_n dX5_formula_19 rfl ?_
  refine w_sipush dX5_formula_20 (by decide) ?_
  obtain ⟨o1, h⟩ := h
  refine w_icmp_gt dX5_formula_23 rfl ⟨o1, (by decide)⟩ (fun c => ?_) (fun c => ?_)
  · have h := h.1 c
    refine w_aload_n dX5_formula_225 rfl ?_
    refine w_iconst dX5_formula_226 ?_
    refine k_vI (as := [pI 1]) dX5_formula_227 kX5_75 ⟨⟨Nat.le_of_ble_eq_true rfl, rfl, rfl⟩, Nat.le_of_ble_eq_true rfl⟩ rfl (by decide) rfl (Nat.le_of_ble_eq_true rfl) h ?_
    intro r2 M3 h
    obtain ⟨o4, h⟩ := h
    exact k_zret dX5_formula_230 rfl o4 h
  · have h := h.2 c
    refine w_aload_n dX5_formula_26 rfl ?_
    refine w_getI (x := (M 1 5)) dX5_formula_27 fX5_29 rfl rfl rfl (fun g5 => ?_)
    have h := h g5
    refine w_iconst dX5_formula_30 ?_
    refine w_icmp_eq dX5_formula_31 rfl ⟨g5, (by decide)⟩ (fun c => ?_) (fun c => ?_)
    · have h := h.1 c
      refine w_iload_n dX5_formula_44 rfl ?_
      obtain ⟨o6, h⟩ := h
      refine w_if_ne dX5_formula_45 rfl o6 (fun c => ?_) (fun c => ?_)
      · have h := h.1 c
        exact k_pick [0, 1, 2, 3] rfl h
      · have h := h.2 c
        refine w_aload_n dX5_formula_48 rfl ?_
        refine w_getR dX5_formula_49 fX5_12 rfl rfl rfl ?_
        refine w_getI (x := (M 2 5)) dX5_formula_52 fX5_56 rfl rfl rfl (fun g7 => ?_)
        have h := h g7
        refine w_bipush dX5_formula_55 (by decide) ?_
        refine w_icmp_ne dX5_formula_57 rfl ⟨g7, (by decide)⟩ (fun c => ?_) (fun c => ?_)
        · have h := h.1 c
          exact k_pick [0, 1, 2, 3] rfl h
        · have h := h.2 c
          refine w_aload_n dX5_formula_60 rfl ?_
          refine w_getI (x := (M 1 4)) dX5_formula_61 fX5_173 rfl rfl rfl (fun g8 => ?_)
          have h := h g8
          refine w_if_ne dX5_formula_64 rfl g8 (fun c => ?_) (fun c => ?_)
          · have h := h.1 c
            exact k_pick [0, 1, 2, 3] rfl h
          · have h := h.2 c
            refine w_aload_n dX5_formula_67 rfl ?_
            refine w_iconst dX5_formula_68 ?_
            refine k_vV (as := [pI 1]) dX5_formula_69 kX5_179 ⟨⟨Nat.le_of_ble_eq_true rfl, rfl, rfl⟩, Nat.le_of_ble_eq_true rfl⟩ rfl (by decide) rfl (Nat.le_of_ble_eq_true rfl) h ?_
            intro M10 h
            refine w_iconst dX5_formula_72 ?_
            exact k_zret dX5_formula_73 rfl (by decide) h
    · have h := h.2 c
      refine w_aload_n dX5_formula_34 rfl ?_
      refine w_iload_n dX5_formula_35 rfl ?_
      refine k_vI (as := [pI x1]) dX5_formula_36 kX5_176 ⟨⟨Nat.le_of_ble_eq_true rfl, rfl, rfl⟩, Nat.le_of_ble_eq_true rfl⟩ rfl (by decide) rfl (Nat.le_of_ble_eq_true rfl) h ?_
      intro r11 M12 h
      obtain ⟨o13, h⟩ := h
      refine w_if_ne dX5_formula_39 rfl o13 (fun c => ?_) (fun c => ?_)
      · have h := h.1 c
        exact k_pick [0, 1, 2, 3] rfl h
      · have h := h.2 c
        refine w_iconst dX5_formula_42 ?_
        exact k_zret dX5_formula_43 rfl (by decide) h
theorem vX5_formula_74 {E : Scr} {f : Int → Mem → Prop} {M : Mem} (x1 x2 x3 : Int) (h : (iR x2) ∧ ((x2 ≠ 0 → (KW E mX5_formula (qI f) M 125 [(0, pR 1), (1, pI x1), (2, pI x2), (3, pI x3)] [])) ∧ (x2 = 0 → ((iR (M 2 5)) → (((M 2 5) ≠ 26 → (KW E mX5_formula (qI f) M 125 [(0, pR 1), (1, pI x1), (2, pI x2), (3, pI x3)] [])) ∧ ((M 2 5) = 26 → ((iR (M 1 4)) → (((M 1 4) ≤ 0 → (KW E mX5_formula (qI f) M 125 [(0, pR 1), (1, pI x1), (2, pI x2), (3, pI x3)] [])) ∧ ((M 1 4) > 0 → (CV E mX5_settlePending [pR 1, pI 1] M (fun M5 => ((iR (M5 1 3)) → (iR ((M5 1 3) - 1)) ∧ ((iR (M5 1 4)) → (iR ((M5 1 4) - 1)) ∧ (KW E mX5_formula (qI f) (upM (upM M5 1 3 ((M5 1 3) - 1)) 1 4 ((M5 1 4) - 1)) 212 [(0, pR 1), (1, pI x1), (2, pI x2), (3, pI x3)] [])))))))))))))) : KW E mX5_formula (qI f) M 74 [(0, pR 1), (1, pI x1), (2, pI x2), (3, pI x3)] [] := by
  refine w_iload_n dX5_formula_74 rfl ?_
  obtain ⟨o1, h⟩ := h
  refine w_if_ne dX5_formula_75 rfl o1 (fun c => ?_) (fun c => ?_)
  · have h := h.1 c
    exact k_pick [0, 1, 2, 3] rfl h
  · have h := h.2 c
    refine w_aload_n dX5_formula_78 rfl ?_
    refine w_getR dX5_formula_79 fX5_12 rfl rfl rfl ?_
    refine w_getI (x := (M 2 5)) dX5_formula_82 fX5_56 rfl rfl rfl (fun g2 => ?_)
    have h := h g2
    refine w_bipush dX5_formula_85 (by decide) ?_
    refine w_icmp_ne dX5_formula_87 rfl ⟨g2, (by decide)⟩ (fun c => ?_) (fun c => ?_)
    · have h := h.1 c
      exact k_pick [0, 1, 2, 3] rfl h
    · have h := h.2 c
      refine w_aload_n dX5_formula_90 rfl ?_
      refine w_getI (x := (M 1 4)) dX5_formula_91 fX5_173 rfl rfl rfl (fun g3 => ?_)
      have h := h g3
      refine w_if_le dX5_formula_94 rfl g3 (fun c => ?_) (fun c => ?_)
      · have h := h.1 c
        exact k_pick [0, 1, 2, 3] rfl h
      · have h := h.2 c
        refine w_aload_n dX5_formula_97 rfl ?_
        refine w_iconst dX5_formula_98 ?_
        refine k_vV (as := [pI 1]) dX5_formula_99 kX5_179 ⟨⟨Nat.le_of_ble_eq_true rfl, rfl, rfl⟩, Nat.le_of_ble_eq_true rfl⟩ rfl (by decide) rfl (Nat.le_of_ble_eq_true rfl) h ?_
        intro M5 h
        refine w_aload_n dX5_formula_102 rfl ?_
        refine w_dup dX5_formula_103 rfl ?_
        refine w_getI (x := (M5 1 3)) dX5_formula_104 fX5_170 rfl rfl rfl (fun g6 => ?_)
        have h := h g6
        refine w_iconst dX5_formula_107 ?_
        refine w_isub dX5_formula_108 ?_
        obtain ⟨o7, h⟩ := h
        refine w_putI dX5_formula_109 (Or.inl ⟨rfl, fX5_170⟩) rfl rfl o7 ?_
        refine w_aload_n dX5_formula_112 rfl ?_
        refine w_dup dX5_formula_113 rfl ?_
        refine w_getI (x := (M5 1 4)) dX5_formula_114 fX5_173 rfl rfl rfl (fun g8 => ?_)
        have h := h g8
        refine w_iconst dX5_formula_117 ?_
        refine w_isub dX5_formula_118 ?_
        obtain ⟨o9, h⟩ := h
        refine w_putI dX5_formula_119 (Or.inl ⟨rfl, fX5_173⟩) rfl rfl o9 ?_
        refine w_goto dX5_formula_122 rfl ?_
        exact k_pick [0, 1, 2, 3] rfl h
theorem vX5_formula_212 {E : Scr} {f : Int → Mem → Prop} {M : Mem} (x1 x2 x3 : Int) (h : (CV E mX8_advance [pR 2] M (fun M2 => (KW E mX5_formula (qI f) M2 19 [(0, pR 1), (1, pI x1), (2, pI x2), (3, pI (x3 + 1))] [])))) : KW E mX5_formula (qI f) M 212 [(0, pR 1), (1, pI x1), (2, pI x2), (3, pI x3)] [] := by
  refine w_aload_n dX5_formula_212 rfl ?_
  refine w_getR dX5_formula_213 fX5_12 rfl rfl rfl ?_
  refine k_vV (as := []) dX5_formula_216 kX5_79 ⟨⟨Nat.le_of_ble_eq_true rfl, rfl, rfl⟩, Nat.le_of_ble_eq_true rfl⟩ rfl (by decide) rfl (Nat.le_of_ble_eq_true rfl) h ?_
  intro M2 h
  refine w_iinc dX5_formula_219 rfl (by decide) ?_
  refine w_goto dX5_formula_222 rfl ?_
  exact k_pick [1, 2, 3, 0] rfl h
theorem vX5_formula_125 {E : Scr} {f : Int → Mem → Prop} {M : Mem} (x1 x2 x3 : Int) (h : (iR x2) ∧ ((x2 ≠ 0 → ((iR (M 2 5)) → (((M 2 5) = 25 → (CI E mX5_prefix [pR 1] M (fun r3 M4 => (iR r3) ∧ ((r3 ≠ 0 → (KW E mX5_formula (qI f) M4 212 [(0, pR 1), (1, pI x1), (2, pI x2), (3, pI x3)] [])) ∧ (r3 = 0 → f 0 M4))))) ∧ ((M 2 5) ≠ 25 → ((iR (M 2 5)) → (((M 2 5) ≠ 12 → (iR x1) ∧ ((x1 ≠ (-1) → (CI E mX5_leanLeaf [pR 1] M (fun r8 M9 => (iR r8) ∧ ((r8 ≠ 0 → (KW E mX5_formula (qI f) M9 212 [(0, pR 1), (1, pI x1), (2, pI 0), (3, pI x3)] [])) ∧ (r8 = 0 → f 0 M9))))) ∧ (x1 = (-1) → (CI E mX5_lawLeaf [pR 1] M (fun r11 M12 => (iR r11) ∧ ((r11 ≠ 0 → (KW E mX5_formula (qI f) M12 212 [(0, pR 1), (1, pI x1), (2, pI 0), (3, pI x3)] [])) ∧ (r11 = 0 → f 0 M12))))))) ∧ ((M 2 5) = 12 → (CI E mX5_prefix [pR 1] M (fun r14 M15 => (iR r14) ∧ ((r14 ≠ 0 → (KW E mX5_formula (qI f) M15 212 [(0, pR 1), (1, pI x1), (2, pI x2), (3, pI x3)] [])) ∧ (r14 = 0 → f 0 M15))))))))))) ∧ (x2 = 0 → (iR x1) ∧ ((x1 ≠ (-1) → (CI E mX5_joins [pR 1, pI 0] M (fun r18 M19 => (iR r18) ∧ ((r18 ≠ 0 → (KW E mX5_formula (qI f) M19 212 [(0, pR 1), (1, pI x1), (2, pI 1), (3, pI x3)] [])) ∧ (r18 = 0 → f 0 M19))))) ∧ (x1 = (-1) → (CI E mX5_joins [pR 1, pI 1] M (fun r21 M22 => (iR r21) ∧ ((r21 ≠ 0 → (KW E mX5_formula (qI f) M22 212 [(0, pR 1), (1, pI x1), (2, pI 1), (3, pI x3)] [])) ∧ (r21 = 0 → f 0 M22))))))))) : KW E mX5_formula (qI f) M 125 [(0, pR 1), (1, pI x1), (2, pI x2), (3, pI x3)] [] := by
  refine w_iload_n dX5_formula_125 rfl ?_
  obtain ⟨o1, h⟩ := h
  refine w_if_ne dX5_formula_126 rfl o1 (fun c => ?_) (fun c => ?_)
  · have h := h.1 c
    refine w_aload_n dX5_formula_153 rfl ?_
    refine w_getR dX5_formula_154 fX5_12 rfl rfl rfl ?_
    refine w_getI (x := (M 2 5)) dX5_formula_157 fX5_56 rfl rfl rfl (fun g2 => ?_)
    have h := h g2
    refine w_bipush dX5_formula_160 (by decide) ?_
    refine w_icmp_eq dX5_formula_162 rfl ⟨g2, (by decide)⟩ (fun c => ?_) (fun c => ?_)
    · have h := h.1 c
      refine w_aload_n dX5_formula_177 rfl ?_
      refine k_vI (as := []) dX5_formula_178 kX5_186 ⟨⟨Nat.le_of_ble_eq_true rfl, rfl, rfl⟩, Nat.le_of_ble_eq_true rfl⟩ rfl (by decide) rfl (Nat.le_of_ble_eq_true rfl) h ?_
      intro r3 M4 h
      obtain ⟨o5, h⟩ := h
      refine w_if_ne dX5_formula_181 rfl o5 (fun c => ?_) (fun c => ?_)
      · have h := h.1 c
        exact k_pick [0, 1, 2, 3] rfl h
      · have h := h.2 c
        refine w_iconst dX5_formula_184 ?_
        exact k_zret dX5_formula_185 rfl (by decide) h
    · have h := h.2 c
      refine w_aload_n dX5_formula_165 rfl ?_
      refine w_getR dX5_formula_166 fX5_12 rfl rfl rfl ?_
      refine w_getI (x := (M 2 5)) dX5_formula_169 fX5_56 rfl rfl rfl (fun g6 => ?_)
      have h := h g6
      refine w_bipush dX5_formula_172 (by decide) ?_
      refine w_icmp_ne dX5_formula_174 rfl ⟨g6, (by decide)⟩ (fun c => ?_) (fun c => ?_)
      · have h := h.1 c
        refine w_iload_n dX5_formula_186 rfl ?_
        refine w_iconst dX5_formula_187 ?_
        obtain ⟨o7, h⟩ := h
        refine w_icmp_ne dX5_formula_188 rfl ⟨o7, (by decide)⟩ (fun c => ?_) (fun c => ?_)
        · have h := h.1 c
          refine w_aload_n dX5_formula_201 rfl ?_
          refine k_vI (as := []) dX5_formula_202 kX5_192 ⟨⟨Nat.le_of_ble_eq_true rfl, rfl, rfl⟩, Nat.le_of_ble_eq_true rfl⟩ rfl (by decide) rfl (Nat.le_of_ble_eq_true rfl) h ?_
          intro r8 M9 h
          obtain ⟨o10, h⟩ := h
          refine w_if_ne dX5_formula_205 rfl o10 (fun c => ?_) (fun c => ?_)
          · have h := h.1 c
            refine w_iconst dX5_formula_210 ?_
            refine w_istore_n dX5_formula_211 (by decide) ?_
            exact k_pick [1, 2, 0, 3] rfl h
          · have h := h.2 c
            refine w_iconst dX5_formula_208 ?_
            exact k_zret dX5_formula_209 rfl (by decide) h
        · have h := h.2 c
          refine w_aload_n dX5_formula_191 rfl ?_
          refine k_vI (as := []) dX5_formula_192 kX5_189 ⟨⟨Nat.le_of_ble_eq_true rfl, rfl, rfl⟩, Nat.le_of_ble_eq_true rfl⟩ rfl (by decide) rfl (Nat.le_of_ble_eq_true rfl) h ?_
          intro r11 M12 h
          obtain ⟨o13, h⟩ := h
          refine w_if_ne dX5_formula_195 rfl o13 (fun c => ?_) (fun c => ?_)
          · have h := h.1 c
            refine w_iconst dX5_formula_210 ?_
            refine w_istore_n dX5_formula_211 (by decide) ?_
            exact k_pick [1, 2, 0, 3] rfl h
          · have h := h.2 c
            refine w_goto dX5_formula_198 rfl ?_
            refine w_iconst dX5_formula_208 ?_
            exact k_zret dX5_formula_209 rfl (by decide) h
      · have h := h.2 c
        refine w_aload_n dX5_formula_177 rfl ?_
        refine k_vI (as := []) dX5_formula_178 kX5_186 ⟨⟨Nat.le_of_ble_eq_true rfl, rfl, rfl⟩, Nat.le_of_ble_eq_true rfl⟩ rfl (by decide) rfl (Nat.le_of_ble_eq_true rfl) h ?_
        intro r14 M15 h
        obtain ⟨o16, h⟩ := h
        refine w_if_ne dX5_formula_181 rfl o16 (fun c => ?_) (fun c => ?_)
        · have h := h.1 c
          exact k_pick [0, 1, 2, 3] rfl h
        · have h := h.2 c
          refine w_iconst dX5_formula_184 ?_
          exact k_zret dX5_formula_185 rfl (by decide) h
  · have h := h.2 c
    refine w_aload_n dX5_formula_129 rfl ?_
    refine w_iload_n dX5_formula_130 rfl ?_
    refine w_iconst dX5_formula_131 ?_
    obtain ⟨o17, h⟩ := h
    refine w_icmp_ne dX5_formula_132 rfl ⟨o17, (by decide)⟩ (fun c => ?_) (fun c => ?_)
    · have h := h.1 c
      refine w_iconst dX5_formula_139 ?_
      refine k_vI (as := [pI 0]) dX5_formula_140 kX5_182 ⟨⟨Nat.le_of_ble_eq_true rfl, rfl, rfl⟩, Nat.le_of_ble_eq_true rfl⟩ rfl (by decide) rfl (Nat.le_of_ble_eq_true rfl) h ?_
      intro r18 M19 h
      obtain ⟨o20, h⟩ := h
      refine w_if_ne dX5_formula_143 rfl o20 (fun c => ?_) (fun c => ?_)
      · have h := h.1 c
        refine w_iconst dX5_formula_148 ?_
        refine w_istore_n dX5_formula_149 (by decide) ?_
        refine w_goto dX5_formula_150 rfl ?_
        exact k_pick [1, 2, 0, 3] rfl h
      · have h := h.2 c
        refine w_iconst dX5_formula_146 ?_
        exact k_zret dX5_formula_147 rfl (by decide) h
    · have h := h.2 c
      refine w_iconst dX5_formula_135 ?_
      refine w_goto dX5_formula_136 rfl ?_
      refine k_vI (as := [pI 1]) dX5_formula_140 kX5_182 ⟨⟨Nat.le_of_ble_eq_true rfl, rfl, rfl⟩, Nat.le_of_ble_eq_true rfl⟩ rfl (by decide) rfl (Nat.le_of_ble_eq_true rfl) h ?_
      intro r21 M22 h
      obtain ⟨o23, h⟩ := h
      refine w_if_ne dX5_formula_143 rfl o23 (fun c => ?_) (fun c => ?_)
      · have h := h.1 c
        refine w_iconst dX5_formula_148 ?_
        refine w_istore_n dX5_formula_149 (by decide) ?_
        refine w_goto dX5_formula_150 rfl ?_
        exact k_pick [1, 2, 0, 3] rfl h
      · have h := h.2 c
        refine w_iconst dX5_formula_146 ?_
        exact k_zret dX5_formula_147 rfl (by decide) h
theorem vX5_prefix_0 {E : Scr} {f : Int → Mem → Prop} {M : Mem} (h : ((iR (M 2 5)) → (((M 2 5) ≠ 25 → ((iR (M 1 3)) → (((M 1 3) ≤ 0 → (CI E mX5_counts [pR 1] M (fun r3 M4 => (iR r3) ∧ ((r3 ≠ 0 → (CV E mX5_addPending [pR 1, pI 12] M4 (fun M7 => f 1 M7))) ∧ (r3 = 0 → f 0 M4))))) ∧ ((M 1 3) > 0 → ((iR (M 1 3)) → (0 ≤ ((M 1 3) - 1) ∧ ((M 1 3) - 1) < 72) ∧ ((iR (M 20 (((M 1 3) - 1).toNat))) → (CI E mX10_rank [pI (M 20 (((M 1 3) - 1).toNat))] M (fun r11 M12 => (iR r11) ∧ ((r11 ≤ 3 → (CI E mX5_counts [pR 1] M12 (fun r14 M15 => (iR r14) ∧ ((r14 ≠ 0 → (CV E mX5_addPending [pR 1, pI 12] M15 (fun M18 => f 1 M18))) ∧ (r14 = 0 → f 0 M15))))) ∧ (r11 > 3 → (CI E mX5_fails [pR 1, pI 1] M12 (fun r19 M20 => (zR r19) ∧ f r19 M20)))))))))))) ∧ ((M 2 5) = 25 → ((iR (M 1 4)) → (((M 1 4) < 8 → ((iR (M 1 4)) → (iR ((M 1 4) + 1)) ∧ (CV E mX5_addPending [pR 1, pI 25] (upM M 1 4 ((M 1 4) + 1)) (fun M26 => f 1 M26)))) ∧ ((M 1 4) ≥ 8 → (CI E mX5_fails [pR 1, pI 2] M (fun r27 M28 => (zR r27) ∧ f r27 M28))))))))) : CI E mX5_prefix [pR 1] M f := by
  refine (show KW E mX5_prefix (qI f) M 0 [(0, pR 1)] [] from ?_)
  refine w_aload_n dX5_prefix_0 rfl ?_
  refine w_getR dX5_prefix_1 fX5_12 rfl rfl rfl ?_
  refine w_getI (x := (M 2 5)) dX5_prefix_4 fX5_56 rfl rfl rfl (fun g1 => ?_)
  have h := h g1
  refine w_bipush dX5_prefix_7 (by decide) ?_
  refine w_icmp_ne dX5_prefix_9 rfl ⟨g1, (by decide)⟩ (fun c => ?_) (fun c => ?_)
  · have h := h.1 c
    refine w_aload_n dX5_prefix_45 rfl ?_
    refine w_getI (x := (M 1 3)) dX5_prefix_46 fX5_170 rfl rfl rfl (fun g2 => ?_)
    have h := h g2
    refine w_if_le dX5_prefix_49 rfl g2 (fun c => ?_) (fun c => ?_)
    · have h := h.1 c
      refine w_aload_n dX5_prefix_76 rfl ?_
      refine k_vI (as := []) dX5_prefix_77 kX5_201 ⟨⟨Nat.le_of_ble_eq_true rfl, rfl, rfl⟩, Nat.le_of_ble_eq_true rfl⟩ rfl (by decide) rfl (Nat.le_of_ble_eq_true rfl) h ?_
      intro r3 M4 h
      obtain ⟨o5, h⟩ := h
      refine w_if_ne dX5_prefix_80 rfl o5 (fun c => ?_) (fun c => ?_)
      · have h := h.1 c
        refine w_aload_n dX5_prefix_85 rfl ?_
        refine w_bipush dX5_prefix_86 (by decide) ?_
        refine k_vV (as := [pI 12]) dX5_prefix_88 kX5_195 ⟨⟨Nat.le_of_ble_eq_true rfl, rfl, rfl⟩, Nat.le_of_ble_eq_true rfl⟩ rfl (by decide) rfl (Nat.le_of_ble_eq_true rfl) h ?_
        intro M7 h
        refine w_iconst dX5_prefix_91 ?_
        exact k_zret dX5_prefix_92 rfl (by decide) h
      · have h := h.2 c
        refine w_iconst dX5_prefix_83 ?_
        exact k_zret dX5_prefix_84 rfl (by decide) h
    · have h := h.2 c
      refine w_aload_n dX5_prefix_52 rfl ?_
      refine w_getR dX5_prefix_53 fX5_25 rfl rfl rfl ?_
      refine w_aload_n dX5_prefix_56 rfl ?_
      refine w_getI (x := (M 1 3)) dX5_prefix_57 fX5_170 rfl rfl rfl (fun g8 => ?_)
      have h := h g8
      refine w_iconst dX5_prefix_60 ?_
      refine w_isub dX5_prefix_61 ?_
      obtain ⟨o9, h⟩ := h
      refine w_iald (x := (M 20 (((M 1 3) - 1).toNat))) dX5_prefix_62 rfl o9 rfl (fun g10 => ?_)
      have h := h g10
      refine k_sI (as := [pI (M 20 (((M 1 3) - 1).toNat))]) dX5_prefix_63 kX5_198 ⟨⟨Nat.le_of_ble_eq_true rfl, rfl, rfl⟩, Nat.le_of_ble_eq_true rfl⟩ rfl (Nat.le_of_ble_eq_true rfl) h ?_
      intro r11 M12 h
      refine w_iconst dX5_prefix_66 ?_
      obtain ⟨o13, h⟩ := h
      refine w_icmp_le dX5_prefix_67 rfl ⟨o13, (by decide)⟩ (fun c => ?_) (fun c => ?_)
      · have h := h.1 c
        refine w_aload_n dX5_prefix_76 rfl ?_
        refine k_vI (as := []) dX5_prefix_77 kX5_201 ⟨⟨Nat.le_of_ble_eq_true rfl, rfl, rfl⟩, Nat.le_of_ble_eq_true rfl⟩ rfl (by decide) rfl (Nat.le_of_ble_eq_true rfl) h ?_
        intro r14 M15 h
        obtain ⟨o16, h⟩ := h
        refine w_if_ne dX5_prefix_80 rfl o16 (fun c => ?_) (fun c => ?_)
        · have h := h.1 c
          refine w_aload_n dX5_prefix_85 rfl ?_
          refine w_bipush dX5_prefix_86 (by decide) ?_
          refine k_vV (as := [pI 12]) dX5_prefix_88 kX5_195 ⟨⟨Nat.le_of_ble_eq_true rfl, rfl, rfl⟩, Nat.le_of_ble_eq_true rfl⟩ rfl (by decide) rfl (Nat.le_of_ble_eq_true rfl) h ?_
          intro M18 h
          refine w_iconst dX5_prefix_91 ?_
          exact k_zret dX5_prefix_92 rfl (by decide) h
        · have h := h.2 c
          refine w_iconst dX5_prefix_83 ?_
          exact k_zret dX5_prefix_84 rfl (by decide) h
      · have h := h.2 c
        refine w_aload_n dX5_prefix_70 rfl ?_
        refine w_iconst dX5_prefix_71 ?_
        refine k_vI (as := [pI 1]) dX5_prefix_72 kX5_75 ⟨⟨Nat.le_of_ble_eq_true rfl, rfl, rfl⟩, Nat.le_of_ble_eq_true rfl⟩ rfl (by decide) rfl (Nat.le_of_ble_eq_true rfl) h ?_
        intro r19 M20 h
        obtain ⟨o21, h⟩ := h
        exact k_zret dX5_prefix_75 rfl o21 h
  · have h := h.2 c
    refine w_aload_n dX5_prefix_12 rfl ?_
    refine w_getI (x := (M 1 4)) dX5_prefix_13 fX5_173 rfl rfl rfl (fun g22 => ?_)
    have h := h g22
    refine w_bipush dX5_prefix_16 (by decide) ?_
    refine w_icmp_lt dX5_prefix_18 rfl ⟨g22, (by decide)⟩ (fun c => ?_) (fun c => ?_)
    · have h := h.1 c
      refine w_aload_n dX5_prefix_27 rfl ?_
      refine w_dup dX5_prefix_28 rfl ?_
      refine w_getI (x := (M 1 4)) dX5_prefix_29 fX5_173 rfl rfl rfl (fun g23 => ?_)
      have h := h g23
      refine w_iconst dX5_prefix_32 ?_
      refine w_iadd dX5_prefix_33 ?_
      obtain ⟨o24, h⟩ := h
      refine w_putI dX5_prefix_34 (Or.inl ⟨rfl, fX5_173⟩) rfl rfl o24 ?_
      refine w_aload_n dX5_prefix_37 rfl ?_
      refine w_bipush dX5_prefix_38 (by decide) ?_
      refine k_vV (as := [pI 25]) dX5_prefix_40 kX5_195 ⟨⟨Nat.le_of_ble_eq_true rfl, rfl, rfl⟩, Nat.le_of_ble_eq_true rfl⟩ rfl (by decide) rfl (Nat.le_of_ble_eq_true rfl) h ?_
      intro M26 h
      refine w_iconst dX5_prefix_43 ?_
      exact k_zret dX5_prefix_44 rfl (by decide) h
    · have h := h.2 c
      refine w_aload_n dX5_prefix_21 rfl ?_
      refine w_iconst dX5_prefix_22 ?_
      refine k_vI (as := [pI 2]) dX5_prefix_23 kX5_75 ⟨⟨Nat.le_of_ble_eq_true rfl, rfl, rfl⟩, Nat.le_of_ble_eq_true rfl⟩ rfl (by decide) rfl (Nat.le_of_ble_eq_true rfl) h ?_
      intro r27 M28 h
      obtain ⟨o29, h⟩ := h
      exact k_zret dX5_prefix_26 rfl o29 h
theorem vX5_joins_0 {E : Scr} {f : Int → Mem → Prop} {M : Mem} (x1 : Int) (h : ((iR (M 2 5)) → (CI E mX10_rank [pI (M 2 5)] M (fun r2 M3 => (iR r2) ∧ ((r2 = 0 → (CI E mX5_fails [pR 1, pI 1] M3 (fun r5 M6 => (zR r5) ∧ f r5 M6))) ∧ (r2 ≠ 0 → (((M 2 5) = 12 → (CI E mX5_fails [pR 1, pI 1] M3 (fun r8 M9 => (zR r8) ∧ f r8 M9))) ∧ ((M 2 5) ≠ 12 → (iR x1) ∧ ((x1 ≠ 0 → (iR r2) ∧ ((r2 ≠ 4 → (KW E mX5_joins (qI f) M3 51 [(0, pR 1), (2, pI (M 2 5)), (3, pI r2)] [pI r2, pR 1])) ∧ (r2 = 4 → (KW E mX5_joins (qI f) M3 51 [(0, pR 1), (2, pI (M 2 5)), (3, pI r2)] [pI (r2 + 1), pR 1])))) ∧ (x1 = 0 → (iR r2) ∧ ((r2 < 4 → (iR r2) ∧ ((r2 ≠ 4 → (KW E mX5_joins (qI f) M3 51 [(0, pR 1), (2, pI (M 2 5)), (3, pI r2)] [pI r2, pR 1])) ∧ (r2 = 4 → (KW E mX5_joins (qI f) M3 51 [(0, pR 1), (2, pI (M 2 5)), (3, pI r2)] [pI (r2 + 1), pR 1])))) ∧ (r2 ≥ 4 → (CI E mX5_fails [pR 1, pI 1] M3 (fun r15 M16 => (zR r15) ∧ f r15 M16)))))))))))))) : CI E mX5_joins [pR 1, pI x1] M f := by
  refine (show KW E mX5_joins (qI f) M 0 [(0, pR 1), (1, pI x1)] [] from ?_)
  refine w_aload_n dX5_joins_0 rfl ?_
  refine w_getR dX5_joins_1 fX5_12 rfl rfl rfl ?_
  refine w_getI (x := (M 2 5)) dX5_joins_4 fX5_56 rfl rfl rfl (fun g1 => ?_)
  have h := h g1
  refine w_istore_n dX5_joins_7 (by decide) ?_
  refine w_iload_n dX5_joins_8 rfl ?_
  refine k_sI (as := [pI (M 2 5)]) dX5_joins_9 kX5_198 ⟨⟨Nat.le_of_ble_eq_true rfl, rfl, rfl⟩, Nat.le_of_ble_eq_true rfl⟩ rfl (Nat.le_of_ble_eq_true rfl) h ?_
  intro r2 M3 h
  refine w_istore_n dX5_joins_12 (by decide) ?_
  refine w_iload_n dX5_joins_13 rfl ?_
  obtain ⟨o4, h⟩ := h
  refine w_if_eq dX5_joins_14 rfl o4 (fun c => ?_) (fun c => ?_)
  · have h := h.1 c
    refine w_aload_n dX5_joins_32 rfl ?_
    refine w_iconst dX5_joins_33 ?_
    refine k_vI (as := [pI 1]) dX5_joins_34 kX5_75 ⟨⟨Nat.le_of_ble_eq_true rfl, rfl, rfl⟩, Nat.le_of_ble_eq_true rfl⟩ rfl (by decide) rfl (Nat.le_of_ble_eq_true rfl) h ?_
    intro r5 M6 h
    obtain ⟨o7, h⟩ := h
    exact k_zret dX5_joins_37 rfl o7 h
  · have h := h.2 c
    refine w_iload_n dX5_joins_17 rfl ?_
    refine w_bipush dX5_joins_18 (by decide) ?_
    refine w_icmp_eq dX5_joins_20 rfl ⟨g1, (by decide)⟩ (fun c => ?_) (fun c => ?_)
    · have h := h.1 c
      refine w_aload_n dX5_joins_32 rfl ?_
      refine w_iconst dX5_joins_33 ?_
      refine k_vI (as := [pI 1]) dX5_joins_34 kX5_75 ⟨⟨Nat.le_of_ble_eq_true rfl, rfl, rfl⟩, Nat.le_of_ble_eq_true rfl⟩ rfl (by decide) rfl (Nat.le_of_ble_eq_true rfl) h ?_
      intro r8 M9 h
      obtain ⟨o10, h⟩ := h
      exact k_zret dX5_joins_37 rfl o10 h
    · have h := h.2 c
      refine w_iload_n dX5_joins_23 rfl ?_
      obtain ⟨o11, h⟩ := h
      refine w_if_ne dX5_joins_24 rfl o11 (fun c => ?_) (fun c => ?_)
      · have h := h.1 c
        refine w_aload_n dX5_joins_38 rfl ?_
        refine w_iload_n dX5_joins_39 rfl ?_
        refine w_iconst dX5_joins_40 ?_
        obtain ⟨o12, h⟩ := h
        refine w_icmp_ne dX5_joins_41 rfl ⟨o12, (by decide)⟩ (fun c => ?_) (fun c => ?_)
        · have h := h.1 c
          refine w_iload_n dX5_joins_50 rfl ?_
          exact k_pick [2, 1, 0] rfl h
        · have h := h.2 c
          refine w_iload_n dX5_joins_44 rfl ?_
          refine w_iconst dX5_joins_45 ?_
          refine w_iadd dX5_joins_46 ?_
          refine w_goto dX5_joins_47 rfl ?_
          exact k_pick [2, 1, 0] rfl h
      · have h := h.2 c
        refine w_iload_n dX5_joins_27 rfl ?_
        refine w_iconst dX5_joins_28 ?_
        obtain ⟨o13, h⟩ := h
        refine w_icmp_lt dX5_joins_29 rfl ⟨o13, (by decide)⟩ (fun c => ?_) (fun c => ?_)
        · have h := h.1 c
          refine w_aload_n dX5_joins_38 rfl ?_
          refine w_iload_n dX5_joins_39 rfl ?_
          refine w_iconst dX5_joins_40 ?_
          obtain ⟨o14, h⟩ := h
          refine w_icmp_ne dX5_joins_41 rfl ⟨o14, (by decide)⟩ (fun c => ?_) (fun c => ?_)
          · have h := h.1 c
            refine w_iload_n dX5_joins_50 rfl ?_
            exact k_pick [2, 1, 0] rfl h
          · have h := h.2 c
            refine w_iload_n dX5_joins_44 rfl ?_
            refine w_iconst dX5_joins_45 ?_
            refine w_iadd dX5_joins_46 ?_
            refine w_goto dX5_joins_47 rfl ?_
            exact k_pick [2, 1, 0] rfl h
        · have h := h.2 c
          refine w_aload_n dX5_joins_32 rfl ?_
          refine w_iconst dX5_joins_33 ?_
          refine k_vI (as := [pI 1]) dX5_joins_34 kX5_75 ⟨⟨Nat.le_of_ble_eq_true rfl, rfl, rfl⟩, Nat.le_of_ble_eq_true rfl⟩ rfl (by decide) rfl (Nat.le_of_ble_eq_true rfl) h ?_
          intro r15 M16 h
          obtain ⟨o17, h⟩ := h
          exact k_zret dX5_joins_37 rfl o17 h
theorem vX5_joins_51 {E : Scr} {f : Int → Mem → Prop} {M : Mem} (x2 x3 s0 : Int) (h : (CV E mX5_settlePending [pR 1, pI s0] M (fun M2 => (iR x3) ∧ ((x3 ≠ 4 → (CI E mX5_counts [pR 1] M2 (fun r4 M5 => (iR r4) ∧ ((r4 ≠ 0 → (CV E mX5_addPending [pR 1, pI x2] M5 (fun M8 => f 1 M8))) ∧ (r4 = 0 → f 0 M5))))) ∧ (x3 = 4 → ((iR (M2 1 3)) → (((M2 1 3) ≤ 0 → (CI E mX5_counts [pR 1] M2 (fun r10 M11 => (iR r10) ∧ ((r10 ≠ 0 → (CV E mX5_addPending [pR 1, pI x2] M11 (fun M14 => f 1 M14))) ∧ (r10 = 0 → f 0 M11))))) ∧ ((M2 1 3) > 0 → ((iR (M2 1 3)) → (0 ≤ ((M2 1 3) - 1) ∧ ((M2 1 3) - 1) < 72) ∧ ((iR (M2 20 (((M2 1 3) - 1).toNat))) → (CI E mX10_rank [pI (M2 20 (((M2 1 3) - 1).toNat))] M2 (fun r18 M19 => (iR r18) ∧ ((r18 ≠ 4 → (CI E mX5_counts [pR 1] M19 (fun r21 M22 => (iR r21) ∧ ((r21 ≠ 0 → (CV E mX5_addPending [pR 1, pI x2] M22 (fun M25 => f 1 M25))) ∧ (r21 = 0 → f 0 M22))))) ∧ (r18 = 4 → (CI E mX5_fails [pR 1, pI 1] M19 (fun r26 M27 => (zR r26) ∧ f r26 M27)))))))))))))))) : KW E mX5_joins (qI f) M 51 [(0, pR 1), (2, pI x2), (3, pI x3)] [pI s0, pR 1] := by
  refine k_vV (as := [pI s0]) dX5_joins_51 kX5_179 ⟨⟨Nat.le_of_ble_eq_true rfl, rfl, rfl⟩, Nat.le_of_ble_eq_true rfl⟩ rfl (by decide) rfl (Nat.le_of_ble_eq_true rfl) h ?_
  intro M2 h
  refine w_iload_n dX5_joins_54 rfl ?_
  refine w_iconst dX5_joins_55 ?_
  obtain ⟨o3, h⟩ := h
  refine w_icmp_ne dX5_joins_56 rfl ⟨o3, (by decide)⟩ (fun c => ?_) (fun c => ?_)
  · have h := h.1 c
    refine w_aload_n dX5_joins_90 rfl ?_
    refine k_vI (as := []) dX5_joins_91 kX5_201 ⟨⟨Nat.le_of_ble_eq_true rfl, rfl, rfl⟩, Nat.le_of_ble_eq_true rfl⟩ rfl (by decide) rfl (Nat.le_of_ble_eq_true rfl) h ?_
    intro r4 M5 h
    obtain ⟨o6, h⟩ := h
    refine w_if_ne dX5_joins_94 rfl o6 (fun c => ?_) (fun c => ?_)
    · have h := h.1 c
      refine w_aload_n dX5_joins_99 rfl ?_
      refine w_iload_n dX5_joins_100 rfl ?_
      refine k_vV (as := [pI x2]) dX5_joins_101 kX5_195 ⟨⟨Nat.le_of_ble_eq_true rfl, rfl, rfl⟩, Nat.le_of_ble_eq_true rfl⟩ rfl (by decide) rfl (Nat.le_of_ble_eq_true rfl) h ?_
      intro M8 h
      refine w_iconst dX5_joins_104 ?_
      exact k_zret dX5_joins_105 rfl (by decide) h
    · have h := h.2 c
      refine w_iconst dX5_joins_97 ?_
      exact k_zret dX5_joins_98 rfl (by decide) h
  · have h := h.2 c
    refine w_aload_n dX5_joins_59 rfl ?_
    refine w_getI (x := (M2 1 3)) dX5_joins_60 fX5_170 rfl rfl rfl (fun g9 => ?_)
    have h := h g9
    refine w_if_le dX5_joins_63 rfl g9 (fun c => ?_) (fun c => ?_)
    · have h := h.1 c
      refine w_aload_n dX5_joins_90 rfl ?_
      refine k_vI (as := []) dX5_joins_91 kX5_201 ⟨⟨Nat.le_of_ble_eq_true rfl, rfl, rfl⟩, Nat.le_of_ble_eq_true rfl⟩ rfl (by decide) rfl (Nat.le_of_ble_eq_true rfl) h ?_
      intro r10 M11 h
      obtain ⟨o12, h⟩ := h
      refine w_if_ne dX5_joins_94 rfl o12 (fun c => ?_) (fun c => ?_)
      · have h := h.1 c
        refine w_aload_n dX5_joins_99 rfl ?_
        refine w_iload_n dX5_joins_100 rfl ?_
        refine k_vV (as := [pI x2]) dX5_joins_101 kX5_195 ⟨⟨Nat.le_of_ble_eq_true rfl, rfl, rfl⟩, Nat.le_of_ble_eq_true rfl⟩ rfl (by decide) rfl (Nat.le_of_ble_eq_true rfl) h ?_
        intro M14 h
        refine w_iconst dX5_joins_104 ?_
        exact k_zret dX5_joins_105 rfl (by decide) h
      · have h := h.2 c
        refine w_iconst dX5_joins_97 ?_
        exact k_zret dX5_joins_98 rfl (by decide) h
    · have h := h.2 c
      refine w_aload_n dX5_joins_66 rfl ?_
      refine w_getR dX5_joins_67 fX5_25 rfl rfl rfl ?_
      refine w_aload_n dX5_joins_70 rfl ?_
      refine w_getI (x := (M2 1 3)) dX5_joins_71 fX5_170 rfl rfl rfl (fun g15 => ?_)
      have h := h g15
      refine w_iconst dX5_joins_74 ?_
      refine w_isub dX5_joins_75 ?_
      obtain ⟨o16, h⟩ := h
      refine w_iald (x := (M2 20 (((M2 1 3) - 1).toNat))) dX5_joins_76 rfl o16 rfl (fun g17 => ?_)
      have h := h g17
      refine k_sI (as := [pI (M2 20 (((M2 1 3) - 1).toNat))]) dX5_joins_77 kX5_198 ⟨⟨Nat.le_of_ble_eq_true rfl, rfl, rfl⟩, Nat.le_of_ble_eq_true rfl⟩ rfl (Nat.le_of_ble_eq_true rfl) h ?_
      intro r18 M19 h
      refine w_iconst dX5_joins_80 ?_
      obtain ⟨o20, h⟩ := h
      refine w_icmp_ne dX5_joins_81 rfl ⟨o20, (by decide)⟩ (fun c => ?_) (fun c => ?_)
      · have h := h.1 c
        refine w_aload_n dX5_joins_90 rfl ?_
        refine k_vI (as := []) dX5_joins_91 kX5_201 ⟨⟨Nat.le_of_ble_eq_true rfl, rfl, rfl⟩, Nat.le_of_ble_eq_true rfl⟩ rfl (by decide) rfl (Nat.le_of_ble_eq_true rfl) h ?_
        intro r21 M22 h
        obtain ⟨o23, h⟩ := h
        refine w_if_ne dX5_joins_94 rfl o23 (fun c => ?_) (fun c => ?_)
        · have h := h.1 c
          refine w_aload_n dX5_joins_99 rfl ?_
          refine w_iload_n dX5_joins_100 rfl ?_
          refine k_vV (as := [pI x2]) dX5_joins_101 kX5_195 ⟨⟨Nat.le_of_ble_eq_true rfl, rfl, rfl⟩, Nat.le_of_ble_eq_true rfl⟩ rfl (by decide) rfl (Nat.le_of_ble_eq_true rfl) h ?_
          intro M25 h
          refine w_iconst dX5_joins_104 ?_
          exact k_zret dX5_joins_105 rfl (by decide) h
        · have h := h.2 c
          refine w_iconst dX5_joins_97 ?_
          exact k_zret dX5_joins_98 rfl (by decide) h
      · have h := h.2 c
        refine w_aload_n dX5_joins_84 rfl ?_
        refine w_iconst dX5_joins_85 ?_
        refine k_vI (as := [pI 1]) dX5_joins_86 kX5_75 ⟨⟨Nat.le_of_ble_eq_true rfl, rfl, rfl⟩, Nat.le_of_ble_eq_true rfl⟩ rfl (by decide) rfl (Nat.le_of_ble_eq_true rfl) h ?_
        intro r26 M27 h
        obtain ⟨o28, h⟩ := h
        exact k_zret dX5_joins_89 rfl o28 h
theorem vX5_counts_0 {E : Scr} {f : Int → Mem → Prop} {M : Mem} (h : ((iR (M 1 6)) → (((M 1 6) < 64 → ((iR (M 1 6)) → (iR ((M 1 6) + 1)) ∧ f 1 (upM M 1 6 ((M 1 6) + 1)))) ∧ ((M 1 6) ≥ 64 → (CI E mX5_fails [pR 1, pI 2] M (fun r4 M5 => (zR r4) ∧ f r4 M5)))))) : CI E mX5_counts [pR 1] M f := by
  refine (show KW E mX5_counts (qI f) M 0 [(0, pR 1)] [] from ?_)
  refine w_aload_n dX5_counts_0 rfl ?_
  refine w_getI (x := (M 1 6)) dX5_counts_1 fX5_39 rfl rfl rfl (fun g1 => ?_)
  have h := h g1
  refine w_bipush dX5_counts_4 (by decide) ?_
  refine w_icmp_lt dX5_counts_6 rfl ⟨g1, (by decide)⟩ (fun c => ?_) (fun c => ?_)
  · have h := h.1 c
    refine w_aload_n dX5_counts_15 rfl ?_
    refine w_dup dX5_counts_16 rfl ?_
    refine w_getI (x := (M 1 6)) dX5_counts_17 fX5_39 rfl rfl rfl (fun g2 => ?_)
    have h := h g2
    refine w_iconst dX5_counts_20 ?_
    refine w_iadd dX5_counts_21 ?_
    obtain ⟨o3, h⟩ := h
    refine w_putI dX5_counts_22 (Or.inl ⟨rfl, fX5_39⟩) rfl rfl o3 ?_
    refine w_iconst dX5_counts_25 ?_
    exact k_zret dX5_counts_26 rfl (by decide) h
  · have h := h.2 c
    refine w_aload_n dX5_counts_9 rfl ?_
    refine w_iconst dX5_counts_10 ?_
    refine k_vI (as := [pI 2]) dX5_counts_11 kX5_75 ⟨⟨Nat.le_of_ble_eq_true rfl, rfl, rfl⟩, Nat.le_of_ble_eq_true rfl⟩ rfl (by decide) rfl (Nat.le_of_ble_eq_true rfl) h ?_
    intro r4 M5 h
    obtain ⟨o6, h⟩ := h
    exact k_zret dX5_counts_14 rfl o6 h
theorem vX5_addPending_0 {E : Scr} {f : Mem → Prop} {M : Mem} (x1 : Int) (h : ((iR (M 1 3)) → (((M 1 3) ≥ 72 → f M) ∧ ((M 1 3) < 72 → ((iR (M 1 3)) → (0 ≤ (M 1 3) ∧ (M 1 3) < 72) ∧ (iR x1) ∧ ((iR (M 1 3)) → (iR ((M 1 3) + 1)) ∧ f (upM (upM M 20 ((M 1 3).toNat) x1) 1 3 ((M 1 3) + 1)))))))) : CV E mX5_addPending [pR 1, pI x1] M f := by
  refine (show KW E mX5_addPending (qV f) M 0 [(0, pR 1), (1, pI x1)] [] from ?_)
  refine w_aload_n dX5_addPending_0 rfl ?_
  refine w_getI (x := (M 1 3)) dX5_addPending_1 fX5_170 rfl rfl rfl (fun g1 => ?_)
  have h := h g1
  refine w_aload_n dX5_addPending_4 rfl ?_
  refine w_getR dX5_addPending_5 fX5_25 rfl rfl rfl ?_
  refine w_aleni dX5_addPending_8 rfl ?_
  refine w_icmp_ge dX5_addPending_9 rfl ⟨g1, (by decide)⟩ (fun c => ?_) (fun c => ?_)
  · have h := h.1 c
    exact k_vret dX5_addPending_32 rfl h
  · have h := h.2 c
    refine w_aload_n dX5_addPending_12 rfl ?_
    refine w_getR dX5_addPending_13 fX5_25 rfl rfl rfl ?_
    refine w_aload_n dX5_addPending_16 rfl ?_
    refine w_getI (x := (M 1 3)) dX5_addPending_17 fX5_170 rfl rfl rfl (fun g2 => ?_)
    have h := h g2
    refine w_iload_n dX5_addPending_20 rfl ?_
    obtain ⟨o3, h⟩ := h
    obtain ⟨o4, h⟩ := h
    refine w_iast dX5_addPending_21 rfl o3 o4 ?_
    refine w_aload_n dX5_addPending_22 rfl ?_
    refine w_dup dX5_addPending_23 rfl ?_
    refine w_getI (x := (M 1 3)) dX5_addPending_24 fX5_170 rfl rfl rfl (fun g5 => ?_)
    have h := h g5
    refine w_iconst dX5_addPending_27 ?_
    refine w_iadd dX5_addPending_28 ?_
    obtain ⟨o6, h⟩ := h
    refine w_putI dX5_addPending_29 (Or.inl ⟨rfl, fX5_170⟩) rfl rfl o6 ?_
    exact k_vret dX5_addPending_32 rfl h
theorem vX5_settlePending_in {E : Scr} {f : Mem → Prop} {M : Mem} (x1 : Int) (h : (KW E mX5_settlePending (qV f) M 0 [(0, pR 1), (1, pI x1)] [])) : CV E mX5_settlePending [pR 1, pI x1] M f := by
  refine (show KW E mX5_settlePending (qV f) M 0 [(0, pR 1), (1, pI x1)] [] from ?_)
  exact k_pick [0, 1] rfl h
theorem vX5_settlePending_0 {E : Scr} {f : Mem → Prop} {M : Mem} (x1 : Int) (h : ((iR (M 1 3)) → (((M 1 3) ≤ 0 → f M) ∧ ((M 1 3) > 0 → ((iR (M 1 3)) → (0 ≤ ((M 1 3) - 1) ∧ ((M 1 3) - 1) < 72) ∧ ((iR (M 20 (((M 1 3) - 1).toNat))) → (CI E mX10_rank [pI (M 20 (((M 1 3) - 1).toNat))] M (fun r5 M6 => (iR r5) ∧ (iR x1) ∧ ((r5 < x1 → f M6) ∧ (r5 ≥ x1 → ((iR (M6 1 3)) → (iR ((M6 1 3) - 1)) ∧ ((iR ((M6 1 3) - 1)) → (0 ≤ ((M6 1 3) - 1) ∧ ((M6 1 3) - 1) < 72) ∧ ((iR (M6 20 (((M6 1 3) - 1).toNat))) → (CV E mX2_add [pR 15, pI (M6 20 (((M6 1 3) - 1).toNat)), pI 0] (upM M6 1 3 ((M6 1 3) - 1)) (fun M15 => (KW E mX5_settlePending (qV f) M15 0 [(0, pR 1), (1, pI x1)] [])))))))))))))))) : KW E mX5_settlePending (qV f) M 0 [(0, pR 1), (1, pI x1)] [] := by
  refine w_aload_n dX5_settlePending_0 rfl ?_
  refine w_getI (x := (M 1 3)) dX5_settlePending_1 fX5_170 rfl rfl rfl (fun g1 => ?_)
  have h := h g1
  refine w_if_le dX5_settlePending_4 rfl g1 (fun c => ?_) (fun c => ?_)
  · have h := h.1 c
    exact k_vret dX5_settlePending_58 rfl h
  · have h := h.2 c
    refine w_aload_n dX5_settlePending_7 rfl ?_
    refine w_getR dX5_settlePending_8 fX5_25 rfl rfl rfl ?_
    refine w_aload_n dX5_settlePending_11 rfl ?_
    refine w_getI (x := (M 1 3)) dX5_settlePending_12 fX5_170 rfl rfl rfl (fun g2 => ?_)
    have h := h g2
    refine w_iconst dX5_settlePending_15 ?_
    refine w_isub dX5_settlePending_16 ?_
    obtain ⟨o3, h⟩ := h
    refine w_iald (x := (M 20 (((M 1 3) - 1).toNat))) dX5_settlePending_17 rfl o3 rfl (fun g4 => ?_)
    have h := h g4
    refine k_sI (as := [pI (M 20 (((M 1 3) - 1).toNat))]) dX5_settlePending_18 kX5_198 ⟨⟨Nat.le_of_ble_eq_true rfl, rfl, rfl⟩, Nat.le_of_ble_eq_true rfl⟩ rfl (Nat.le_of_ble_eq_true rfl) h ?_
    intro r5 M6 h
    refine w_iload_n dX5_settlePending_21 rfl ?_
    obtain ⟨o7, h⟩ := h
    obtain ⟨o8, h⟩ := h
    refine w_icmp_lt dX5_settlePending_22 rfl ⟨o7, o8⟩ (fun c => ?_) (fun c => ?_)
    · have h := h.1 c
      exact k_vret dX5_settlePending_58 rfl h
    · have h := h.2 c
      refine w_aload_n dX5_settlePending_25 rfl ?_
      refine w_dup dX5_settlePending_26 rfl ?_
      refine w_getI (x := (M6 1 3)) dX5_settlePending_27 fX5_170 rfl rfl rfl (fun g9 => ?_)
      have h := h g9
      refine w_iconst dX5_settlePending_30 ?_
      refine w_isub dX5_settlePending_31 ?_
      obtain ⟨o10, h⟩ := h
      refine w_putI dX5_settlePending_32 (Or.inl ⟨rfl, fX5_170⟩) rfl rfl o10 ?_
      refine w_aload_n dX5_settlePending_35 rfl ?_
      refine w_getR dX5_settlePending_36 fX5_21 rfl rfl rfl ?_
      refine w_getR dX5_settlePending_39 fX5_126 rfl rfl rfl ?_
      refine w_aload_n dX5_settlePending_42 rfl ?_
      refine w_getR dX5_settlePending_43 fX5_25 rfl rfl rfl ?_
      refine w_aload_n dX5_settlePending_46 rfl ?_
      refine w_getI (x := ((M6 1 3) - 1)) dX5_settlePending_47 fX5_170 rfl rfl rfl (fun g11 => ?_)
      have h := h g11
      obtain ⟨o12, h⟩ := h
      refine w_iald (x := (M6 20 (((M6 1 3) - 1).toNat))) dX5_settlePending_50 rfl o12 rfl (fun g13 => ?_)
      have h := h g13
      refine w_iconst dX5_settlePending_51 ?_
      refine k_vV (as := [pI (M6 20 (((M6 1 3) - 1).toNat)), pI 0]) dX5_settlePending_52 kX5_204 ⟨⟨Nat.le_of_ble_eq_true rfl, rfl, rfl⟩, Nat.le_of_ble_eq_true rfl⟩ rfl (by decide) rfl (Nat.le_of_ble_eq_true rfl) h ?_
      intro M15 h
      refine w_goto dX5_settlePending_55 rfl ?_
      exact k_pick [0, 1] rfl h
theorem vX5_lawLeaf_0 {E : Scr} {f : Int → Mem → Prop} {M : Mem} (h : ((iR (M 2 5)) → (((M 2 5) = 37 → (KW E mX5_lawLeaf (qI f) M 42 [(0, pR 1)] [])) ∧ ((M 2 5) ≠ 37 → ((iR (M 2 5)) → (((M 2 5) < 17 → (CI E mX5_fails [pR 1, pI 1] M (fun r3 M4 => (zR r3) ∧ f r3 M4))) ∧ ((M 2 5) ≥ 17 → ((iR (M 2 5)) → (((M 2 5) ≤ 23 → (KW E mX5_lawLeaf (qI f) M 42 [(0, pR 1)] [])) ∧ ((M 2 5) > 23 → (CI E mX5_fails [pR 1, pI 1] M (fun r7 M8 => (zR r7) ∧ f r7 M8)))))))))))) : CI E mX5_lawLeaf [pR 1] M f := by
  refine (show KW E mX5_lawLeaf (qI f) M 0 [(0, pR 1)] [] from ?_)
  refine w_aload_n dX5_lawLeaf_0 rfl ?_
  refine w_getR dX5_lawLeaf_1 fX5_12 rfl rfl rfl ?_
  refine w_getI (x := (M 2 5)) dX5_lawLeaf_4 fX5_56 rfl rfl rfl (fun g1 => ?_)
  have h := h g1
  refine w_bipush dX5_lawLeaf_7 (by decide) ?_
  refine w_icmp_eq dX5_lawLeaf_9 rfl ⟨g1, (by decide)⟩ (fun c => ?_) (fun c => ?_)
  · have h := h.1 c
    exact k_pick [0] rfl h
  · have h := h.2 c
    refine w_aload_n dX5_lawLeaf_12 rfl ?_
    refine w_getR dX5_lawLeaf_13 fX5_12 rfl rfl rfl ?_
    refine w_getI (x := (M 2 5)) dX5_lawLeaf_16 fX5_56 rfl rfl rfl (fun g2 => ?_)
    have h := h g2
    refine w_bipush dX5_lawLeaf_19 (by decide) ?_
    refine w_icmp_lt dX5_lawLeaf_21 rfl ⟨g2, (by decide)⟩ (fun c => ?_) (fun c => ?_)
    · have h := h.1 c
      refine w_aload_n dX5_lawLeaf_36 rfl ?_
      refine w_iconst dX5_lawLeaf_37 ?_
      refine k_vI (as := [pI 1]) dX5_lawLeaf_38 kX5_75 ⟨⟨Nat.le_of_ble_eq_true rfl, rfl, rfl⟩, Nat.le_of_ble_eq_true rfl⟩ rfl (by decide) rfl (Nat.le_of_ble_eq_true rfl) h ?_
      intro r3 M4 h
      obtain ⟨o5, h⟩ := h
      exact k_zret dX5_lawLeaf_41 rfl o5 h
    · have h := h.2 c
      refine w_aload_n dX5_lawLeaf_24 rfl ?_
      refine w_getR dX5_lawLeaf_25 fX5_12 rfl rfl rfl ?_
      refine w_getI (x := (M 2 5)) dX5_lawLeaf_28 fX5_56 rfl rfl rfl (fun g6 => ?_)
      have h := h g6
      refine w_bipush dX5_lawLeaf_31 (by decide) ?_
      refine w_icmp_le dX5_lawLeaf_33 rfl ⟨g6, (by decide)⟩ (fun c => ?_) (fun c => ?_)
      · have h := h.1 c
        exact k_pick [0] rfl h
      · have h := h.2 c
        refine w_aload_n dX5_lawLeaf_36 rfl ?_
        refine w_iconst dX5_lawLeaf_37 ?_
        refine k_vI (as := [pI 1]) dX5_lawLeaf_38 kX5_75 ⟨⟨Nat.le_of_ble_eq_true rfl, rfl, rfl⟩, Nat.le_of_ble_eq_true rfl⟩ rfl (by decide) rfl (Nat.le_of_ble_eq_true rfl) h ?_
        intro r7 M8 h
        obtain ⟨o9, h⟩ := h
        exact k_zret dX5_lawLeaf_41 rfl o9 h
theorem vX5_lawLeaf_42 {E : Scr} {f : Int → Mem → Prop} {M : Mem} (h : (CI E mX5_counts [pR 1] M (fun r1 M2 => (iR r1) ∧ ((r1 = 0 → f 0 M2) ∧ (r1 ≠ 0 → ((iR (M2 2 5)) → (((M2 2 5) ≠ 37 → ((iR (M2 2 5)) → ((iR (M2 2 7)) → (CV E mX2_add [pR 15, pI (M2 2 5), pI (M2 2 7)] M2 (fun M8 => f 1 M8))))) ∧ ((M2 2 5) = 37 → (CI E mX5_numberTo [pR 1, pI 9999] M2 (fun r9 M10 => (iR r9) ∧ ((r9 ≠ 0 → ((iR (M10 2 5)) → ((iR (M10 2 7)) → (CV E mX2_add [pR 15, pI (M10 2 5), pI (M10 2 7)] M10 (fun M15 => f 1 M15))))) ∧ (r9 = 0 → f 0 M10)))))))))))) : KW E mX5_lawLeaf (qI f) M 42 [(0, pR 1)] [] := by
  refine w_aload_n dX5_lawLeaf_42 rfl ?_
  refine k_vI (as := []) dX5_lawLeaf_43 kX5_201 ⟨⟨Nat.le_of_ble_eq_true rfl, rfl, rfl⟩, Nat.le_of_ble_eq_true rfl⟩ rfl (by decide) rfl (Nat.le_of_ble_eq_true rfl) h ?_
  intro r1 M2 h
  obtain ⟨o3, h⟩ := h
  refine w_if_eq dX5_lawLeaf_46 rfl o3 (fun c => ?_) (fun c => ?_)
  · have h := h.1 c
    refine w_iconst dX5_lawLeaf_71 ?_
    exact k_zret dX5_lawLeaf_72 rfl (by decide) h
  · have h := h.2 c
    refine w_aload_n dX5_lawLeaf_49 rfl ?_
    refine w_getR dX5_lawLeaf_50 fX5_12 rfl rfl rfl ?_
    refine w_getI (x := (M2 2 5)) dX5_lawLeaf_53 fX5_56 rfl rfl rfl (fun g4 => ?_)
    have h := h g4
    refine w_bipush dX5_lawLeaf_56 (by decide) ?_
    refine w_icmp_ne dX5_lawLeaf_58 rfl ⟨g4, (by decide)⟩ (fun c => ?_) (fun c => ?_)
    · have h := h.1 c
      refine w_aload_n dX5_lawLeaf_73 rfl ?_
      refine w_getR dX5_lawLeaf_74 fX5_21 rfl rfl rfl ?_
      refine w_getR dX5_lawLeaf_77 fX5_126 rfl rfl rfl ?_
      refine w_aload_n dX5_lawLeaf_80 rfl ?_
      refine w_getR dX5_lawLeaf_81 fX5_12 rfl rfl rfl ?_
      refine w_getI (x := (M2 2 5)) dX5_lawLeaf_84 fX5_56 rfl rfl rfl (fun g5 => ?_)
      have h := h g5
      refine w_aload_n dX5_lawLeaf_87 rfl ?_
      refine w_getR dX5_lawLeaf_88 fX5_12 rfl rfl rfl ?_
      refine w_getI (x := (M2 2 7)) dX5_lawLeaf_91 fX5_106 rfl rfl rfl (fun g6 => ?_)
      have h := h g6
      refine k_vV (as := [pI (M2 2 5), pI (M2 2 7)]) dX5_lawLeaf_94 kX5_204 ⟨⟨Nat.le_of_ble_eq_true rfl, rfl, rfl⟩, Nat.le_of_ble_eq_true rfl⟩ rfl (by decide) rfl (Nat.le_of_ble_eq_true rfl) h ?_
      intro M8 h
      refine w_iconst dX5_lawLeaf_97 ?_
      exact k_zret dX5_lawLeaf_98 rfl (by decide) h
    · have h := h.2 c
      refine w_aload_n dX5_lawLeaf_61 rfl ?_
      refine w_sipush dX5_lawLeaf_62 (by decide) ?_
      refine k_vI (as := [pI 9999]) dX5_lawLeaf_65 kX5_113 ⟨⟨Nat.le_of_ble_eq_true rfl, rfl, rfl⟩, Nat.le_of_ble_eq_true rfl⟩ rfl (by decide) rfl (Nat.le_of_ble_eq_true rfl) h ?_
      intro r9 M10 h
      obtain ⟨o11, h⟩ := h
      refine w_if_ne dX5_lawLeaf_68 rfl o11 (fun c => ?_) (fun c => ?_)
      · have h := h.1 c
        refine w_aload_n dX5_lawLeaf_73 rfl ?_
        refine w_getR dX5_lawLeaf_74 fX5_21 rfl rfl rfl ?_
        refine w_getR dX5_lawLeaf_77 fX5_126 rfl rfl rfl ?_
        refine w_aload_n dX5_lawLeaf_80 rfl ?_
        refine w_getR dX5_lawLeaf_81 fX5_12 rfl rfl rfl ?_
        refine w_getI (x := (M10 2 5)) dX5_lawLeaf_84 fX5_56 rfl rfl rfl (fun g12 => ?_)
        have h := h g12
        refine w_aload_n dX5_lawLeaf_87 rfl ?_
        refine w_getR dX5_lawLeaf_88 fX5_12 rfl rfl rfl ?_
        refine w_getI (x := (M10 2 7)) dX5_lawLeaf_91 fX5_106 rfl rfl rfl (fun g13 => ?_)
        have h := h g13
        refine k_vV (as := [pI (M10 2 5), pI (M10 2 7)]) dX5_lawLeaf_94 kX5_204 ⟨⟨Nat.le_of_ble_eq_true rfl, rfl, rfl⟩, Nat.le_of_ble_eq_true rfl⟩ rfl (by decide) rfl (Nat.le_of_ble_eq_true rfl) h ?_
        intro M15 h
        refine w_iconst dX5_lawLeaf_97 ?_
        exact k_zret dX5_lawLeaf_98 rfl (by decide) h
      · have h := h.2 c
        refine w_iconst dX5_lawLeaf_71 ?_
        exact k_zret dX5_lawLeaf_72 rfl (by decide) h
theorem vX5_leanLeaf_0 {E : Scr} {f : Int → Mem → Prop} {M : Mem} (h : ((iR (M 2 5)) → (((M 2 5) < 13 → (CI E mX5_fails [pR 1, pI 1] M (fun r2 M3 => (zR r2) ∧ f r2 M3))) ∧ ((M 2 5) ≥ 13 → ((iR (M 2 5)) → (((M 2 5) ≤ 16 → ((iR (M 2 5)) → (CI E mX5_counts [pR 1] (upM M 1 5 (M 2 5)) (fun r7 M8 => (zR r7) ∧ f r7 M8)))) ∧ ((M 2 5) > 16 → (CI E mX5_fails [pR 1, pI 1] M (fun r10 M11 => (zR r10) ∧ f r10 M11))))))))) : CI E mX5_leanLeaf [pR 1] M f := by
  refine (show KW E mX5_leanLeaf (qI f) M 0 [(0, pR 1)] [] from ?_)
  refine w_aload_n dX5_leanLeaf_0 rfl ?_
  refine w_getR dX5_leanLeaf_1 fX5_12 rfl rfl rfl ?_
  refine w_getI (x := (M 2 5)) dX5_leanLeaf_4 fX5_56 rfl rfl rfl (fun g1 => ?_)
  have h := h g1
  refine w_bipush dX5_leanLeaf_7 (by decide) ?_
  refine w_icmp_lt dX5_leanLeaf_9 rfl ⟨g1, (by decide)⟩ (fun c => ?_) (fun c => ?_)
  · have h := h.1 c
    refine w_aload_n dX5_leanLeaf_24 rfl ?_
    refine w_iconst dX5_leanLeaf_25 ?_
    refine k_vI (as := [pI 1]) dX5_leanLeaf_26 kX5_75 ⟨⟨Nat.le_of_ble_eq_true rfl, rfl, rfl⟩, Nat.le_of_ble_eq_true rfl⟩ rfl (by decide) rfl (Nat.le_of_ble_eq_true rfl) h ?_
    intro r2 M3 h
    obtain ⟨o4, h⟩ := h
    exact k_zret dX5_leanLeaf_29 rfl o4 h
  · have h := h.2 c
    refine w_aload_n dX5_leanLeaf_12 rfl ?_
    refine w_getR dX5_leanLeaf_13 fX5_12 rfl rfl rfl ?_
    refine w_getI (x := (M 2 5)) dX5_leanLeaf_16 fX5_56 rfl rfl rfl (fun g5 => ?_)
    have h := h g5
    refine w_bipush dX5_leanLeaf_19 (by decide) ?_
    refine w_icmp_le dX5_leanLeaf_21 rfl ⟨g5, (by decide)⟩ (fun c => ?_) (fun c => ?_)
    · have h := h.1 c
      refine w_aload_n dX5_leanLeaf_30 rfl ?_
      refine w_aload_n dX5_leanLeaf_31 rfl ?_
      refine w_getR dX5_leanLeaf_32 fX5_12 rfl rfl rfl ?_
      refine w_getI (x := (M 2 5)) dX5_leanLeaf_35 fX5_56 rfl rfl rfl (fun g6 => ?_)
      have h := h g6
      refine w_putI dX5_leanLeaf_38 (Or.inl ⟨rfl, fX5_29⟩) rfl rfl g6 ?_
      refine w_aload_n dX5_leanLeaf_41 rfl ?_
      refine k_vI (as := []) dX5_leanLeaf_42 kX5_201 ⟨⟨Nat.le_of_ble_eq_true rfl, rfl, rfl⟩, Nat.le_of_ble_eq_true rfl⟩ rfl (by decide) rfl (Nat.le_of_ble_eq_true rfl) h ?_
      intro r7 M8 h
      obtain ⟨o9, h⟩ := h
      exact k_zret dX5_leanLeaf_45 rfl o9 h
    · have h := h.2 c
      refine w_aload_n dX5_leanLeaf_24 rfl ?_
      refine w_iconst dX5_leanLeaf_25 ?_
      refine k_vI (as := [pI 1]) dX5_leanLeaf_26 kX5_75 ⟨⟨Nat.le_of_ble_eq_true rfl, rfl, rfl⟩, Nat.le_of_ble_eq_true rfl⟩ rfl (by decide) rfl (Nat.le_of_ble_eq_true rfl) h ?_
      intro r10 M11 h
      obtain ⟨o12, h⟩ := h
      exact k_zret dX5_leanLeaf_29 rfl o12 h
theorem vX5_asks_0 {E : Scr} {f : Int → Mem → Prop} {M : Mem} (x1 : Int) (h : ((iR (M 1 5)) → (((M 1 5) ≠ 15 → (CI E mX5_toldLatch [pR 1] (upM M 1 5 (-1)) (fun r2 M3 => (iR r2) ∧ ((r2 ≠ 0 → (KW E mX5_asks (qI f) M3 37 [(0, pR 1), (1, pI x1), (2, pI (M 1 5))] [])) ∧ (r2 = 0 → f 0 M3))))) ∧ ((M 1 5) = 15 → (CI E mX5_numberTo [pR 1, pI 8] (upM M 1 5 (-1)) (fun r5 M6 => (iR r5) ∧ ((r5 ≠ 0 → (KW E mX5_asks (qI f) M6 37 [(0, pR 1), (1, pI x1), (2, pI (M 1 5))] [])) ∧ (r5 = 0 → f 0 M6)))))))) : CI E mX5_asks [pR 1, pI x1] M f := by
  refine (show KW E mX5_asks (qI f) M 0 [(0, pR 1), (1, pI x1)] [] from ?_)
  refine w_aload_n dX5_asks_0 rfl ?_
  refine w_getI (x := (M 1 5)) dX5_asks_1 fX5_29 rfl rfl rfl (fun g1 => ?_)
  have h := h g1
  refine w_istore_n dX5_asks_4 (by decide) ?_
  refine w_aload_n dX5_asks_5 rfl ?_
  refine w_iconst dX5_asks_6 ?_
  refine w_putI dX5_asks_7 (Or.inl ⟨rfl, fX5_29⟩) rfl rfl (by decide) ?_
  refine w_iload_n dX5_asks_10 rfl ?_
  refine w_bipush dX5_asks_11 (by decide) ?_
  refine w_icmp_ne dX5_asks_13 rfl ⟨g1, (by decide)⟩ (fun c => ?_) (fun c => ?_)
  · have h := h.1 c
    refine w_aload_n dX5_asks_28 rfl ?_
    refine k_vI (as := []) dX5_asks_29 kX5_120 ⟨⟨Nat.le_of_ble_eq_true rfl, rfl, rfl⟩, Nat.le_of_ble_eq_true rfl⟩ rfl (by decide) rfl (Nat.le_of_ble_eq_true rfl) h ?_
    intro r2 M3 h
    obtain ⟨o4, h⟩ := h
    refine w_if_ne dX5_asks_32 rfl o4 (fun c => ?_) (fun c => ?_)
    · have h := h.1 c
      exact k_pick [1, 2, 0] rfl h
    · have h := h.2 c
      refine w_iconst dX5_asks_35 ?_
      exact k_zret dX5_asks_36 rfl (by decide) h
  · have h := h.2 c
    refine w_aload_n dX5_asks_16 rfl ?_
    refine w_bipush dX5_asks_17 (by decide) ?_
    refine k_vI (as := [pI 8]) dX5_asks_19 kX5_113 ⟨⟨Nat.le_of_ble_eq_true rfl, rfl, rfl⟩, Nat.le_of_ble_eq_true rfl⟩ rfl (by decide) rfl (Nat.le_of_ble_eq_true rfl) h ?_
    intro r5 M6 h
    obtain ⟨o7, h⟩ := h
    refine w_if_ne dX5_asks_22 rfl o7 (fun c => ?_) (fun c => ?_)
    · have h := h.1 c
      exact k_pick [1, 2, 0] rfl h
    · have h := h.2 c
      refine w_goto dX5_asks_25 rfl ?_
      refine w_iconst dX5_asks_35 ?_
      exact k_zret dX5_asks_36 rfl (by decide) h
theorem vX5_asks_37 {E : Scr} {f : Int → Mem → Prop} {M : Mem} (x1 x2 : Int) (h : (iR x2) ∧ ((x2 ≠ 15 → ((iR (M 2 7)) → (CI E mX1_numberOf [pR 5, pI (M 2 7)] M (fun r3 M4 => (iR x2) ∧ ((x2 ≠ 16 → (CI E mX5_onOther [pR 1, pI x1, pI r3, pI x2] M4 (fun r6 M7 => (zR r6) ∧ f r6 M7))) ∧ (x2 = 16 → (CI E mX5_asOther [pR 1, pI x1, pI r3] M4 (fun r9 M10 => (zR r9) ∧ f r9 M10)))))))) ∧ (x2 = 15 → ((iR (M 2 7)) → (CV E mX2_add [pR 15, pI 15, pI (M 2 7)] M (fun M14 => f 1 M14)))))) : KW E mX5_asks (qI f) M 37 [(0, pR 1), (1, pI x1), (2, pI x2)] [] := by
  refine w_iload_n dX5_asks_37 rfl ?_
  refine w_bipush dX5_asks_38 (by decide) ?_
  obtain ⟨o1, h⟩ := h
  refine w_icmp_ne dX5_asks_40 rfl ⟨o1, (by decide)⟩ (fun c => ?_) (fun c => ?_)
  · have h := h.1 c
    refine w_aload_n dX5_asks_64 rfl ?_
    refine w_getR dX5_asks_65 fX5_21 rfl rfl rfl ?_
    refine w_aload_n dX5_asks_68 rfl ?_
    refine w_getR dX5_asks_69 fX5_12 rfl rfl rfl ?_
    refine w_getI (x := (M 2 7)) dX5_asks_72 fX5_106 rfl rfl rfl (fun g2 => ?_)
    have h := h g2
    refine k_vI (as := [pI (M 2 7)]) dX5_asks_75 kX5_109 ⟨⟨Nat.le_of_ble_eq_true rfl, rfl, rfl⟩, Nat.le_of_ble_eq_true rfl⟩ rfl (by decide) rfl (Nat.le_of_ble_eq_true rfl) h ?_
    intro r3 M4 h
    refine w_istore_n dX5_asks_78 (by decide) ?_
    refine w_iload_n dX5_asks_79 rfl ?_
    refine w_bipush dX5_asks_80 (by decide) ?_
    obtain ⟨o5, h⟩ := h
    refine w_icmp_ne dX5_asks_82 rfl ⟨o5, (by decide)⟩ (fun c => ?_) (fun c => ?_)
    · have h := h.1 c
      refine w_aload_n dX5_asks_94 rfl ?_
      refine w_iload_n dX5_asks_95 rfl ?_
      refine w_iload_n dX5_asks_96 rfl ?_
      refine w_iload_n dX5_asks_97 rfl ?_
      refine k_vI (as := [pI x1, pI r3, pI x2]) dX5_asks_98 kX5_211 ⟨⟨Nat.le_of_ble_eq_true rfl, rfl, rfl⟩, Nat.le_of_ble_eq_true rfl⟩ rfl (by decide) rfl (Nat.le_of_ble_eq_true rfl) h ?_
      intro r6 M7 h
      obtain ⟨o8, h⟩ := h
      exact k_zret dX5_asks_101 rfl o8 h
    · have h := h.2 c
      refine w_aload_n dX5_asks_85 rfl ?_
      refine w_iload_n dX5_asks_86 rfl ?_
      refine w_iload_n dX5_asks_87 rfl ?_
      refine k_vI (as := [pI x1, pI r3]) dX5_asks_88 kX5_207 ⟨⟨Nat.le_of_ble_eq_true rfl, rfl, rfl⟩, Nat.le_of_ble_eq_true rfl⟩ rfl (by decide) rfl (Nat.le_of_ble_eq_true rfl) h ?_
      intro r9 M10 h
      refine w_goto dX5_asks_91 rfl ?_
      obtain ⟨o11, h⟩ := h
      exact k_zret dX5_asks_101 rfl o11 h
  · have h := h.2 c
    refine w_aload_n dX5_asks_43 rfl ?_
    refine w_getR dX5_asks_44 fX5_21 rfl rfl rfl ?_
    refine w_getR dX5_asks_47 fX5_126 rfl rfl rfl ?_
    refine w_bipush dX5_asks_50 (by decide) ?_
    refine w_aload_n dX5_asks_52 rfl ?_
    refine w_getR dX5_asks_53 fX5_12 rfl rfl rfl ?_
    refine w_getI (x := (M 2 7)) dX5_asks_56 fX5_106 rfl rfl rfl (fun g12 => ?_)
    have h := h g12
    refine k_vV (as := [pI 15, pI (M 2 7)]) dX5_asks_59 kX5_204 ⟨⟨Nat.le_of_ble_eq_true rfl, rfl, rfl⟩, Nat.le_of_ble_eq_true rfl⟩ rfl (by decide) rfl (Nat.le_of_ble_eq_true rfl) h ?_
    intro M14 h
    refine w_iconst dX5_asks_62 ?_
    exact k_zret dX5_asks_63 rfl (by decide) h
theorem vX5_onOther_0 {E : Scr} {f : Int → Mem → Prop} {M : Mem} (x1 x2 x3 : Int) (h : (iR x2) ∧ (iR x1) ∧ ((x2 ≠ x1 → (CV E mX1_addLeant [pR 5, pI x1, pI (bShl 1 x2)] M (fun M4 => (CV E mX2_add [pR 15, pI x3, pI x2] M4 (fun M6 => f 1 M6))))) ∧ (x2 = x1 → (CI E mX5_fails [pR 1, pI 5] M (fun r7 M8 => (zR r7) ∧ f r7 M8))))) : CI E mX5_onOther [pR 1, pI x1, pI x2, pI x3] M f := by
  refine (show KW E mX5_onOther (qI f) M 0 [(0, pR 1), (1, pI x1), (2, pI x2), (3, pI x3)] [] from ?_)
  refine w_iload_n dX5_onOther_0 rfl ?_
  refine w_iload_n dX5_onOther_1 rfl ?_
  obtain ⟨o1, h⟩ := h
  obtain ⟨o2, h⟩ := h
  refine w_icmp_ne dX5_onOther_2 rfl ⟨o1, o2⟩ (fun c => ?_) (fun c => ?_)
  · have h := h.1 c
    refine w_aload_n dX5_onOther_11 rfl ?_
    refine w_getR dX5_onOther_12 fX5_21 rfl rfl rfl ?_
    refine w_iload_n dX5_onOther_15 rfl ?_
    refine w_iconst dX5_onOther_16 ?_
    refine w_iload_n dX5_onOther_17 rfl ?_
    refine w_ishl dX5_onOther_18 ?_
    refine k_vV (as := [pI x1, pI (bShl 1 x2)]) dX5_onOther_19 kX5_215 ⟨⟨Nat.le_of_ble_eq_true rfl, rfl, rfl⟩, Nat.le_of_ble_eq_true rfl⟩ rfl (by decide) rfl (Nat.le_of_ble_eq_true rfl) h ?_
    intro M4 h
    refine w_aload_n dX5_onOther_22 rfl ?_
    refine w_getR dX5_onOther_23 fX5_21 rfl rfl rfl ?_
    refine w_getR dX5_onOther_26 fX5_126 rfl rfl rfl ?_
    refine w_iload_n dX5_onOther_29 rfl ?_
    refine w_iload_n dX5_onOther_30 rfl ?_
    refine k_vV (as := [pI x3, pI x2]) dX5_onOther_31 kX5_204 ⟨⟨Nat.le_of_ble_eq_true rfl, rfl, rfl⟩, Nat.le_of_ble_eq_true rfl⟩ rfl (by decide) rfl (Nat.le_of_ble_eq_true rfl) h ?_
    intro M6 h
    refine w_iconst dX5_onOther_34 ?_
    exact k_zret dX5_onOther_35 rfl (by decide) h
  · have h := h.2 c
    refine w_aload_n dX5_onOther_5 rfl ?_
    refine w_iconst dX5_onOther_6 ?_
    refine k_vI (as := [pI 5]) dX5_onOther_7 kX5_75 ⟨⟨Nat.le_of_ble_eq_true rfl, rfl, rfl⟩, Nat.le_of_ble_eq_true rfl⟩ rfl (by decide) rfl (Nat.le_of_ble_eq_true rfl) h ?_
    intro r7 M8 h
    obtain ⟨o9, h⟩ := h
    exact k_zret dX5_onOther_10 rfl o9 h
theorem vX5_asOther_0 {E : Scr} {f : Int → Mem → Prop} {M : Mem} (x1 x2 : Int) (h : (CI E mX1_doesLean [pR 5, pI x2] M (fun r1 M2 => (iR r1) ∧ ((r1 ≠ 0 → (CI E mX1_leantOn [pR 5, pI x2] M2 (fun r4 M5 => (((bAnd (bShr r4 x1) 1) = 0 → (CV E mX1_addLeant [pR 5, pI x1, pI r4] M5 (fun M7 => (CV E mX2_add [pR 15, pI 16, pI x2] M7 (fun M9 => f 1 M9))))) ∧ ((bAnd (bShr r4 x1) 1) ≠ 0 → (CI E mX5_fails [pR 1, pI 5] M5 (fun r10 M11 => (zR r10) ∧ f r10 M11))))))) ∧ (r1 = 0 → (CI E mX5_fails [pR 1, pI 4] M2 (fun r13 M14 => (zR r13) ∧ f r13 M14))))))) : CI E mX5_asOther [pR 1, pI x1, pI x2] M f := by
  refine (show KW E mX5_asOther (qI f) M 0 [(0, pR 1), (1, pI x1), (2, pI x2)] [] from ?_)
  refine w_aload_n dX5_asOther_0 rfl ?_
  refine w_getR dX5_asOther_1 fX5_21 rfl rfl rfl ?_
  refine w_iload_n dX5_asOther_4 rfl ?_
  refine k_vI (as := [pI x2]) dX5_asOther_5 kX5_123 ⟨⟨Nat.le_of_ble_eq_true rfl, rfl, rfl⟩, Nat.le_of_ble_eq_true rfl⟩ rfl (by decide) rfl (Nat.le_of_ble_eq_true rfl) h ?_
  intro r1 M2 h
  obtain ⟨o3, h⟩ := h
  refine w_if_ne dX5_asOther_8 rfl o3 (fun c => ?_) (fun c => ?_)
  · have h := h.1 c
    refine w_aload_n dX5_asOther_17 rfl ?_
    refine w_getR dX5_asOther_18 fX5_21 rfl rfl rfl ?_
    refine w_iload_n dX5_asOther_21 rfl ?_
    refine k_vI (as := [pI x2]) dX5_asOther_22 kX5_218 ⟨⟨Nat.le_of_ble_eq_true rfl, rfl, rfl⟩, Nat.le_of_ble_eq_true rfl⟩ rfl (by decide) rfl (Nat.le_of_ble_eq_true rfl) h ?_
    intro r4 M5 h
    refine w_istore_n dX5_asOther_25 (by decide) ?_
    refine w_iload_n dX5_asOther_26 rfl ?_
    refine w_iload_n dX5_asOther_27 rfl ?_
    refine w_ishr dX5_asOther_28 ?_
    refine w_iconst dX5_asOther_29 ?_
    refine w_iand dX5_asOther_30 ?_
    refine w_if_eq dX5_asOther_31 rfl (bAnd_r _ _) (fun c => ?_) (fun c => ?_)
    · have h := h.1 c
      refine w_aload_n dX5_asOther_40 rfl ?_
      refine w_getR dX5_asOther_41 fX5_21 rfl rfl rfl ?_
      refine w_iload_n dX5_asOther_44 rfl ?_
      refine w_iload_n dX5_asOther_45 rfl ?_
      refine k_vV (as := [pI x1, pI r4]) dX5_asOther_46 kX5_215 ⟨⟨Nat.le_of_ble_eq_true rfl, rfl, rfl⟩, Nat.le_of_ble_eq_true rfl⟩ rfl (by decide) rfl (Nat.le_of_ble_eq_true rfl) h ?_
      intro M7 h
      refine w_aload_n dX5_asOther_49 rfl ?_
      refine w_getR dX5_asOther_50 fX5_21 rfl rfl rfl ?_
      refine w_getR dX5_asOther_53 fX5_126 rfl rfl rfl ?_
      refine w_bipush dX5_asOther_56 (by decide) ?_
      refine w_iload_n dX5_asOther_58 rfl ?_
      refine k_vV (as := [pI 16, pI x2]) dX5_asOther_59 kX5_204 ⟨⟨Nat.le_of_ble_eq_true rfl, rfl, rfl⟩, Nat.le_of_ble_eq_true rfl⟩ rfl (by decide) rfl (Nat.le_of_ble_eq_true rfl) h ?_
      intro M9 h
      refine w_iconst dX5_asOther_62 ?_
      exact k_zret dX5_asOther_63 rfl (by decide) h
    · have h := h.2 c
      refine w_aload_n dX5_asOther_34 rfl ?_
      refine w_iconst dX5_asOther_35 ?_
      refine k_vI (as := [pI 5]) dX5_asOther_36 kX5_75 ⟨⟨Nat.le_of_ble_eq_true rfl, rfl, rfl⟩, Nat.le_of_ble_eq_true rfl⟩ rfl (by decide) rfl (Nat.le_of_ble_eq_true rfl) h ?_
      intro r10 M11 h
      obtain ⟨o12, h⟩ := h
      exact k_zret dX5_asOther_39 rfl o12 h
  · have h := h.2 c
    refine w_aload_n dX5_asOther_11 rfl ?_
    refine w_iconst dX5_asOther_12 ?_
    refine k_vI (as := [pI 4]) dX5_asOther_13 kX5_75 ⟨⟨Nat.le_of_ble_eq_true rfl, rfl, rfl⟩, Nat.le_of_ble_eq_true rfl⟩ rfl (by decide) rfl (Nat.le_of_ble_eq_true rfl) h ?_
    intro r13 M14 h
    obtain ⟨o15, h⟩ := h
    exact k_zret dX5_asOther_16 rfl o15 h
