theorem vX8_letterBits_0 {E : Scr} {f : Int → Mem → Prop} {M : Mem} (x0 x1 : Int) (h : (iR x1) ∧ ((x1 ≥ 6 → f 0 M) ∧ (x1 < 6 → f (bShl ((x0 - 97) + 1) (5 * (5 - x1))) M))) : CI E mX8_letterBits [pI x0, pI x1] M f := by
  refine (show KW E mX8_letterBits (qI f) M 0 [(0, pI x0), (1, pI x1)] [] from ?_)
  refine w_iload_n dX8_letterBits_0 rfl ?_
  refine w_bipush dX8_letterBits_1 (by decide) ?_
  obtain ⟨o1, h⟩ := h
  refine w_icmp_ge dX8_letterBits_3 rfl ⟨o1, (by decide)⟩ (fun c => ?_) (fun c => ?_)
  · have h := h.1 c
    refine w_iconst dX8_letterBits_21 ?_
    exact k_iret dX8_letterBits_22 rfl h
  · have h := h.2 c
    refine w_iload_n dX8_letterBits_6 rfl ?_
    refine w_bipush dX8_letterBits_7 (by decide) ?_
    refine w_isub dX8_letterBits_9 ?_
    refine w_iconst dX8_letterBits_10 ?_
    refine w_iadd dX8_letterBits_11 ?_
    refine w_iconst dX8_letterBits_12 ?_
    refine w_iconst dX8_letterBits_13 ?_
    refine w_iload_n dX8_letterBits_14 rfl ?_
    refine w_isub dX8_letterBits_15 ?_
    refine w_imul dX8_letterBits_16 ?_
    refine w_ishl dX8_letterBits_17 ?_
    refine w_goto dX8_letterBits_18 rfl ?_
    exact k_iret dX8_letterBits_22 rfl h
theorem vX8_add_0 {E : Scr} {f : Mem → Prop} {M : Mem} (x1 : Int) (h : (KW E mX8_add (qV f) M 3 [(0, pR 2), (1, pI x1), (2, pI 24)] [])) : CV E mX8_add [pR 2, pI x1] M f := by
  refine (show KW E mX8_add (qV f) M 0 [(0, pR 2), (1, pI x1)] [] from ?_)
  refine w_bipush dX8_add_0 (by decide) ?_
  refine w_istore_n dX8_add_2 (by decide) ?_
  exact k_pick [1, 2, 0] rfl h
theorem vX8_add_3 {E : Scr} {f : Mem → Prop} {M : Mem} (x1 x2 : Int) (h : (iR x2) ∧ ((x2 < 0 → f M) ∧ (x2 ≥ 0 → ((iR (M 2 2)) → (((M 2 2) ≥ 700 → (KW E mX8_add (qV f) M 3 [(0, pR 2), (1, pI x1), (2, pI (x2 + (-8)))] [])) ∧ ((M 2 2) < 700 → ((iR (M 2 2)) → (0 ≤ (M 2 2) ∧ (M 2 2) < 700) ∧ ((iR (M 2 2)) → (iR ((M 2 2) + 1)) ∧ (KW E mX8_add (qV f) (upM (upM M 3 ((M 2 2).toNat) (bAnd (bShr x1 x2) 255)) 2 2 ((M 2 2) + 1)) 3 [(0, pR 2), (1, pI x1), (2, pI (x2 + (-8)))] []))))))))) : KW E mX8_add (qV f) M 3 [(0, pR 2), (1, pI x1), (2, pI x2)] [] := by
  refine w_iload_n dX8_add_3 rfl ?_
  obtain ⟨o1, h⟩ := h
  refine w_if_lt dX8_add_4 rfl o1 (fun c => ?_) (fun c => ?_)
  · have h := h.1 c
    exact k_vret dX8_add_49 rfl h
  · have h := h.2 c
    refine w_aload_n dX8_add_7 rfl ?_
    refine w_getI (x := (M 2 2)) dX8_add_8 fX8_34 rfl rfl rfl (fun g2 => ?_)
    have h := h g2
    refine w_sipush dX8_add_11 (by decide) ?_
    refine w_icmp_ge dX8_add_14 rfl ⟨g2, (by decide)⟩ (fun c => ?_) (fun c => ?_)
    · have h := h.1 c
      refine w_iinc dX8_add_43 rfl (by decide) ?_
      refine w_goto dX8_add_46 rfl ?_
      exact k_pick [1, 2, 0] rfl h
    · have h := h.2 c
      refine w_aload_n dX8_add_17 rfl ?_
      refine w_getR dX8_add_18 fX8_9 rfl rfl rfl ?_
      refine w_aload_n dX8_add_21 rfl ?_
      refine w_getI (x := (M 2 2)) dX8_add_22 fX8_34 rfl rfl rfl (fun g3 => ?_)
      have h := h g3
      refine w_iload_n dX8_add_25 rfl ?_
      refine w_iload_n dX8_add_26 rfl ?_
      refine w_ishr dX8_add_27 ?_
      refine w_sipush dX8_add_28 (by decide) ?_
      refine w_iand dX8_add_31 ?_
      obtain ⟨o4, h⟩ := h
      refine w_iast dX8_add_32 rfl o4 (bAnd_r _ _) ?_
      refine w_aload_n dX8_add_33 rfl ?_
      refine w_dup dX8_add_34 rfl ?_
      refine w_getI (x := (M 2 2)) dX8_add_35 fX8_34 rfl rfl rfl (fun g5 => ?_)
      have h := h g5
      refine w_iconst dX8_add_38 ?_
      refine w_iadd dX8_add_39 ?_
      obtain ⟨o6, h⟩ := h
      refine w_putI dX8_add_40 (Or.inl ⟨rfl, fX8_34⟩) rfl rfl o6 ?_
      refine w_iinc dX8_add_43 rfl (by decide) ?_
      refine w_goto dX8_add_46 rfl ?_
      exact k_pick [1, 2, 0] rfl h
theorem vX8_begin_0 {E : Scr} {f : Mem → Prop} {M : Mem} (x1 : Int) (h : ((iR (M 2 2)) → (iR x1) ∧ (CV E mX8_advance [pR 2] (upM (upM M 2 3 (min x1 (M 2 2))) 2 4 0) (fun M4 => f M4)))) : CV E mX8_begin [pR 2, pI x1] M f := by
  refine (show KW E mX8_begin (qV f) M 0 [(0, pR 2), (1, pI x1)] [] from ?_)
  refine w_aload_n dX8_begin_0 rfl ?_
  refine w_iload_n dX8_begin_1 rfl ?_
  refine w_aload_n dX8_begin_2 rfl ?_
  refine w_getI (x := (M 2 2)) dX8_begin_3 fX8_34 rfl rfl rfl (fun g1 => ?_)
  have h := h g1
  obtain ⟨o2, h⟩ := h
  refine w_imin dX8_begin_6 kX8_38 ⟨by decide, Nat.le_of_ble_eq_true rfl⟩ ⟨by decide, by decide⟩ ⟨o2, g1⟩ ?_
  refine w_putI dX8_begin_9 (Or.inl ⟨rfl, fX8_43⟩) rfl rfl (min_r o2 g1) ?_
  refine w_aload_n dX8_begin_12 rfl ?_
  refine w_iconst dX8_begin_13 ?_
  refine w_putI dX8_begin_14 (Or.inl ⟨rfl, fX8_46⟩) rfl rfl (by decide) ?_
  refine w_aload_n dX8_begin_17 rfl ?_
  refine k_vV (as := []) dX8_begin_18 kX8_49 ⟨⟨Nat.le_of_ble_eq_true rfl, rfl, rfl⟩, Nat.le_of_ble_eq_true rfl⟩ rfl (by decide) rfl (Nat.le_of_ble_eq_true rfl) h ?_
  intro M4 h
  exact k_vret dX8_begin_21 rfl h
theorem vX8_between_0 {E : Scr} {f : Int → Mem → Prop} {M : Mem} (x1 x2 : Int) (h : ((iR (M 2 4)) → ((iR (M 2 3)) → (((M 2 4) ≥ (M 2 3) → f 0 M) ∧ ((M 2 4) < (M 2 3) → ((iR (M 2 4)) → (((M 2 4) ≥ 700 → f 0 M) ∧ ((M 2 4) < 700 → ((iR (M 2 4)) → (0 ≤ (M 2 4) ∧ (M 2 4) < 700) ∧ ((iR (M 3 ((M 2 4).toNat))) → (iR x1) ∧ (((M 3 ((M 2 4).toNat)) < x1 → f 0 M) ∧ ((M 3 ((M 2 4).toNat)) ≥ x1 → ((iR (M 2 4)) → (0 ≤ (M 2 4) ∧ (M 2 4) < 700) ∧ ((iR (M 3 ((M 2 4).toNat))) → (iR x2) ∧ (((M 3 ((M 2 4).toNat)) > x2 → f 0 M) ∧ ((M 3 ((M 2 4).toNat)) ≤ x2 → f 1 M)))))))))))))))) : CI E mX8_between [pR 2, pI x1, pI x2] M f := by
  refine (show KW E mX8_between (qI f) M 0 [(0, pR 2), (1, pI x1), (2, pI x2)] [] from ?_)
  refine w_aload_n dX8_between_0 rfl ?_
  refine w_getI (x := (M 2 4)) dX8_between_1 fX8_46 rfl rfl rfl (fun g1 => ?_)
  have h := h g1
  refine w_aload_n dX8_between_4 rfl ?_
  refine w_getI (x := (M 2 3)) dX8_between_5 fX8_43 rfl rfl rfl (fun g2 => ?_)
  have h := h g2
  refine w_icmp_ge dX8_between_8 rfl ⟨g1, g2⟩ (fun c => ?_) (fun c => ?_)
  · have h := h.1 c
    refine w_iconst dX8_between_51 ?_
    exact k_zret dX8_between_52 rfl (by decide) h
  · have h := h.2 c
    refine w_aload_n dX8_between_11 rfl ?_
    refine w_getI (x := (M 2 4)) dX8_between_12 fX8_46 rfl rfl rfl (fun g3 => ?_)
    have h := h g3
    refine w_sipush dX8_between_15 (by decide) ?_
    refine w_icmp_ge dX8_between_18 rfl ⟨g3, (by decide)⟩ (fun c => ?_) (fun c => ?_)
    · have h := h.1 c
      refine w_iconst dX8_between_51 ?_
      exact k_zret dX8_between_52 rfl (by decide) h
    · have h := h.2 c
      refine w_aload_n dX8_between_21 rfl ?_
      refine w_getR dX8_between_22 fX8_9 rfl rfl rfl ?_
      refine w_aload_n dX8_between_25 rfl ?_
      refine w_getI (x := (M 2 4)) dX8_between_26 fX8_46 rfl rfl rfl (fun g4 => ?_)
      have h := h g4
      obtain ⟨o5, h⟩ := h
      refine w_iald (x := (M 3 ((M 2 4).toNat))) dX8_between_29 rfl o5 rfl (fun g6 => ?_)
      have h := h g6
      refine w_iload_n dX8_between_30 rfl ?_
      obtain ⟨o7, h⟩ := h
      refine w_icmp_lt dX8_between_31 rfl ⟨g6, o7⟩ (fun c => ?_) (fun c => ?_)
      · have h := h.1 c
        refine w_iconst dX8_between_51 ?_
        exact k_zret dX8_between_52 rfl (by decide) h
      · have h := h.2 c
        refine w_aload_n dX8_between_34 rfl ?_
        refine w_getR dX8_between_35 fX8_9 rfl rfl rfl ?_
        refine w_aload_n dX8_between_38 rfl ?_
        refine w_getI (x := (M 2 4)) dX8_between_39 fX8_46 rfl rfl rfl (fun g8 => ?_)
        have h := h g8
        obtain ⟨o9, h⟩ := h
        refine w_iald (x := (M 3 ((M 2 4).toNat))) dX8_between_42 rfl o9 rfl (fun g10 => ?_)
        have h := h g10
        refine w_iload_n dX8_between_43 rfl ?_
        obtain ⟨o11, h⟩ := h
        refine w_icmp_gt dX8_between_44 rfl ⟨g10, o11⟩ (fun c => ?_) (fun c => ?_)
        · have h := h.1 c
          refine w_iconst dX8_between_51 ?_
          exact k_zret dX8_between_52 rfl (by decide) h
        · have h := h.2 c
          refine w_iconst dX8_between_47 ?_
          refine w_goto dX8_between_48 rfl ?_
          exact k_zret dX8_between_52 rfl (by decide) h
theorem vX8_advance_in {E : Scr} {f : Mem → Prop} {M : Mem} (h : (KW E mX8_advance (qV f) M 0 [(0, pR 2)] [])) : CV E mX8_advance [pR 2] M f := by
  refine (show KW E mX8_advance (qV f) M 0 [(0, pR 2)] [] from ?_)
  exact k_pick [0] rfl h
theorem vX8_advance_0 {E : Scr} {f : Mem → Prop} {M : Mem} (h : ((iR (M 2 4)) → ((iR (M 2 3)) → (((M 2 4) ≥ (M 2 3) → (KW E mX8_advance (qV f) M 46 [(0, pR 2)] [])) ∧ ((M 2 4) < (M 2 3) → (CI E mX8_between [pR 2, pI 32, pI 32] M (fun r3 M4 => (iR r3) ∧ ((r3 ≠ 0 → ((iR (M4 2 4)) → (iR ((M4 2 4) + 1)) ∧ (KW E mX8_advance (qV f) (upM M4 2 4 ((M4 2 4) + 1)) 0 [(0, pR 2)] []))) ∧ (r3 = 0 → (CI E mX8_between [pR 2, pI 10, pI 10] M4 (fun r8 M9 => (iR r8) ∧ ((r8 = 0 → (KW E mX8_advance (qV f) M9 46 [(0, pR 2)] [])) ∧ (r8 ≠ 0 → ((iR (M9 2 4)) → (iR ((M9 2 4) + 1)) ∧ (KW E mX8_advance (qV f) (upM M9 2 4 ((M9 2 4) + 1)) 0 [(0, pR 2)] []))))))))))))))) : KW E mX8_advance (qV f) M 0 [(0, pR 2)] [] := by
  refine w_aload_n dX8_advance_0 rfl ?_
  refine w_getI (x := (M 2 4)) dX8_advance_1 fX8_46 rfl rfl rfl (fun g1 => ?_)
  have h := h g1
  refine w_aload_n dX8_advance_4 rfl ?_
  refine w_getI (x := (M 2 3)) dX8_advance_5 fX8_43 rfl rfl rfl (fun g2 => ?_)
  have h := h g2
  refine w_icmp_ge dX8_advance_8 rfl ⟨g1, g2⟩ (fun c => ?_) (fun c => ?_)
  · have h := h.1 c
    exact k_pick [0] rfl h
  · have h := h.2 c
    refine w_aload_n dX8_advance_11 rfl ?_
    refine w_bipush dX8_advance_12 (by decide) ?_
    refine w_bipush dX8_advance_14 (by decide) ?_
    refine k_vI (as := [pI 32, pI 32]) dX8_advance_16 kX8_52 ⟨⟨Nat.le_of_ble_eq_true rfl, rfl, rfl⟩, Nat.le_of_ble_eq_true rfl⟩ rfl (by decide) rfl (Nat.le_of_ble_eq_true rfl) h ?_
    intro r3 M4 h
    obtain ⟨o5, h⟩ := h
    refine w_if_ne dX8_advance_19 rfl o5 (fun c => ?_) (fun c => ?_)
    · have h := h.1 c
      refine w_aload_n dX8_advance_33 rfl ?_
      refine w_dup dX8_advance_34 rfl ?_
      refine w_getI (x := (M4 2 4)) dX8_advance_35 fX8_46 rfl rfl rfl (fun g6 => ?_)
      have h := h g6
      refine w_iconst dX8_advance_38 ?_
      refine w_iadd dX8_advance_39 ?_
      obtain ⟨o7, h⟩ := h
      refine w_putI dX8_advance_40 (Or.inl ⟨rfl, fX8_46⟩) rfl rfl o7 ?_
      refine w_goto dX8_advance_43 rfl ?_
      exact k_pick [0] rfl h
    · have h := h.2 c
      refine w_aload_n dX8_advance_22 rfl ?_
      refine w_bipush dX8_advance_23 (by decide) ?_
      refine w_bipush dX8_advance_25 (by decide) ?_
      refine k_vI (as := [pI 10, pI 10]) dX8_advance_27 kX8_52 ⟨⟨Nat.le_of_ble_eq_true rfl, rfl, rfl⟩, Nat.le_of_ble_eq_true rfl⟩ rfl (by decide) rfl (Nat.le_of_ble_eq_true rfl) h ?_
      intro r8 M9 h
      obtain ⟨o10, h⟩ := h
      refine w_if_eq dX8_advance_30 rfl o10 (fun c => ?_) (fun c => ?_)
      · have h := h.1 c
        exact k_pick [0] rfl h
      · have h := h.2 c
        refine w_aload_n dX8_advance_33 rfl ?_
        refine w_dup dX8_advance_34 rfl ?_
        refine w_getI (x := (M9 2 4)) dX8_advance_35 fX8_46 rfl rfl rfl (fun g11 => ?_)
        have h := h g11
        refine w_iconst dX8_advance_38 ?_
        refine w_iadd dX8_advance_39 ?_
        obtain ⟨o12, h⟩ := h
        refine w_putI dX8_advance_40 (Or.inl ⟨rfl, fX8_46⟩) rfl rfl o12 ?_
        refine w_goto dX8_advance_43 rfl ?_
        exact k_pick [0] rfl h
theorem vX8_advance_46 {E : Scr} {f : Mem → Prop} {M : Mem} (h : ((iR (M 2 4)) → ((iR (M 2 4)) → ((iR (M 2 3)) → (((M 2 4) < (M 2 3) → (CI E mX8_between [pR 2, pI 97, pI 122] (upM (upM M 2 6 (M 2 4)) 2 7 0) (fun r4 M5 => (iR r4) ∧ ((r4 = 0 → (CI E mX8_between [pR 2, pI 48, pI 57] M5 (fun r7 M8 => (iR r7) ∧ ((r7 = 0 → (CV E mX8_readSign [pR 2] M8 (fun M11 => f M11))) ∧ (r7 ≠ 0 → (CV E mX8_readNumber [pR 2] M8 (fun M13 => f M13))))))) ∧ (r4 ≠ 0 → (CV E mX8_readWord [pR 2] M5 (fun M15 => f M15))))))) ∧ ((M 2 4) ≥ (M 2 3) → f (upM (upM (upM M 2 6 (M 2 4)) 2 7 0) 2 5 39))))))) : KW E mX8_advance (qV f) M 46 [(0, pR 2)] [] := by
  refine w_aload_n dX8_advance_46 rfl ?_
  refine w_aload_n dX8_advance_47 rfl ?_
  refine w_getI (x := (M 2 4)) dX8_advance_48 fX8_46 rfl rfl rfl (fun g1 => ?_)
  have h := h g1
  refine w_putI dX8_advance_51 (Or.inl ⟨rfl, fX8_56⟩) rfl rfl g1 ?_
  refine w_aload_n dX8_advance_54 rfl ?_
  refine w_iconst dX8_advance_55 ?_
  refine w_putI dX8_advance_56 (Or.inl ⟨rfl, fX8_59⟩) rfl rfl (by decide) ?_
  refine w_aload_n dX8_advance_59 rfl ?_
  refine w_getI (x := (M 2 4)) dX8_advance_60 fX8_46 rfl rfl rfl (fun g2 => ?_)
  have h := h g2
  refine w_aload_n dX8_advance_63 rfl ?_
  refine w_getI (x := (M 2 3)) dX8_advance_64 fX8_43 rfl rfl rfl (fun g3 => ?_)
  have h := h g3
  refine w_icmp_lt dX8_advance_67 rfl ⟨g2, g3⟩ (fun c => ?_) (fun c => ?_)
  · have h := h.1 c
    refine w_aload_n dX8_advance_79 rfl ?_
    refine w_bipush dX8_advance_80 (by decide) ?_
    refine w_bipush dX8_advance_82 (by decide) ?_
    refine k_vI (as := [pI 97, pI 122]) dX8_advance_84 kX8_52 ⟨⟨Nat.le_of_ble_eq_true rfl, rfl, rfl⟩, Nat.le_of_ble_eq_true rfl⟩ rfl (by decide) rfl (Nat.le_of_ble_eq_true rfl) h ?_
    intro r4 M5 h
    obtain ⟨o6, h⟩ := h
    refine w_if_eq dX8_advance_87 rfl o6 (fun c => ?_) (fun c => ?_)
    · have h := h.1 c
      refine w_aload_n dX8_advance_97 rfl ?_
      refine w_bipush dX8_advance_98 (by decide) ?_
      refine w_bipush dX8_advance_100 (by decide) ?_
      refine k_vI (as := [pI 48, pI 57]) dX8_advance_102 kX8_52 ⟨⟨Nat.le_of_ble_eq_true rfl, rfl, rfl⟩, Nat.le_of_ble_eq_true rfl⟩ rfl (by decide) rfl (Nat.le_of_ble_eq_true rfl) h ?_
      intro r7 M8 h
      obtain ⟨o9, h⟩ := h
      refine w_if_eq dX8_advance_105 rfl o9 (fun c => ?_) (fun c => ?_)
      · have h := h.1 c
        refine w_aload_n dX8_advance_115 rfl ?_
        refine k_vV (as := []) dX8_advance_116 kX8_71 ⟨⟨Nat.le_of_ble_eq_true rfl, rfl, rfl⟩, Nat.le_of_ble_eq_true rfl⟩ rfl (by decide) rfl (Nat.le_of_ble_eq_true rfl) h ?_
        intro M11 h
        exact k_vret dX8_advance_119 rfl h
      · have h := h.2 c
        refine w_aload_n dX8_advance_108 rfl ?_
        refine k_vV (as := []) dX8_advance_109 kX8_68 ⟨⟨Nat.le_of_ble_eq_true rfl, rfl, rfl⟩, Nat.le_of_ble_eq_true rfl⟩ rfl (by decide) rfl (Nat.le_of_ble_eq_true rfl) h ?_
        intro M13 h
        refine w_goto dX8_advance_112 rfl ?_
        exact k_vret dX8_advance_119 rfl h
    · have h := h.2 c
      refine w_aload_n dX8_advance_90 rfl ?_
      refine k_vV (as := []) dX8_advance_91 kX8_65 ⟨⟨Nat.le_of_ble_eq_true rfl, rfl, rfl⟩, Nat.le_of_ble_eq_true rfl⟩ rfl (by decide) rfl (Nat.le_of_ble_eq_true rfl) h ?_
      intro M15 h
      refine w_goto dX8_advance_94 rfl ?_
      exact k_vret dX8_advance_119 rfl h
  · have h := h.2 c
    refine w_aload_n dX8_advance_70 rfl ?_
    refine w_bipush dX8_advance_71 (by decide) ?_
    refine w_putI dX8_advance_73 (Or.inl ⟨rfl, fX8_62⟩) rfl rfl (by decide) ?_
    refine w_goto dX8_advance_76 rfl ?_
    exact k_vret dX8_advance_119 rfl h
theorem vX8_readWord_in {E : Scr} {f : Mem → Prop} {M : Mem} (h : (KW E mX8_readWord (qV f) M 0 [(0, pR 2)] [])) : CV E mX8_readWord [pR 2] M f := by
  refine (show KW E mX8_readWord (qV f) M 0 [(0, pR 2)] [] from ?_)
  exact k_pick [0] rfl h
theorem vX8_readWord_0 {E : Scr} {f : Mem → Prop} {M : Mem} (h : ((iR (M 2 4)) → ((iR (M 2 3)) → (((M 2 4) ≥ (M 2 3) → ((iR (M 2 4)) → ((iR (M 2 6)) → (iR ((M 2 4) - (M 2 6))) ∧ ((((M 2 4) - (M 2 6)) ≤ 6 → (KW E mX8_readWord (qV f) (upM M 2 5 38) 94 [(0, pR 2), (1, pI 0)] [])) ∧ (((M 2 4) - (M 2 6)) > 6 → f (upM M 2 5 40)))))) ∧ ((M 2 4) < (M 2 3) → (CI E mX8_between [pR 2, pI 97, pI 122] M (fun r6 M7 => (iR r6) ∧ ((r6 = 0 → ((iR (M7 2 4)) → ((iR (M7 2 6)) → (iR ((M7 2 4) - (M7 2 6))) ∧ ((((M7 2 4) - (M7 2 6)) ≤ 6 → (KW E mX8_readWord (qV f) (upM M7 2 5 38) 94 [(0, pR 2), (1, pI 0)] [])) ∧ (((M7 2 4) - (M7 2 6)) > 6 → f (upM M7 2 5 40)))))) ∧ (r6 ≠ 0 → ((iR (M7 2 7)) → ((iR (M7 2 4)) → (0 ≤ (M7 2 4) ∧ (M7 2 4) < 700) ∧ ((iR (M7 3 ((M7 2 4).toNat))) → ((iR (M7 2 4)) → ((iR (M7 2 6)) → (CI E mX8_letterBits [pI (M7 3 ((M7 2 4).toNat)), pI ((M7 2 4) - (M7 2 6))] M7 (fun r18 M19 => ((iR (M19 2 4)) → (iR ((M19 2 4) + 1)) ∧ (KW E mX8_readWord (qV f) (upM (upM M19 2 7 (bOr (M7 2 7) r18)) 2 4 ((M19 2 4) + 1)) 0 [(0, pR 2)] [])))))))))))))))))) : KW E mX8_readWord (qV f) M 0 [(0, pR 2)] [] := by
  refine w_aload_n dX8_readWord_0 rfl ?_
  refine w_getI (x := (M 2 4)) dX8_readWord_1 fX8_46 rfl rfl rfl (fun g1 => ?_)
  have h := h g1
  refine w_aload_n dX8_readWord_4 rfl ?_
  refine w_getI (x := (M 2 3)) dX8_readWord_5 fX8_43 rfl rfl rfl (fun g2 => ?_)
  have h := h g2
  refine w_icmp_ge dX8_readWord_8 rfl ⟨g1, g2⟩ (fun c => ?_) (fun c => ?_)
  · have h := h.1 c
    refine w_aload_n dX8_readWord_65 rfl ?_
    refine w_getI (x := (M 2 4)) dX8_readWord_66 fX8_46 rfl rfl rfl (fun g3 => ?_)
    have h := h g3
    refine w_aload_n dX8_readWord_69 rfl ?_
    refine w_getI (x := (M 2 6)) dX8_readWord_70 fX8_56 rfl rfl rfl (fun g4 => ?_)
    have h := h g4
    refine w_isub dX8_readWord_73 ?_
    refine w_bipush dX8_readWord_74 (by decide) ?_
    obtain ⟨o5, h⟩ := h
    refine w_icmp_le dX8_readWord_76 rfl ⟨o5, (by decide)⟩ (fun c => ?_) (fun c => ?_)
    · have h := h.1 c
      refine w_aload_n dX8_readWord_86 rfl ?_
      refine w_bipush dX8_readWord_87 (by decide) ?_
      refine w_putI dX8_readWord_89 (Or.inl ⟨rfl, fX8_62⟩) rfl rfl (by decide) ?_
      refine w_iconst dX8_readWord_92 ?_
      refine w_istore_n dX8_readWord_93 (by decide) ?_
      exact k_pick [1, 0] rfl h
    · have h := h.2 c
      refine w_aload_n dX8_readWord_79 rfl ?_
      refine w_bipush dX8_readWord_80 (by decide) ?_
      refine w_putI dX8_readWord_82 (Or.inl ⟨rfl, fX8_62⟩) rfl rfl (by decide) ?_
      exact k_vret dX8_readWord_85 rfl h
  · have h := h.2 c
    refine w_aload_n dX8_readWord_11 rfl ?_
    refine w_bipush dX8_readWord_12 (by decide) ?_
    refine w_bipush dX8_readWord_14 (by decide) ?_
    refine k_vI (as := [pI 97, pI 122]) dX8_readWord_16 kX8_52 ⟨⟨Nat.le_of_ble_eq_true rfl, rfl, rfl⟩, Nat.le_of_ble_eq_true rfl⟩ rfl (by decide) rfl (Nat.le_of_ble_eq_true rfl) h ?_
    intro r6 M7 h
    obtain ⟨o8, h⟩ := h
    refine w_if_eq dX8_readWord_19 rfl o8 (fun c => ?_) (fun c => ?_)
    · have h := h.1 c
      refine w_aload_n dX8_readWord_65 rfl ?_
      refine w_getI (x := (M7 2 4)) dX8_readWord_66 fX8_46 rfl rfl rfl (fun g9 => ?_)
      have h := h g9
      refine w_aload_n dX8_readWord_69 rfl ?_
      refine w_getI (x := (M7 2 6)) dX8_readWord_70 fX8_56 rfl rfl rfl (fun g10 => ?_)
      have h := h g10
      refine w_isub dX8_readWord_73 ?_
      refine w_bipush dX8_readWord_74 (by decide) ?_
      obtain ⟨o11, h⟩ := h
      refine w_icmp_le dX8_readWord_76 rfl ⟨o11, (by decide)⟩ (fun c => ?_) (fun c => ?_)
      · have h := h.1 c
        refine w_aload_n dX8_readWord_86 rfl ?_
        refine w_bipush dX8_readWord_87 (by decide) ?_
        refine w_putI dX8_readWord_89 (Or.inl ⟨rfl, fX8_62⟩) rfl rfl (by decide) ?_
        refine w_iconst dX8_readWord_92 ?_
        refine w_istore_n dX8_readWord_93 (by decide) ?_
        exact k_pick [1, 0] rfl h
      · have h := h.2 c
        refine w_aload_n dX8_readWord_79 rfl ?_
        refine w_bipush dX8_readWord_80 (by decide) ?_
        refine w_putI dX8_readWord_82 (Or.inl ⟨rfl, fX8_62⟩) rfl rfl (by decide) ?_
        exact k_vret dX8_readWord_85 rfl h
    · have h := h.2 c
      refine w_aload_n dX8_readWord_22 rfl ?_
      refine w_dup dX8_readWord_23 rfl ?_
      refine w_getI (x := (M7 2 7)) dX8_readWord_24 fX8_59 rfl rfl rfl (fun g12 => ?_)
      have h := h g12
      refine w_aload_n dX8_readWord_27 rfl ?_
      refine w_getR dX8_readWord_28 fX8_9 rfl rfl rfl ?_
      refine w_aload_n dX8_readWord_31 rfl ?_
      refine w_getI (x := (M7 2 4)) dX8_readWord_32 fX8_46 rfl rfl rfl (fun g13 => ?_)
      have h := h g13
      obtain ⟨o14, h⟩ := h
      refine w_iald (x := (M7 3 ((M7 2 4).toNat))) dX8_readWord_35 rfl o14 rfl (fun g15 => ?_)
      have h := h g15
      refine w_aload_n dX8_readWord_36 rfl ?_
      refine w_getI (x := (M7 2 4)) dX8_readWord_37 fX8_46 rfl rfl rfl (fun g16 => ?_)
      have h := h g16
      refine w_aload_n dX8_readWord_40 rfl ?_
      refine w_getI (x := (M7 2 6)) dX8_readWord_41 fX8_56 rfl rfl rfl (fun g17 => ?_)
      have h := h g17
      refine w_isub dX8_readWord_44 ?_
      refine k_sI (as := [pI (M7 3 ((M7 2 4).toNat)), pI ((M7 2 4) - (M7 2 6))]) dX8_readWord_45 kX8_30 ⟨⟨Nat.le_of_ble_eq_true rfl, rfl, rfl⟩, Nat.le_of_ble_eq_true rfl⟩ rfl (Nat.le_of_ble_eq_true rfl) h ?_
      intro r18 M19 h
      refine w_ior dX8_readWord_48 ?_
      refine w_putI dX8_readWord_49 (Or.inl ⟨rfl, fX8_59⟩) rfl rfl (bOr_r _ _) ?_
      refine w_aload_n dX8_readWord_52 rfl ?_
      refine w_dup dX8_readWord_53 rfl ?_
      refine w_getI (x := (M19 2 4)) dX8_readWord_54 fX8_46 rfl rfl rfl (fun g20 => ?_)
      have h := h g20
      refine w_iconst dX8_readWord_57 ?_
      refine w_iadd dX8_readWord_58 ?_
      obtain ⟨o21, h⟩ := h
      refine w_putI dX8_readWord_59 (Or.inl ⟨rfl, fX8_46⟩) rfl rfl o21 ?_
      refine w_goto dX8_readWord_62 rfl ?_
      exact k_pick [0] rfl h
theorem vX8_readWord_94 {E : Scr} {f : Mem → Prop} {M : Mem} (x1 : Int) (h : (iR x1) ∧ ((x1 ≥ 24 → f M) ∧ (x1 < 24 → (0 ≤ x1 ∧ x1 < 24) ∧ ((iR (M 4 x1.toNat)) → ((iR (M 2 7)) → (((M 4 x1.toNat) ≠ (M 2 7) → (KW E mX8_readWord (qV f) M 94 [(0, pR 2), (1, pI (x1 + 1))] [])) ∧ ((M 4 x1.toNat) = (M 2 7) → (iR x1) ∧ (KW E mX8_readWord (qV f) (upM M 2 5 x1) 94 [(0, pR 2), (1, pI (x1 + 1))] [])))))))) : KW E mX8_readWord (qV f) M 94 [(0, pR 2), (1, pI x1)] [] := by
  refine w_iload_n dX8_readWord_94 rfl ?_
  refine w_bipush dX8_readWord_95 (by decide) ?_
  obtain ⟨o1, h⟩ := h
  refine w_icmp_ge dX8_readWord_97 rfl ⟨o1, (by decide)⟩ (fun c => ?_) (fun c => ?_)
  · have h := h.1 c
    exact k_vret dX8_readWord_124 rfl h
  · have h := h.2 c
    refine w_aload_n dX8_readWord_100 rfl ?_
    refine w_getR dX8_readWord_101 fX8_15 rfl rfl rfl ?_
    refine w_iload_n dX8_readWord_104 rfl ?_
    obtain ⟨o2, h⟩ := h
    refine w_iald (x := (M 4 x1.toNat)) dX8_readWord_105 rfl o2 rfl (fun g3 => ?_)
    have h := h g3
    refine w_aload_n dX8_readWord_106 rfl ?_
    refine w_getI (x := (M 2 7)) dX8_readWord_107 fX8_59 rfl rfl rfl (fun g4 => ?_)
    have h := h g4
    refine w_icmp_ne dX8_readWord_110 rfl ⟨g3, g4⟩ (fun c => ?_) (fun c => ?_)
    · have h := h.1 c
      refine w_iinc dX8_readWord_118 rfl (by decide) ?_
      refine w_goto dX8_readWord_121 rfl ?_
      exact k_pick [1, 0] rfl h
    · have h := h.2 c
      refine w_aload_n dX8_readWord_113 rfl ?_
      refine w_iload_n dX8_readWord_114 rfl ?_
      obtain ⟨o5, h⟩ := h
      refine w_putI dX8_readWord_115 (Or.inl ⟨rfl, fX8_62⟩) rfl rfl o5 ?_
      refine w_iinc dX8_readWord_118 rfl (by decide) ?_
      refine w_goto dX8_readWord_121 rfl ?_
      exact k_pick [1, 0] rfl h
theorem vX8_readNumber_0 {E : Scr} {f : Mem → Prop} {M : Mem} (h : (KW E mX8_readNumber (qV f) (upM M 2 5 37) 6 [(0, pR 2)] [])) : CV E mX8_readNumber [pR 2] M f := by
  refine (show KW E mX8_readNumber (qV f) M 0 [(0, pR 2)] [] from ?_)
  refine w_aload_n dX8_readNumber_0 rfl ?_
  refine w_bipush dX8_readNumber_1 (by decide) ?_
  refine w_putI dX8_readNumber_3 (Or.inl ⟨rfl, fX8_62⟩) rfl rfl (by decide) ?_
  exact k_pick [0] rfl h
theorem vX8_readNumber_6 {E : Scr} {f : Mem → Prop} {M : Mem} (h : ((iR (M 2 4)) → ((iR (M 2 3)) → (((M 2 4) ≥ (M 2 3) → f M) ∧ ((M 2 4) < (M 2 3) → (CI E mX8_between [pR 2, pI 48, pI 57] M (fun r3 M4 => (iR r3) ∧ ((r3 = 0 → f M4) ∧ (r3 ≠ 0 → ((iR (M4 2 7)) → ((iR (M4 2 4)) → (0 ≤ (M4 2 4) ∧ (M4 2 4) < 700) ∧ ((iR (M4 3 ((M4 2 4).toNat))) → (iR ((((M4 2 7) * 10) + (M4 3 ((M4 2 4).toNat))) - 48)) ∧ ((iR (M4 2 4)) → (iR ((M4 2 4) + 1)) ∧ (KW E mX8_readNumber (qV f) (upM (upM M4 2 7 (min 1000000 ((((M4 2 7) * 10) + (M4 3 ((M4 2 4).toNat))) - 48))) 2 4 ((M4 2 4) + 1)) 6 [(0, pR 2)] [])))))))))))))) : KW E mX8_readNumber (qV f) M 6 [(0, pR 2)] [] := by
  refine w_aload_n dX8_readNumber_6 rfl ?_
  refine w_getI (x := (M 2 4)) dX8_readNumber_7 fX8_46 rfl rfl rfl (fun g1 => ?_)
  have h := h g1
  refine w_aload_n dX8_readNumber_10 rfl ?_
  refine w_getI (x := (M 2 3)) dX8_readNumber_11 fX8_43 rfl rfl rfl (fun g2 => ?_)
  have h := h g2
  refine w_icmp_ge dX8_readNumber_14 rfl ⟨g1, g2⟩ (fun c => ?_) (fun c => ?_)
  · have h := h.1 c
    exact k_vret dX8_readNumber_70 rfl h
  · have h := h.2 c
    refine w_aload_n dX8_readNumber_17 rfl ?_
    refine w_bipush dX8_readNumber_18 (by decide) ?_
    refine w_bipush dX8_readNumber_20 (by decide) ?_
    refine k_vI (as := [pI 48, pI 57]) dX8_readNumber_22 kX8_52 ⟨⟨Nat.le_of_ble_eq_true rfl, rfl, rfl⟩, Nat.le_of_ble_eq_true rfl⟩ rfl (by decide) rfl (Nat.le_of_ble_eq_true rfl) h ?_
    intro r3 M4 h
    obtain ⟨o5, h⟩ := h
    refine w_if_eq dX8_readNumber_25 rfl o5 (fun c => ?_) (fun c => ?_)
    · have h := h.1 c
      exact k_vret dX8_readNumber_70 rfl h
    · have h := h.2 c
      refine w_aload_n dX8_readNumber_28 rfl ?_
      refine w_ldc dX8_readNumber_29 qX8_74 ?_
      refine w_aload_n dX8_readNumber_31 rfl ?_
      refine w_getI (x := (M4 2 7)) dX8_readNumber_32 fX8_59 rfl rfl rfl (fun g6 => ?_)
      have h := h g6
      refine w_bipush dX8_readNumber_35 (by decide) ?_
      refine w_imul dX8_readNumber_37 ?_
      refine w_aload_n dX8_readNumber_38 rfl ?_
      refine w_getR dX8_readNumber_39 fX8_9 rfl rfl rfl ?_
      refine w_aload_n dX8_readNumber_42 rfl ?_
      refine w_getI (x := (M4 2 4)) dX8_readNumber_43 fX8_46 rfl rfl rfl (fun g7 => ?_)
      have h := h g7
      obtain ⟨o8, h⟩ := h
      refine w_iald (x := (M4 3 ((M4 2 4).toNat))) dX8_readNumber_46 rfl o8 rfl (fun g9 => ?_)
      have h := h g9
      refine w_iadd dX8_readNumber_47 ?_
      refine w_bipush dX8_readNumber_48 (by decide) ?_
      refine w_isub dX8_readNumber_50 ?_
      obtain ⟨o10, h⟩ := h
      refine w_imin dX8_readNumber_51 kX8_38 ⟨by decide, Nat.le_of_ble_eq_true rfl⟩ ⟨by decide, by decide⟩ ⟨(by decide), o10⟩ ?_
      refine w_putI dX8_readNumber_54 (Or.inl ⟨rfl, fX8_59⟩) rfl rfl (min_r (by decide) o10) ?_
      refine w_aload_n dX8_readNumber_57 rfl ?_
      refine w_dup dX8_readNumber_58 rfl ?_
      refine w_getI (x := (M4 2 4)) dX8_readNumber_59 fX8_46 rfl rfl rfl (fun g11 => ?_)
      have h := h g11
      refine w_iconst dX8_readNumber_62 ?_
      refine w_iadd dX8_readNumber_63 ?_
      obtain ⟨o12, h⟩ := h
      refine w_putI dX8_readNumber_64 (Or.inl ⟨rfl, fX8_46⟩) rfl rfl o12 ?_
      refine w_goto dX8_readNumber_67 rfl ?_
      exact k_pick [0] rfl h
theorem vX8_readSign_0 {E : Scr} {f : Mem → Prop} {M : Mem} (h : ((iR (M 2 4)) → (((M 2 4) ≥ 700 → ((iR (M 2 4)) → (iR ((M 2 4) + 1)) ∧ (KW E mX8_readSign (qV f) (upM M 2 4 ((M 2 4) + 1)) 52 [(0, pR 2)] [pI 40, pR 2]))) ∧ ((M 2 4) < 700 → ((iR (M 2 4)) → (0 ≤ (M 2 4) ∧ (M 2 4) < 700) ∧ ((iR (M 3 ((M 2 4).toNat))) → (0 ≤ (M 3 ((M 2 4).toNat)) ∧ (M 3 ((M 2 4).toNat)) < 65536) ∧ (CI E mJ0_indexOf_0f7a4 [pX 2, pI (M 3 ((M 2 4).toNat))] M (fun r8 M9 => ((iR (M9 2 4)) → (iR ((M9 2 4) + 1)) ∧ (iR r8) ∧ ((r8 ≥ 0 → (KW E mX8_readSign (qV f) (upM M9 2 4 ((M9 2 4) + 1)) 52 [(0, pR 2)] [pI (24 + r8), pR 2])) ∧ (r8 < 0 → (KW E mX8_readSign (qV f) (upM M9 2 4 ((M9 2 4) + 1)) 52 [(0, pR 2)] [pI 40, pR 2])))))))))))) : CV E mX8_readSign [pR 2] M f := by
  refine (show KW E mX8_readSign (qV f) M 0 [(0, pR 2)] [] from ?_)
  refine w_iconst dX8_readSign_0 ?_
  refine w_istore_n dX8_readSign_1 (by decide) ?_
  refine w_aload_n dX8_readSign_2 rfl ?_
  refine w_getI (x := (M 2 4)) dX8_readSign_3 fX8_46 rfl rfl rfl (fun g1 => ?_)
  have h := h g1
  refine w_sipush dX8_readSign_6 (by decide) ?_
  refine w_icmp_ge dX8_readSign_9 rfl ⟨g1, (by decide)⟩ (fun c => ?_) (fun c => ?_)
  · have h := h.1 c
    refine w_aload_n dX8_readSign_28 rfl ?_
    refine w_dup dX8_readSign_29 rfl ?_
    refine w_getI (x := (M 2 4)) dX8_readSign_30 fX8_46 rfl rfl rfl (fun g2 => ?_)
    have h := h g2
    refine w_iconst dX8_readSign_33 ?_
    refine w_iadd dX8_readSign_34 ?_
    obtain ⟨o3, h⟩ := h
    refine w_putI dX8_readSign_35 (Or.inl ⟨rfl, fX8_46⟩) rfl rfl o3 ?_
    refine w_aload_n dX8_readSign_38 rfl ?_
    refine w_iload_n dX8_readSign_39 rfl ?_
    refine w_if_ge dX8_readSign_40 rfl (by decide) (fun c => absurd c (by decide)) (fun _ => ?_)
    refine w_bipush dX8_readSign_43 (by decide) ?_
    refine w_goto dX8_readSign_45 rfl ?_
    exact k_pick [1] rfl h
  · have h := h.2 c
    refine w_ldcS (j := 1) (by decide) rfl dX8_readSign_12 ?_
    refine w_aload_n dX8_readSign_14 rfl ?_
    refine w_getR dX8_readSign_15 fX8_9 rfl rfl rfl ?_
    refine w_aload_n dX8_readSign_18 rfl ?_
    refine w_getI (x := (M 2 4)) dX8_readSign_19 fX8_46 rfl rfl rfl (fun g4 => ?_)
    have h := h g4
    obtain ⟨o5, h⟩ := h
    refine w_iald (x := (M 3 ((M 2 4).toNat))) dX8_readSign_22 rfl o5 rfl (fun g6 => ?_)
    have h := h g6
    obtain ⟨o7, h⟩ := h
    refine w_i2c dX8_readSign_23 o7 ?_
    refine k_xI (j := 1) (as := [pI (M 3 ((M 2 4).toNat))]) dX8_readSign_24 oJ0_indexOf_0f7a4 iJ0_indexOf_0f7a4 rfl kX8_77 ⟨⟨Nat.le_of_ble_eq_true rfl, rfl, rfl⟩, Nat.le_of_ble_eq_true rfl⟩ (by decide) rfl (Nat.le_of_ble_eq_true rfl) h ?_
    intro r8 M9 h
    refine w_istore_n dX8_readSign_27 (by decide) ?_
    refine w_aload_n dX8_readSign_28 rfl ?_
    refine w_dup dX8_readSign_29 rfl ?_
    refine w_getI (x := (M9 2 4)) dX8_readSign_30 fX8_46 rfl rfl rfl (fun g10 => ?_)
    have h := h g10
    refine w_iconst dX8_readSign_33 ?_
    refine w_iadd dX8_readSign_34 ?_
    obtain ⟨o11, h⟩ := h
    refine w_putI dX8_readSign_35 (Or.inl ⟨rfl, fX8_46⟩) rfl rfl o11 ?_
    refine w_aload_n dX8_readSign_38 rfl ?_
    refine w_iload_n dX8_readSign_39 rfl ?_
    obtain ⟨o12, h⟩ := h
    refine w_if_ge dX8_readSign_40 rfl o12 (fun c => ?_) (fun c => ?_)
    · have h := h.1 c
      refine w_bipush dX8_readSign_48 (by decide) ?_
      refine w_iload_n dX8_readSign_50 rfl ?_
      refine w_iadd dX8_readSign_51 ?_
      exact k_pick [1] rfl h
    · have h := h.2 c
      refine w_bipush dX8_readSign_43 (by decide) ?_
      refine w_goto dX8_readSign_45 rfl ?_
      exact k_pick [1] rfl h
theorem vX8_readSign_52 {E : Scr} {f : Mem → Prop} {M : Mem} (s0 : Int) (h : (iR s0) ∧ ((iR s0) → ((s0 ≠ 27 → (KW E mX8_readSign (qV f) (upM M 2 5 s0) 94 [(0, pR 2)] [])) ∧ (s0 = 27 → (CI E mX8_between [pR 2, pI 61, pI 61] (upM M 2 5 s0) (fun r3 M4 => (iR r3) ∧ ((r3 = 0 → (KW E mX8_readSign (qV f) M4 94 [(0, pR 2)] [])) ∧ (r3 ≠ 0 → ((iR (M4 2 4)) → (iR ((M4 2 4) + 1)) ∧ f (upM (upM M4 2 5 34) 2 4 ((M4 2 4) + 1))))))))))) : KW E mX8_readSign (qV f) M 52 [(0, pR 2)] [pI s0, pR 2] := by
  obtain ⟨o1, h⟩ := h
  refine w_putI dX8_readSign_52 (Or.inl ⟨rfl, fX8_62⟩) rfl rfl o1 ?_
  refine w_aload_n dX8_readSign_55 rfl ?_
  refine w_getI (x := s0) dX8_readSign_56 fX8_62 rfl rfl rfl (fun g2 => ?_)
  have h := h g2
  refine w_bipush dX8_readSign_59 (by decide) ?_
  refine w_icmp_ne dX8_readSign_61 rfl ⟨g2, (by decide)⟩ (fun c => ?_) (fun c => ?_)
  · have h := h.1 c
    exact k_pick [0] rfl h
  · have h := h.2 c
    refine w_aload_n dX8_readSign_64 rfl ?_
    refine w_bipush dX8_readSign_65 (by decide) ?_
    refine w_bipush dX8_readSign_67 (by decide) ?_
    refine k_vI (as := [pI 61, pI 61]) dX8_readSign_69 kX8_52 ⟨⟨Nat.le_of_ble_eq_true rfl, rfl, rfl⟩, Nat.le_of_ble_eq_true rfl⟩ rfl (by decide) rfl (Nat.le_of_ble_eq_true rfl) h ?_
    intro r3 M4 h
    obtain ⟨o5, h⟩ := h
    refine w_if_eq dX8_readSign_72 rfl o5 (fun c => ?_) (fun c => ?_)
    · have h := h.1 c
      exact k_pick [0] rfl h
    · have h := h.2 c
      refine w_aload_n dX8_readSign_75 rfl ?_
      refine w_bipush dX8_readSign_76 (by decide) ?_
      refine w_putI dX8_readSign_78 (Or.inl ⟨rfl, fX8_62⟩) rfl rfl (by decide) ?_
      refine w_aload_n dX8_readSign_81 rfl ?_
      refine w_dup dX8_readSign_82 rfl ?_
      refine w_getI (x := (M4 2 4)) dX8_readSign_83 fX8_46 rfl rfl rfl (fun g6 => ?_)
      have h := h g6
      refine w_iconst dX8_readSign_86 ?_
      refine w_iadd dX8_readSign_87 ?_
      obtain ⟨o7, h⟩ := h
      refine w_putI dX8_readSign_88 (Or.inl ⟨rfl, fX8_46⟩) rfl rfl o7 ?_
      refine w_goto dX8_readSign_91 rfl ?_
      exact k_vret dX8_readSign_169 rfl h
theorem vX8_readSign_94 {E : Scr} {f : Mem → Prop} {M : Mem} (h : ((iR (M 2 5)) → (((M 2 5) ≠ 27 → (KW E mX8_readSign (qV f) M 133 [(0, pR 2)] [])) ∧ ((M 2 5) = 27 → (CI E mX8_between [pR 2, pI 62, pI 62] M (fun r2 M3 => (iR r2) ∧ ((r2 = 0 → (KW E mX8_readSign (qV f) M3 133 [(0, pR 2)] [])) ∧ (r2 ≠ 0 → ((iR (M3 2 4)) → (iR ((M3 2 4) + 1)) ∧ f (upM (upM M3 2 5 35) 2 4 ((M3 2 4) + 1))))))))))) : KW E mX8_readSign (qV f) M 94 [(0, pR 2)] [] := by
  refine w_aload_n dX8_readSign_94 rfl ?_
  refine w_getI (x := (M 2 5)) dX8_readSign_95 fX8_62 rfl rfl rfl (fun g1 => ?_)
  have h := h g1
  refine w_bipush dX8_readSign_98 (by decide) ?_
  refine w_icmp_ne dX8_readSign_100 rfl ⟨g1, (by decide)⟩ (fun c => ?_) (fun c => ?_)
  · have h := h.1 c
    exact k_pick [0] rfl h
  · have h := h.2 c
    refine w_aload_n dX8_readSign_103 rfl ?_
    refine w_bipush dX8_readSign_104 (by decide) ?_
    refine w_bipush dX8_readSign_106 (by decide) ?_
    refine k_vI (as := [pI 62, pI 62]) dX8_readSign_108 kX8_52 ⟨⟨Nat.le_of_ble_eq_true rfl, rfl, rfl⟩, Nat.le_of_ble_eq_true rfl⟩ rfl (by decide) rfl (Nat.le_of_ble_eq_true rfl) h ?_
    intro r2 M3 h
    obtain ⟨o4, h⟩ := h
    refine w_if_eq dX8_readSign_111 rfl o4 (fun c => ?_) (fun c => ?_)
    · have h := h.1 c
      exact k_pick [0] rfl h
    · have h := h.2 c
      refine w_aload_n dX8_readSign_114 rfl ?_
      refine w_bipush dX8_readSign_115 (by decide) ?_
      refine w_putI dX8_readSign_117 (Or.inl ⟨rfl, fX8_62⟩) rfl rfl (by decide) ?_
      refine w_aload_n dX8_readSign_120 rfl ?_
      refine w_dup dX8_readSign_121 rfl ?_
      refine w_getI (x := (M3 2 4)) dX8_readSign_122 fX8_46 rfl rfl rfl (fun g5 => ?_)
      have h := h g5
      refine w_iconst dX8_readSign_125 ?_
      refine w_iadd dX8_readSign_126 ?_
      obtain ⟨o6, h⟩ := h
      refine w_putI dX8_readSign_127 (Or.inl ⟨rfl, fX8_46⟩) rfl rfl o6 ?_
      refine w_goto dX8_readSign_130 rfl ?_
      exact k_vret dX8_readSign_169 rfl h
theorem vX8_readSign_133 {E : Scr} {f : Mem → Prop} {M : Mem} (h : ((iR (M 2 5)) → (((M 2 5) ≠ 29 → f M) ∧ ((M 2 5) = 29 → (CI E mX8_between [pR 2, pI 61, pI 61] M (fun r2 M3 => (iR r2) ∧ ((r2 = 0 → f M3) ∧ (r2 ≠ 0 → ((iR (M3 2 4)) → (iR ((M3 2 4) + 1)) ∧ f (upM (upM M3 2 5 36) 2 4 ((M3 2 4) + 1))))))))))) : KW E mX8_readSign (qV f) M 133 [(0, pR 2)] [] := by
  refine w_aload_n dX8_readSign_133 rfl ?_
  refine w_getI (x := (M 2 5)) dX8_readSign_134 fX8_62 rfl rfl rfl (fun g1 => ?_)
  have h := h g1
  refine w_bipush dX8_readSign_137 (by decide) ?_
  refine w_icmp_ne dX8_readSign_139 rfl ⟨g1, (by decide)⟩ (fun c => ?_) (fun c => ?_)
  · have h := h.1 c
    exact k_vret dX8_readSign_169 rfl h
  · have h := h.2 c
    refine w_aload_n dX8_readSign_142 rfl ?_
    refine w_bipush dX8_readSign_143 (by decide) ?_
    refine w_bipush dX8_readSign_145 (by decide) ?_
    refine k_vI (as := [pI 61, pI 61]) dX8_readSign_147 kX8_52 ⟨⟨Nat.le_of_ble_eq_true rfl, rfl, rfl⟩, Nat.le_of_ble_eq_true rfl⟩ rfl (by decide) rfl (Nat.le_of_ble_eq_true rfl) h ?_
    intro r2 M3 h
    obtain ⟨o4, h⟩ := h
    refine w_if_eq dX8_readSign_150 rfl o4 (fun c => ?_) (fun c => ?_)
    · have h := h.1 c
      exact k_vret dX8_readSign_169 rfl h
    · have h := h.2 c
      refine w_aload_n dX8_readSign_153 rfl ?_
      refine w_bipush dX8_readSign_154 (by decide) ?_
      refine w_putI dX8_readSign_156 (Or.inl ⟨rfl, fX8_62⟩) rfl rfl (by decide) ?_
      refine w_aload_n dX8_readSign_159 rfl ?_
      refine w_dup dX8_readSign_160 rfl ?_
      refine w_getI (x := (M3 2 4)) dX8_readSign_161 fX8_46 rfl rfl rfl (fun g5 => ?_)
      have h := h g5
      refine w_iconst dX8_readSign_164 ?_
      refine w_iadd dX8_readSign_165 ?_
      obtain ⟨o6, h⟩ := h
      refine w_putI dX8_readSign_166 (Or.inl ⟨rfl, fX8_46⟩) rfl rfl o6 ?_
      exact k_vret dX8_readSign_169 rfl h
theorem vX6_look_0 {E : Scr} {f : Mem → Prop} {M : Mem} (x2 : Int) {ss : Nat} (hs : ss = 36 ∨ ss = 38) (h : ((iR (M ss 1)) → (iR x2) ∧ (CI E mX7_wornOf [pR ss, pI x2] (upM (upM M 43 0 (M ss 1)) 43 1 x2) (fun r3 M4 => (iR r3) ∧ ((iR ((upM M4 43 4 r3) ss 2)) → (CI E mJ6_bitCount_0f7a4 [pI ((upM M4 43 4 r3) ss 2)] (upM M4 43 4 r3) (fun r7 M8 => (iR r7) ∧ ((iR ((upM M8 43 5 r7) ss 3)) → ((iR ((upM (upM M8 43 5 r7) 43 6 ((upM M8 43 5 r7) ss 3)) ss 0)) → f (upM (upM (upM M8 43 5 r7) 43 6 ((upM M8 43 5 r7) ss 3)) 43 7 ((upM (upM M8 43 5 r7) 43 6 ((upM M8 43 5 r7) ss 3)) ss 0))))))))))) : CV E mX6_look [pR 43, pR ss, pI x2] M f := by
  rcases hs with rfl | rfl
  · refine (show KW E mX6_look (qV f) M 0 [(0, pR 43), (1, pR 36), (2, pI x2)] [] from ?_)
    refine w_aload_n dX6_look_0 rfl ?_
    refine w_aload_n dX6_look_1 rfl ?_
    refine w_getI (x := (M 36 1)) dX6_look_2 fX6_9 rfl rfl rfl (fun g1 => ?_)
    have h := h g1
    refine w_putI dX6_look_5 (Or.inl ⟨rfl, fX6_15⟩) rfl rfl g1 ?_
    refine w_aload_n dX6_look_8 rfl ?_
    refine w_iload_n dX6_look_9 rfl ?_
    obtain ⟨o2, h⟩ := h
    refine w_putI dX6_look_10 (Or.inl ⟨rfl, fX6_18⟩) rfl rfl o2 ?_
    refine w_aload_n dX6_look_13 rfl ?_
    refine w_aload_n dX6_look_14 rfl ?_
    refine w_iload_n dX6_look_15 rfl ?_
    refine k_vI (as := [pI x2]) dX6_look_16 kX6_21 ⟨⟨Nat.le_of_ble_eq_true rfl, rfl, rfl⟩, Nat.le_of_ble_eq_true rfl⟩ rfl (by decide) rfl (Nat.le_of_ble_eq_true rfl) h ?_
    intro r3 M4 h
    obtain ⟨o5, h⟩ := h
    refine w_putI dX6_look_19 (Or.inl ⟨rfl, fX6_25⟩) rfl rfl o5 ?_
    refine w_aload_n dX6_look_22 rfl ?_
    refine w_aload_n dX6_look_23 rfl ?_
    refine w_getI (x := ((upM M4 43 4 r3) 36 2)) dX6_look_24 fX6_28 rfl rfl rfl (fun g6 => ?_)
    have h := h g6
    refine k_sI (as := [pI ((upM M4 43 4 r3) 36 2)]) dX6_look_27 kX6_31 ⟨⟨Nat.le_of_ble_eq_true rfl, rfl, rfl⟩, Nat.le_of_ble_eq_true rfl⟩ rfl (Nat.le_of_ble_eq_true rfl) h ?_
    intro r7 M8 h
    obtain ⟨o9, h⟩ := h
    refine w_putI dX6_look_30 (Or.inl ⟨rfl, fX6_36⟩) rfl rfl o9 ?_
    refine w_aload_n dX6_look_33 rfl ?_
    refine w_aload_n dX6_look_34 rfl ?_
    refine w_getI (x := ((upM M8 43 5 r7) 36 3)) dX6_look_35 fX6_39 rfl rfl rfl (fun g10 => ?_)
    have h := h g10
    refine w_putI dX6_look_38 (Or.inl ⟨rfl, fX6_42⟩) rfl rfl g10 ?_
    refine w_aload_n dX6_look_41 rfl ?_
    refine w_aload_n dX6_look_42 rfl ?_
    refine w_getI (x := ((upM (upM M8 43 5 r7) 43 6 ((upM M8 43 5 r7) 36 3)) 36 0)) dX6_look_43 fX6_45 rfl rfl rfl (fun g11 => ?_)
    have h := h g11
    refine w_putI dX6_look_46 (Or.inl ⟨rfl, fX6_48⟩) rfl rfl g11 ?_
    exact k_vret dX6_look_49 rfl h
  · refine (show KW E mX6_look (qV f) M 0 [(0, pR 43), (1, pR 38), (2, pI x2)] [] from ?_)
    refine w_aload_n dX6_look_0 rfl ?_
    refine w_aload_n dX6_look_1 rfl ?_
    refine w_getI (x := (M 38 1)) dX6_look_2 fX6_9 rfl rfl rfl (fun g1 => ?_)
    have h := h g1
    refine w_putI dX6_look_5 (Or.inl ⟨rfl, fX6_15⟩) rfl rfl g1 ?_
    refine w_aload_n dX6_look_8 rfl ?_
    refine w_iload_n dX6_look_9 rfl ?_
    obtain ⟨o2, h⟩ := h
    refine w_putI dX6_look_10 (Or.inl ⟨rfl, fX6_18⟩) rfl rfl o2 ?_
    refine w_aload_n dX6_look_13 rfl ?_
    refine w_aload_n dX6_look_14 rfl ?_
    refine w_iload_n dX6_look_15 rfl ?_
    refine k_vI (as := [pI x2]) dX6_look_16 kX6_21 ⟨⟨Nat.le_of_ble_eq_true rfl, rfl, rfl⟩, Nat.le_of_ble_eq_true rfl⟩ rfl (by decide) rfl (Nat.le_of_ble_eq_true rfl) h ?_
    intro r3 M4 h
    obtain ⟨o5, h⟩ := h
    refine w_putI dX6_look_19 (Or.inl ⟨rfl, fX6_25⟩) rfl rfl o5 ?_
    refine w_aload_n dX6_look_22 rfl ?_
    refine w_aload_n dX6_look_23 rfl ?_
    refine w_getI (x := ((upM M4 43 4 r3) 38 2)) dX6_look_24 fX6_28 rfl rfl rfl (fun g6 => ?_)
    have h := h g6
    refine k_sI (as := [pI ((upM M4 43 4 r3) 38 2)]) dX6_look_27 kX6_31 ⟨⟨Nat.le_of_ble_eq_true rfl, rfl, rfl⟩, Nat.le_of_ble_eq_true rfl⟩ rfl (Nat.le_of_ble_eq_true rfl) h ?_
    intro r7 M8 h
    obtain ⟨o9, h⟩ := h
    refine w_putI dX6_look_30 (Or.inl ⟨rfl, fX6_36⟩) rfl rfl o9 ?_
    refine w_aload_n dX6_look_33 rfl ?_
    refine w_aload_n dX6_look_34 rfl ?_
    refine w_getI (x := ((upM M8 43 5 r7) 38 3)) dX6_look_35 fX6_39 rfl rfl rfl (fun g10 => ?_)
    have h := h g10
    refine w_putI dX6_look_38 (Or.inl ⟨rfl, fX6_42⟩) rfl rfl g10 ?_
    refine w_aload_n dX6_look_41 rfl ?_
    refine w_aload_n dX6_look_42 rfl ?_
    refine w_getI (x := ((upM (upM M8 43 5 r7) 43 6 ((upM M8 43 5 r7) 38 3)) 38 0)) dX6_look_43 fX6_45 rfl rfl rfl (fun g11 => ?_)
    have h := h g11
    refine w_putI dX6_look_46 (Or.inl ⟨rfl, fX6_48⟩) rfl rfl g11 ?_
    exact k_vret dX6_look_49 rfl h
theorem vX6_leaf_0 {E : Scr} {f : Int → Mem → Prop} {M : Mem} (x1 x2 : Int) {sc : Nat} (hc : sc = 19 ∨ sc = 43) (h : (iR x1) ∧ ((x1 = 13 → ((iR (M sc 0)) → f (bAnd (bShr (M sc 0) x2) 1) M)) ∧ (x1 = 14 → ((iR (M sc 0)) → f (bAnd (bShr (bXor (M sc 0) (-1)) x2) 1) M)) ∧ (x1 = 15 → ((iR (M sc 2)) → (iR x2) ∧ (((M sc 2) < x2 → f 0 M) ∧ ((M sc 2) ≥ x2 → f 1 M)))) ∧ (x1 = 16 → ((iR (M sc 3)) → f (bAnd (bShr (M sc 3) x2) 1) M)) ∧ (x1 = 17 → ((iR (M sc 4)) → f (M sc 4) M)) ∧ (x1 = 18 → ((iR (M sc 1)) → f (M sc 1) M)) ∧ (x1 = 19 → ((iR (M sc 0)) → (CI E mJ6_bitCount_0f7a4 [pI (M sc 0)] M (fun r10 M11 => f r10 M11)))) ∧ (x1 = 20 → ((iR (M sc 5)) → f (M sc 5) M)) ∧ (x1 = 21 → ((iR (M sc 0)) → ((iR (M sc 1)) → f (bAnd (bShr (M sc 0) (M sc 1)) 1) M))) ∧ (x1 = 22 → ((iR (M sc 6)) → f (M sc 6) M)) ∧ (x1 = 23 → ((iR (M sc 7)) → f (M sc 7) M)) ∧ (x1 < 13 ∨ 23 < x1 → f x2 M))) : CI E mX6_leaf [pR sc, pI x1, pI x2] M f := by
  rcases hc with rfl | rfl
  · refine (show KW E mX6_leaf (qI f) M 0 [(0, pR 19), (1, pI x1), (2, pI x2)] [] from ?_)
    refine w_iload_n dX6_leaf_0 rfl ?_
    obtain ⟨o1, h⟩ := h
    refine w_tsw (tgs := [60, 69, 80, 94, 103, 108, 113, 121, 126, 138, 143]) (td := 148) dX6_leaf_1 o1 rfl (by decide) rfl ?_ ?_
    · intro j hj hx
      match j, hj, hx with
      | 0, _, hx =>
        have h := h.1 (by simpa using hx)
        clear hx
        refine w_aload_n dX6_leaf_60 rfl ?_
        refine w_getI (x := (M 19 0)) dX6_leaf_61 fX6_15 rfl rfl rfl (fun g2 => ?_)
        have h := h g2
        refine w_iload_n dX6_leaf_64 rfl ?_
        refine w_ishr dX6_leaf_65 ?_
        refine w_iconst dX6_leaf_66 ?_
        refine w_iand dX6_leaf_67 ?_
        exact k_iret dX6_leaf_68 rfl h
      | 1, _, hx =>
        have h := h.2.1 (by simpa using hx)
        clear hx
        refine w_aload_n dX6_leaf_69 rfl ?_
        refine w_getI (x := (M 19 0)) dX6_leaf_70 fX6_15 rfl rfl rfl (fun g3 => ?_)
        have h := h g3
        refine w_iconst dX6_leaf_73 ?_
        refine w_ixor dX6_leaf_74 ?_
        refine w_iload_n dX6_leaf_75 rfl ?_
        refine w_ishr dX6_leaf_76 ?_
        refine w_iconst dX6_leaf_77 ?_
        refine w_iand dX6_leaf_78 ?_
        exact k_iret dX6_leaf_79 rfl h
      | 2, _, hx =>
        have h := h.2.2.1 (by simpa using hx)
        clear hx
        refine w_aload_n dX6_leaf_80 rfl ?_
        refine w_getI (x := (M 19 2)) dX6_leaf_81 fX6_49 rfl rfl rfl (fun g4 => ?_)
        have h := h g4
        refine w_iload_n dX6_leaf_84 rfl ?_
        obtain ⟨o5, h⟩ := h
        refine w_icmp_lt dX6_leaf_85 rfl ⟨g4, o5⟩ (fun c => ?_) (fun c => ?_)
        · have h := h.1 c
          refine w_iconst dX6_leaf_92 ?_
          exact k_iret dX6_leaf_93 rfl h
        · have h := h.2 c
          refine w_iconst dX6_leaf_88 ?_
          refine w_goto dX6_leaf_89 rfl ?_
          exact k_iret dX6_leaf_93 rfl h
      | 3, _, hx =>
        have h := h.2.2.2.1 (by simpa using hx)
        clear hx
        refine w_aload_n dX6_leaf_94 rfl ?_
        refine w_getI (x := (M 19 3)) dX6_leaf_95 fX6_52 rfl rfl rfl (fun g6 => ?_)
        have h := h g6
        refine w_iload_n dX6_leaf_98 rfl ?_
        refine w_ishr dX6_leaf_99 ?_
        refine w_iconst dX6_leaf_100 ?_
        refine w_iand dX6_leaf_101 ?_
        exact k_iret dX6_leaf_102 rfl h
      | 4, _, hx =>
        have h := h.2.2.2.2.1 (by simpa using hx)
        clear hx
        refine w_aload_n dX6_leaf_103 rfl ?_
        refine w_getI (x := (M 19 4)) dX6_leaf_104 fX6_25 rfl rfl rfl (fun g7 => ?_)
        have h := h g7
        exact k_iret dX6_leaf_107 rfl h
      | 5, _, hx =>
        have h := h.2.2.2.2.2.1 (by simpa using hx)
        clear hx
        refine w_aload_n dX6_leaf_108 rfl ?_
        refine w_getI (x := (M 19 1)) dX6_leaf_109 fX6_18 rfl rfl rfl (fun g8 => ?_)
        have h := h g8
        exact k_iret dX6_leaf_112 rfl h
      | 6, _, hx =>
        have h := h.2.2.2.2.2.2.1 (by simpa using hx)
        clear hx
        refine w_aload_n dX6_leaf_113 rfl ?_
        refine w_getI (x := (M 19 0)) dX6_leaf_114 fX6_15 rfl rfl rfl (fun g9 => ?_)
        have h := h g9
        refine k_sI (as := [pI (M 19 0)]) dX6_leaf_117 kX6_31 ⟨⟨Nat.le_of_ble_eq_true rfl, rfl, rfl⟩, Nat.le_of_ble_eq_true rfl⟩ rfl (Nat.le_of_ble_eq_true rfl) h ?_
        intro r10 M11 h
        exact k_iret dX6_leaf_120 rfl h
      | 7, _, hx =>
        have h := h.2.2.2.2.2.2.2.1 (by simpa using hx)
        clear hx
        refine w_aload_n dX6_leaf_121 rfl ?_
        refine w_getI (x := (M 19 5)) dX6_leaf_122 fX6_36 rfl rfl rfl (fun g12 => ?_)
        have h := h g12
        exact k_iret dX6_leaf_125 rfl h
      | 8, _, hx =>
        have h := h.2.2.2.2.2.2.2.2.1 (by simpa using hx)
        clear hx
        refine w_aload_n dX6_leaf_126 rfl ?_
        refine w_getI (x := (M 19 0)) dX6_leaf_127 fX6_15 rfl rfl rfl (fun g13 => ?_)
        have h := h g13
        refine w_aload_n dX6_leaf_130 rfl ?_
        refine w_getI (x := (M 19 1)) dX6_leaf_131 fX6_18 rfl rfl rfl (fun g14 => ?_)
        have h := h g14
        refine w_ishr dX6_leaf_134 ?_
        refine w_iconst dX6_leaf_135 ?_
        refine w_iand dX6_leaf_136 ?_
        exact k_iret dX6_leaf_137 rfl h
      | 9, _, hx =>
        have h := h.2.2.2.2.2.2.2.2.2.1 (by simpa using hx)
        clear hx
        refine w_aload_n dX6_leaf_138 rfl ?_
        refine w_getI (x := (M 19 6)) dX6_leaf_139 fX6_42 rfl rfl rfl (fun g15 => ?_)
        have h := h g15
        exact k_iret dX6_leaf_142 rfl h
      | 10, _, hx =>
        have h := h.2.2.2.2.2.2.2.2.2.2.1 (by simpa using hx)
        clear hx
        refine w_aload_n dX6_leaf_143 rfl ?_
        refine w_getI (x := (M 19 7)) dX6_leaf_144 fX6_48 rfl rfl rfl (fun g16 => ?_)
        have h := h g16
        exact k_iret dX6_leaf_147 rfl h
      | _ + 11, hj, _ => exact absurd hj (by simp)
    · intro c
      have h := h.2.2.2.2.2.2.2.2.2.2.2 c
      refine w_iload_n dX6_leaf_148 rfl ?_
      exact k_iret dX6_leaf_149 rfl h
  · refine (show KW E mX6_leaf (qI f) M 0 [(0, pR 43), (1, pI x1), (2, pI x2)] [] from ?_)
    refine w_iload_n dX6_leaf_0 rfl ?_
    obtain ⟨o1, h⟩ := h
    refine w_tsw (tgs := [60, 69, 80, 94, 103, 108, 113, 121, 126, 138, 143]) (td := 148) dX6_leaf_1 o1 rfl (by decide) rfl ?_ ?_
    · intro j hj hx
      match j, hj, hx with
      | 0, _, hx =>
        have h := h.1 (by simpa using hx)
        clear hx
        refine w_aload_n dX6_leaf_60 rfl ?_
        refine w_getI (x := (M 43 0)) dX6_leaf_61 fX6_15 rfl rfl rfl (fun g2 => ?_)
        have h := h g2
        refine w_iload_n dX6_leaf_64 rfl ?_
        refine w_ishr dX6_leaf_65 ?_
        refine w_iconst dX6_leaf_66 ?_
        refine w_iand dX6_leaf_67 ?_
        exact k_iret dX6_leaf_68 rfl h
      | 1, _, hx =>
        have h := h.2.1 (by simpa using hx)
        clear hx
        refine w_aload_n dX6_leaf_69 rfl ?_
        refine w_getI (x := (M 43 0)) dX6_leaf_70 fX6_15 rfl rfl rfl (fun g3 => ?_)
        have h := h g3
        refine w_iconst dX6_leaf_73 ?_
        refine w_ixor dX6_leaf_74 ?_
        refine w_iload_n dX6_leaf_75 rfl ?_
        refine w_ishr dX6_leaf_76 ?_
        refine w_iconst dX6_leaf_77 ?_
        refine w_iand dX6_leaf_78 ?_
        exact k_iret dX6_leaf_79 rfl h
      | 2, _, hx =>
        have h := h.2.2.1 (by simpa using hx)
        clear hx
        refine w_aload_n dX6_leaf_80 rfl ?_
        refine w_getI (x := (M 43 2)) dX6_leaf_81 fX6_49 rfl rfl rfl (fun g4 => ?_)
        have h := h g4
        refine w_iload_n dX6_leaf_84 rfl ?_
        obtain ⟨o5, h⟩ := h
        refine w_icmp_lt dX6_leaf_85 rfl ⟨g4, o5⟩ (fun c => ?_) (fun c => ?_)
        · have h := h.1 c
          refine w_iconst dX6_leaf_92 ?_
          exact k_iret dX6_leaf_93 rfl h
        · have h := h.2 c
          refine w_iconst dX6_leaf_88 ?_
          refine w_goto dX6_leaf_89 rfl ?_
          exact k_iret dX6_leaf_93 rfl h
      | 3, _, hx =>
        have h := h.2.2.2.1 (by simpa using hx)
        clear hx
        refine w_aload_n dX6_leaf_94 rfl ?_
        refine w_getI (x := (M 43 3)) dX6_leaf_95 fX6_52 rfl rfl rfl (fun g6 => ?_)
        have h := h g6
        refine w_iload_n dX6_leaf_98 rfl ?_
        refine w_ishr dX6_leaf_99 ?_
        refine w_iconst dX6_leaf_100 ?_
        refine w_iand dX6_leaf_101 ?_
        exact k_iret dX6_leaf_102 rfl h
      | 4, _, hx =>
        have h := h.2.2.2.2.1 (by simpa using hx)
        clear hx
        refine w_aload_n dX6_leaf_103 rfl ?_
        refine w_getI (x := (M 43 4)) dX6_leaf_104 fX6_25 rfl rfl rfl (fun g7 => ?_)
        have h := h g7
        exact k_iret dX6_leaf_107 rfl h
      | 5, _, hx =>
        have h := h.2.2.2.2.2.1 (by simpa using hx)
        clear hx
        refine w_aload_n dX6_leaf_108 rfl ?_
        refine w_getI (x := (M 43 1)) dX6_leaf_109 fX6_18 rfl rfl rfl (fun g8 => ?_)
        have h := h g8
        exact k_iret dX6_leaf_112 rfl h
      | 6, _, hx =>
        have h := h.2.2.2.2.2.2.1 (by simpa using hx)
        clear hx
        refine w_aload_n dX6_leaf_113 rfl ?_
        refine w_getI (x := (M 43 0)) dX6_leaf_114 fX6_15 rfl rfl rfl (fun g9 => ?_)
        have h := h g9
        refine k_sI (as := [pI (M 43 0)]) dX6_leaf_117 kX6_31 ⟨⟨Nat.le_of_ble_eq_true rfl, rfl, rfl⟩, Nat.le_of_ble_eq_true rfl⟩ rfl (Nat.le_of_ble_eq_true rfl) h ?_
        intro r10 M11 h
        exact k_iret dX6_leaf_120 rfl h
      | 7, _, hx =>
        have h := h.2.2.2.2.2.2.2.1 (by simpa using hx)
        clear hx
        refine w_aload_n dX6_leaf_121 rfl ?_
        refine w_getI (x := (M 43 5)) dX6_leaf_122 fX6_36 rfl rfl rfl (fun g12 => ?_)
        have h := h g12
        exact k_iret dX6_leaf_125 rfl h
      | 8, _, hx =>
        have h := h.2.2.2.2.2.2.2.2.1 (by simpa using hx)
        clear hx
        refine w_aload_n dX6_leaf_126 rfl ?_
        refine w_getI (x := (M 43 0)) dX6_leaf_127 fX6_15 rfl rfl rfl (fun g13 => ?_)
        have h := h g13
        refine w_aload_n dX6_leaf_130 rfl ?_
        refine w_getI (x := (M 43 1)) dX6_leaf_131 fX6_18 rfl rfl rfl (fun g14 => ?_)
        have h := h g14
        refine w_ishr dX6_leaf_134 ?_
        refine w_iconst dX6_leaf_135 ?_
        refine w_iand dX6_leaf_136 ?_
        exact k_iret dX6_leaf_137 rfl h
      | 9, _, hx =>
        have h := h.2.2.2.2.2.2.2.2.2.1 (by simpa using hx)
        clear hx
        refine w_aload_n dX6_leaf_138 rfl ?_
        refine w_getI (x := (M 43 6)) dX6_leaf_139 fX6_42 rfl rfl rfl (fun g15 => ?_)
        have h := h g15
        exact k_iret dX6_leaf_142 rfl h
      | 10, _, hx =>
        have h := h.2.2.2.2.2.2.2.2.2.2.1 (by simpa using hx)
        clear hx
        refine w_aload_n dX6_leaf_143 rfl ?_
        refine w_getI (x := (M 43 7)) dX6_leaf_144 fX6_48 rfl rfl rfl (fun g16 => ?_)
        have h := h g16
        exact k_iret dX6_leaf_147 rfl h
      | _ + 11, hj, _ => exact absurd hj (by simp)
    · intro c
      have h := h.2.2.2.2.2.2.2.2.2.2.2 c
      refine w_iload_n dX6_leaf_148 rfl ?_
      exact k_iret dX6_leaf_149 rfl h
theorem vX7_begin_0 {E : Scr} {f : Mem → Prop} {M : Mem} (h : ((iR (M 21 2)) → ((iR (M 21 16)) → (CV E mJ7_fill_53178 [pR 37, pI 0] (upM (upM (upM (upM (upM (upM M 36 0 0) 36 1 (M 21 2)) 36 2 0) 36 3 0) 36 4 0) 36 5 (M 21 16)) (fun M4 => f M4))))) : CV E mX7_begin [pR 36, pR 21] M f := by
  refine (show KW E mX7_begin (qV f) M 0 [(0, pR 36), (1, pR 21)] [] from ?_)
  refine w_aload_n dX7_begin_0 rfl ?_
  refine w_iconst dX7_begin_1 ?_
  refine w_putI dX7_begin_2 (Or.inl ⟨rfl, fX7_15⟩) rfl rfl (by decide) ?_
  refine w_aload_n dX7_begin_5 rfl ?_
  refine w_aload_n dX7_begin_6 rfl ?_
  refine w_getI (x := (M 21 2)) dX7_begin_7 fX7_19 rfl rfl rfl (fun g1 => ?_)
  have h := h g1
  refine w_putI dX7_begin_10 (Or.inl ⟨rfl, fX7_24⟩) rfl rfl g1 ?_
  refine w_aload_n dX7_begin_13 rfl ?_
  refine w_iconst dX7_begin_14 ?_
  refine w_putI dX7_begin_15 (Or.inl ⟨rfl, fX7_27⟩) rfl rfl (by decide) ?_
  refine w_aload_n dX7_begin_18 rfl ?_
  refine w_iconst dX7_begin_19 ?_
  refine w_putI dX7_begin_20 (Or.inl ⟨rfl, fX7_30⟩) rfl rfl (by decide) ?_
  refine w_aload_n dX7_begin_23 rfl ?_
  refine w_iconst dX7_begin_24 ?_
  refine w_putI dX7_begin_25 (Or.inl ⟨rfl, fX7_33⟩) rfl rfl (by decide) ?_
  refine w_aload_n dX7_begin_28 rfl ?_
  refine w_aload_n dX7_begin_29 rfl ?_
  refine w_getI (x := (M 21 16)) dX7_begin_30 fX7_36 rfl rfl rfl (fun g2 => ?_)
  have h := h g2
  refine w_i2l dX7_begin_33 g2 ?_
  refine w_putL dX7_begin_34 (Or.inl ⟨rfl, fX7_39⟩) rfl rfl (i2l_r g2) ?_
  refine w_aload_n dX7_begin_37 rfl ?_
  refine w_getR dX7_begin_38 fX7_9 rfl rfl rfl ?_
  refine w_iconst dX7_begin_41 ?_
  refine k_sV (as := [pR 37, pI 0]) dX7_begin_42 kX7_43 ⟨⟨Nat.le_of_ble_eq_true rfl, rfl, rfl⟩, Nat.le_of_ble_eq_true rfl⟩ rfl (Nat.le_of_ble_eq_true rfl) h ?_
  intro M4 h
  exact k_vret dX7_begin_45 rfl h
theorem vX7_take_0 {E : Scr} {f : Mem → Prop} {M : Mem} {ss oo : Nat} (hs : isSt ss) (ho : isSt oo) (hne : oo ≠ ss) (hn1 : oo + 1 ≠ ss) (h : ((iR (M oo 0)) → ((iR (M oo 1)) → ((iR (M oo 2)) → ((iR (M oo 3)) → ((iR (M oo 4)) → ((lR (M oo 5)) → f (cpM (upM (upM (upM (upM (upM (upM M ss 0 (M oo 0)) ss 1 (M oo 1)) ss 2 (M oo 2)) ss 3 (M oo 3)) ss 4 (M oo 4)) ss 5 (M oo 5)) (oo + 1) (ss + 1) 0 0 8)))))))) : CV E mX7_take [pR ss, pR oo] M f := by
  refine (show KW E mX7_take (qV f) M 0 [(0, pR ss), (1, pR oo)] [] from ?_)
  refine w_aload_n dX7_take_0 rfl ?_
  refine w_aload_n dX7_take_1 rfl ?_
  refine w_getI (x := (M oo 0)) dX7_take_2 fX7_15 ho.1 rfl rfl (fun g1 => ?_)
  have h := h g1
  refine w_putI dX7_take_5 (Or.inl ⟨rfl, fX7_15⟩) hs.1 rfl g1 ?_
  refine w_aload_n dX7_take_8 rfl ?_
  refine w_aload_n dX7_take_9 rfl ?_
  refine w_getI (x := (M oo 1)) dX7_take_10 fX7_24 ho.1 rfl (by simp only [upM_ne _ _ _ hne]; try rfl) (fun g2 => ?_)
  have h := h g2
  refine w_putI dX7_take_13 (Or.inl ⟨rfl, fX7_24⟩) hs.1 rfl g2 ?_
  refine w_aload_n dX7_take_16 rfl ?_
  refine w_aload_n dX7_take_17 rfl ?_
  refine w_getI (x := (M oo 2)) dX7_take_18 fX7_27 ho.1 rfl (by simp only [upM_ne _ _ _ hne]; try rfl) (fun g3 => ?_)
  have h := h g3
  refine w_putI dX7_take_21 (Or.inl ⟨rfl, fX7_27⟩) hs.1 rfl g3 ?_
  refine w_aload_n dX7_take_24 rfl ?_
  refine w_aload_n dX7_take_25 rfl ?_
  refine w_getI (x := (M oo 3)) dX7_take_26 fX7_30 ho.1 rfl (by simp only [upM_ne _ _ _ hne]; try rfl) (fun g4 => ?_)
  have h := h g4
  refine w_putI dX7_take_29 (Or.inl ⟨rfl, fX7_30⟩) hs.1 rfl g4 ?_
  refine w_aload_n dX7_take_32 rfl ?_
  refine w_aload_n dX7_take_33 rfl ?_
  refine w_getI (x := (M oo 4)) dX7_take_34 fX7_33 ho.1 rfl (by simp only [upM_ne _ _ _ hne]; try rfl) (fun g5 => ?_)
  have h := h g5
  refine w_putI dX7_take_37 (Or.inl ⟨rfl, fX7_33⟩) hs.1 rfl g5 ?_
  refine w_aload_n dX7_take_40 rfl ?_
  refine w_aload_n dX7_take_41 rfl ?_
  refine w_getL (x := (M oo 5)) dX7_take_42 fX7_39 ho.1 rfl (by simp only [upM_ne _ _ _ hne]; try rfl) (fun g6 => ?_)
  have h := h g6
  refine w_putL dX7_take_45 (Or.inl ⟨rfl, fX7_39⟩) hs.1 rfl g6 ?_
  refine w_aload_n dX7_take_48 rfl ?_
  refine w_getR dX7_take_49 fX7_9 ho.1 rfl ho.2.1 ?_
  refine w_iconst dX7_take_52 ?_
  refine w_aload_n dX7_take_53 rfl ?_
  refine w_getR dX7_take_54 fX7_9 hs.1 rfl hs.2.1 ?_
  refine w_iconst dX7_take_57 ?_
  refine w_bipush dX7_take_58 (by decide) ?_
  refine w_copyI dX7_take_60 kX7_49 ⟨by decide, Nat.le_of_ble_eq_true rfl⟩ ho.2.2 hs.2.2 ⟨by decide, by decide, by decide⟩ ⟨by decide, by decide⟩ ?_
  exact k_vret dX7_take_63 rfl h
theorem vX7_wornOf_0 {E : Scr} {f : Int → Mem → Prop} {M : Mem} (x1 : Int) {ss : Nat} (hs : isSt ss) (h : (iR x1) ∧ ((x1 < 0 → f 0 M) ∧ (x1 ≥ 0 → (iR x1) ∧ ((x1 ≥ 8 → f 0 M) ∧ (x1 < 8 → (0 ≤ x1 ∧ x1 < 8) ∧ ((iR (M (ss + 1) x1.toNat)) → f (M (ss + 1) x1.toNat) M)))))) : CI E mX7_wornOf [pR ss, pI x1] M f := by
  refine (show KW E mX7_wornOf (qI f) M 0 [(0, pR ss), (1, pI x1)] [] from ?_)
  refine w_iload_n dX7_wornOf_0 rfl ?_
  obtain ⟨o1, h⟩ := h
  refine w_if_lt dX7_wornOf_1 rfl o1 (fun c => ?_) (fun c => ?_)
  · have h := h.1 c
    refine w_iconst dX7_wornOf_19 ?_
    exact k_iret dX7_wornOf_20 rfl h
  · have h := h.2 c
    refine w_iload_n dX7_wornOf_4 rfl ?_
    refine w_bipush dX7_wornOf_5 (by decide) ?_
    obtain ⟨o2, h⟩ := h
    refine w_icmp_ge dX7_wornOf_7 rfl ⟨o2, (by decide)⟩ (fun c => ?_) (fun c => ?_)
    · have h := h.1 c
      refine w_iconst dX7_wornOf_19 ?_
      exact k_iret dX7_wornOf_20 rfl h
    · have h := h.2 c
      refine w_aload_n dX7_wornOf_10 rfl ?_
      refine w_getR dX7_wornOf_11 fX7_9 hs.1 rfl hs.2.1 ?_
      refine w_iload_n dX7_wornOf_14 rfl ?_
      obtain ⟨o3, h⟩ := h
      refine w_iald (x := (M (ss + 1) x1.toNat)) dX7_wornOf_15 hs.2.2 o3 rfl (fun g4 => ?_)
      have h := h g4
      refine w_goto dX7_wornOf_16 rfl ?_
      exact k_iret dX7_wornOf_20 rfl h
theorem vX7_wear_0 {E : Scr} {f : Mem → Prop} {M : Mem} (x1 x2 : Int) {ss : Nat} (hs : isSt ss) (h : (iR x1) ∧ ((x1 < 0 → f M) ∧ (x1 ≥ 0 → (iR x1) ∧ ((x1 ≥ 8 → f M) ∧ (x1 < 8 → (0 ≤ x1 ∧ x1 < 8) ∧ (iR x2) ∧ f (upM M (ss + 1) x1.toNat x2)))))) : CV E mX7_wear [pR ss, pI x1, pI x2] M f := by
  refine (show KW E mX7_wear (qV f) M 0 [(0, pR ss), (1, pI x1), (2, pI x2)] [] from ?_)
  refine w_iload_n dX7_wear_0 rfl ?_
  obtain ⟨o1, h⟩ := h
  refine w_if_lt dX7_wear_1 rfl o1 (fun c => ?_) (fun c => ?_)
  · have h := h.1 c
    exact k_vret dX7_wear_17 rfl h
  · have h := h.2 c
    refine w_iload_n dX7_wear_4 rfl ?_
    refine w_bipush dX7_wear_5 (by decide) ?_
    obtain ⟨o2, h⟩ := h
    refine w_icmp_ge dX7_wear_7 rfl ⟨o2, (by decide)⟩ (fun c => ?_) (fun c => ?_)
    · have h := h.1 c
      exact k_vret dX7_wear_17 rfl h
    · have h := h.2 c
      refine w_aload_n dX7_wear_10 rfl ?_
      refine w_getR dX7_wear_11 fX7_9 hs.1 rfl hs.2.1 ?_
      refine w_iload_n dX7_wear_14 rfl ?_
      refine w_iload_n dX7_wear_15 rfl ?_
      obtain ⟨o3, h⟩ := h
      obtain ⟨o4, h⟩ := h
      refine w_iast dX7_wear_16 hs.2.2 o3 o4 ?_
      exact k_vret dX7_wear_17 rfl h
theorem vX7_wornInAll_0 {E : Scr} {f : Int → Mem → Prop} {M : Mem} (h : (KW E mX7_wornInAll (qI f) M 13 [(1, pI 0), (2, pR 37), (3, pI 8), (4, pI 0)] [])) : CI E mX7_wornInAll [pR 36] M f := by
  refine (show KW E mX7_wornInAll (qI f) M 0 [(0, pR 36)] [] from ?_)
  refine w_iconst dX7_wornInAll_0 ?_
  refine w_istore_n dX7_wornInAll_1 (by decide) ?_
  refine w_aload_n dX7_wornInAll_2 rfl ?_
  refine w_getR dX7_wornInAll_3 fX7_9 rfl rfl rfl ?_
  refine w_astore_n dX7_wornInAll_6 (by decide) ?_
  refine w_aload_n dX7_wornInAll_7 rfl ?_
  refine w_aleni dX7_wornInAll_8 rfl ?_
  refine w_istore_n dX7_wornInAll_9 (by decide) ?_
  refine w_iconst dX7_wornInAll_10 ?_
  refine w_istore dX7_wornInAll_11 (by decide) ?_
  exact k_pick [3, 2, 1, 0] rfl h
theorem vX7_wornInAll_13 {E : Scr} {f : Int → Mem → Prop} {M : Mem} (x1 x3 x4 : Int) (h : (iR x4) ∧ (iR x3) ∧ ((x4 ≥ x3 → f x1 M) ∧ (x4 < x3 → (0 ≤ x4 ∧ x4 < 8) ∧ ((iR (M 37 x4.toNat)) → (KW E mX7_wornInAll (qI f) M 13 [(1, pI (x1 + (M 37 x4.toNat))), (2, pR 37), (3, pI x3), (4, pI (x4 + 1))] []))))) : KW E mX7_wornInAll (qI f) M 13 [(1, pI x1), (2, pR 37), (3, pI x3), (4, pI x4)] [] := by
  refine w_iload dX7_wornInAll_13 rfl ?_
  refine w_iload_n dX7_wornInAll_15 rfl ?_
  obtain ⟨o1, h⟩ := h
  obtain ⟨o2, h⟩ := h
  refine w_icmp_ge dX7_wornInAll_16 rfl ⟨o1, o2⟩ (fun c => ?_) (fun c => ?_)
  · have h := h.1 c
    refine w_iload_n dX7_wornInAll_36 rfl ?_
    exact k_iret dX7_wornInAll_37 rfl h
  · have h := h.2 c
    refine w_aload_n dX7_wornInAll_19 rfl ?_
    refine w_iload dX7_wornInAll_20 rfl ?_
    obtain ⟨o3, h⟩ := h
    refine w_iald (x := (M 37 x4.toNat)) dX7_wornInAll_22 rfl o3 rfl (fun g4 => ?_)
    have h := h g4
    refine w_istore dX7_wornInAll_23 (by decide) ?_
    refine w_iload_n dX7_wornInAll_25 rfl ?_
    refine w_iload dX7_wornInAll_26 rfl ?_
    refine w_iadd dX7_wornInAll_28 ?_
    refine w_istore_n dX7_wornInAll_29 (by decide) ?_
    refine w_iinc dX7_wornInAll_30 rfl (by decide) ?_
    refine w_goto dX7_wornInAll_33 rfl ?_
    exact k_pick [1, 3, 4, 0] rfl h
