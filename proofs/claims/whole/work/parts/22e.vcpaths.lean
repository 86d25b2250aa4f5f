theorem vX4_lay_0 {E : Scr} {f : Mem → Prop} {M : Mem} (x2 : Int) (h : ((iR (M 21 1)) → ((iR (M 21 1)) → (KW E mX4_lay (qV f) (upM (upM M 86 6 (M 21 1)) 86 7 (min 256 (bShl 1 (M 21 1)))) 26 [(0, pR 86), (1, pR 21), (2, pI x2), (3, pI 0)] [])))) : CV E mX4_lay [pR 86, pR 21, pI x2] M f := by
  refine (show KW E mX4_lay (qV f) M 0 [(0, pR 86), (1, pR 21), (2, pI x2)] [] from ?_)
  refine w_aload_n dX4_lay_0 rfl ?_
  refine w_aload_n dX4_lay_1 rfl ?_
  refine w_getI (x := (M 21 1)) dX4_lay_2 fX4_35 rfl rfl rfl (fun g1 => ?_)
  have h := h g1
  refine w_putI dX4_lay_5 (Or.inl ⟨rfl, fX4_40⟩) rfl rfl g1 ?_
  refine w_aload_n dX4_lay_8 rfl ?_
  refine w_sipush dX4_lay_9 (by decide) ?_
  refine w_iconst dX4_lay_12 ?_
  refine w_aload_n dX4_lay_13 rfl ?_
  refine w_getI (x := (M 21 1)) dX4_lay_14 fX4_40 rfl rfl rfl (fun g2 => ?_)
  have h := h g2
  refine w_ishl dX4_lay_17 ?_
  refine w_imin dX4_lay_18 kX4_41 ⟨by decide, Nat.le_of_ble_eq_true rfl⟩ ⟨by decide, by decide⟩ ⟨(by decide), (bShl_r _ _)⟩ ?_
  refine w_putI dX4_lay_21 (Or.inl ⟨rfl, fX4_47⟩) rfl rfl (min_r (by decide) (bShl_r _ _)) ?_
  refine w_iconst dX4_lay_24 ?_
  refine w_istore_n dX4_lay_25 (by decide) ?_
  exact k_pick [1, 2, 3, 0] rfl h
theorem vX4_lay_26 {E : Scr} {f : Mem → Prop} {M : Mem} (x2 x3 : Int) (h : ((iR (M 86 7)) → (iR x3) ∧ ((x3 ≥ (M 86 7) → (CV E mX4_bar [pR 86, pI (-1), pI 0, pI 0] M (fun M4 => f M4))) ∧ (x3 < (M 86 7) → (CI E mX1_movable [pR 21, pI x3, pI x2] M (fun r5 M6 => (0 ≤ x3 ∧ x3 < 256) ∧ (iR r5) ∧ (KW E mX4_lay (qV f) (upM M6 87 x3.toNat r5) 26 [(0, pR 86), (1, pR 21), (2, pI x2), (3, pI (x3 + 1))] []))))))) : KW E mX4_lay (qV f) M 26 [(0, pR 86), (1, pR 21), (2, pI x2), (3, pI x3)] [] := by
  refine w_iload_n dX4_lay_26 rfl ?_
  refine w_aload_n dX4_lay_27 rfl ?_
  refine w_getI (x := (M 86 7)) dX4_lay_28 fX4_47 rfl rfl rfl (fun g1 => ?_)
  have h := h g1
  obtain ⟨o2, h⟩ := h
  refine w_icmp_ge dX4_lay_31 rfl ⟨o2, g1⟩ (fun c => ?_) (fun c => ?_)
  · have h := h.1 c
    refine w_aload_n dX4_lay_52 rfl ?_
    refine w_iconst dX4_lay_53 ?_
    refine w_iconst dX4_lay_54 ?_
    refine w_iconst dX4_lay_55 ?_
    refine k_vV (as := [pI (-1), pI 0, pI 0]) dX4_lay_56 kX4_53 ⟨⟨Nat.le_of_ble_eq_true rfl, rfl, rfl⟩, Nat.le_of_ble_eq_true rfl⟩ rfl (by decide) rfl (Nat.le_of_ble_eq_true rfl) h ?_
    intro M4 h
    exact k_vret dX4_lay_59 rfl h
  · have h := h.2 c
    refine w_aload_n dX4_lay_34 rfl ?_
    refine w_getR dX4_lay_35 fX4_9 rfl rfl rfl ?_
    refine w_iload_n dX4_lay_38 rfl ?_
    refine w_aload_n dX4_lay_39 rfl ?_
    refine w_iload_n dX4_lay_40 rfl ?_
    refine w_iload_n dX4_lay_41 rfl ?_
    refine k_vI (as := [pI x3, pI x2]) dX4_lay_42 kX4_50 ⟨⟨Nat.le_of_ble_eq_true rfl, rfl, rfl⟩, Nat.le_of_ble_eq_true rfl⟩ rfl (by decide) rfl (Nat.le_of_ble_eq_true rfl) h ?_
    intro r5 M6 h
    obtain ⟨o7, h⟩ := h
    obtain ⟨o8, h⟩ := h
    refine w_iast dX4_lay_45 rfl o7 o8 ?_
    refine w_iinc dX4_lay_46 rfl (by decide) ?_
    refine w_goto dX4_lay_49 rfl ?_
    exact k_pick [1, 2, 3, 0] rfl h
theorem vX4_bar_0 {E : Scr} {f : Mem → Prop} {M : Mem} (x1 x2 x3 : Int) (h : (iR x1) ∧ (iR x2) ∧ (iR x3) ∧ f (upM (upM (upM M 86 10 x1) 86 11 x2) 86 12 x3)) : CV E mX4_bar [pR 86, pI x1, pI x2, pI x3] M f := by
  refine (show KW E mX4_bar (qV f) M 0 [(0, pR 86), (1, pI x1), (2, pI x2), (3, pI x3)] [] from ?_)
  refine w_aload_n dX4_bar_0 rfl ?_
  refine w_iload_n dX4_bar_1 rfl ?_
  obtain ⟨o1, h⟩ := h
  refine w_putI dX4_bar_2 (Or.inl ⟨rfl, fX4_31⟩) rfl rfl o1 ?_
  refine w_aload_n dX4_bar_5 rfl ?_
  refine w_iload_n dX4_bar_6 rfl ?_
  obtain ⟨o2, h⟩ := h
  refine w_putI dX4_bar_7 (Or.inl ⟨rfl, fX4_57⟩) rfl rfl o2 ?_
  refine w_aload_n dX4_bar_10 rfl ?_
  refine w_iload_n dX4_bar_11 rfl ?_
  obtain ⟨o3, h⟩ := h
  refine w_putI dX4_bar_12 (Or.inl ⟨rfl, fX4_60⟩) rfl rfl o3 ?_
  exact k_vret dX4_bar_15 rfl h
theorem vX4_has_0 {E : Scr} {f : Int → Mem → Prop} {M : Mem} (x1 : Int) (h : (iR x1) ∧ ((x1 < 0 → f 0 M) ∧ (x1 ≥ 0 → ((iR (M 86 7)) → (iR x1) ∧ ((x1 ≥ (M 86 7) → f 0 M) ∧ (x1 < (M 86 7) → (iR x1) ∧ ((x1 ≥ 256 → f 0 M) ∧ (x1 < 256 → f 1 M)))))))) : CI E mX4_has [pR 86, pI x1] M f := by
  refine (show KW E mX4_has (qI f) M 0 [(0, pR 86), (1, pI x1)] [] from ?_)
  refine w_iload_n dX4_has_0 rfl ?_
  obtain ⟨o1, h⟩ := h
  refine w_if_lt dX4_has_1 rfl o1 (fun c => ?_) (fun c => ?_)
  · have h := h.1 c
    refine w_iconst dX4_has_23 ?_
    exact k_zret dX4_has_24 rfl (by decide) h
  · have h := h.2 c
    refine w_iload_n dX4_has_4 rfl ?_
    refine w_aload_n dX4_has_5 rfl ?_
    refine w_getI (x := (M 86 7)) dX4_has_6 fX4_47 rfl rfl rfl (fun g2 => ?_)
    have h := h g2
    obtain ⟨o3, h⟩ := h
    refine w_icmp_ge dX4_has_9 rfl ⟨o3, g2⟩ (fun c => ?_) (fun c => ?_)
    · have h := h.1 c
      refine w_iconst dX4_has_23 ?_
      exact k_zret dX4_has_24 rfl (by decide) h
    · have h := h.2 c
      refine w_iload_n dX4_has_12 rfl ?_
      refine w_sipush dX4_has_13 (by decide) ?_
      obtain ⟨o4, h⟩ := h
      refine w_icmp_ge dX4_has_16 rfl ⟨o4, (by decide)⟩ (fun c => ?_) (fun c => ?_)
      · have h := h.1 c
        refine w_iconst dX4_has_23 ?_
        exact k_zret dX4_has_24 rfl (by decide) h
      · have h := h.2 c
        refine w_iconst dX4_has_19 ?_
        refine w_goto dX4_has_20 rfl ?_
        exact k_zret dX4_has_24 rfl (by decide) h
theorem vX4_isMovable_0 {E : Scr} {f : Int → Mem → Prop} {M : Mem} (x1 x2 : Int) (h : (CI E mX4_has [pR 86, pI x1] M (fun r1 M2 => (iR r1) ∧ ((r1 = 0 → f 0 M2) ∧ (r1 ≠ 0 → (0 ≤ x1 ∧ x1 < 256) ∧ ((iR (M2 87 x1.toNat)) → (((bAnd (bShr (M2 87 x1.toNat) x2) 1) = 0 → f 0 M2) ∧ ((bAnd (bShr (M2 87 x1.toNat) x2) 1) ≠ 0 → f 1 M2)))))))) : CI E mX4_isMovable [pR 86, pI x1, pI x2] M f := by
  refine (show KW E mX4_isMovable (qI f) M 0 [(0, pR 86), (1, pI x1), (2, pI x2)] [] from ?_)
  refine w_aload_n dX4_isMovable_0 rfl ?_
  refine w_iload_n dX4_isMovable_1 rfl ?_
  refine k_vI (as := [pI x1]) dX4_isMovable_2 kX4_63 ⟨⟨Nat.le_of_ble_eq_true rfl, rfl, rfl⟩, Nat.le_of_ble_eq_true rfl⟩ rfl (by decide) rfl (Nat.le_of_ble_eq_true rfl) h ?_
  intro r1 M2 h
  obtain ⟨o3, h⟩ := h
  refine w_if_eq dX4_isMovable_5 rfl o3 (fun c => ?_) (fun c => ?_)
  · have h := h.1 c
    refine w_iconst dX4_isMovable_25 ?_
    exact k_zret dX4_isMovable_26 rfl (by decide) h
  · have h := h.2 c
    refine w_aload_n dX4_isMovable_8 rfl ?_
    refine w_getR dX4_isMovable_9 fX4_9 rfl rfl rfl ?_
    refine w_iload_n dX4_isMovable_12 rfl ?_
    obtain ⟨o4, h⟩ := h
    refine w_iald (x := (M2 87 x1.toNat)) dX4_isMovable_13 rfl o4 rfl (fun g5 => ?_)
    have h := h g5
    refine w_iload_n dX4_isMovable_14 rfl ?_
    refine w_ishr dX4_isMovable_15 ?_
    refine w_iconst dX4_isMovable_16 ?_
    refine w_iand dX4_isMovable_17 ?_
    refine w_if_eq dX4_isMovable_18 rfl (bAnd_r _ _) (fun c => ?_) (fun c => ?_)
    · have h := h.1 c
      refine w_iconst dX4_isMovable_25 ?_
      exact k_zret dX4_isMovable_26 rfl (by decide) h
    · have h := h.2 c
      refine w_iconst dX4_isMovable_21 ?_
      refine w_goto dX4_isMovable_22 rfl ?_
      exact k_zret dX4_isMovable_26 rfl (by decide) h
theorem vX4_stepsTo_0 {E : Scr} {f : Int → Mem → Prop} {M : Mem} (x1 : Int) (h : (CI E mX4_has [pR 86, pI x1] M (fun r1 M2 => (iR r1) ∧ ((r1 = 0 → f (-1) M2) ∧ (r1 ≠ 0 → (0 ≤ x1 ∧ x1 < 256) ∧ ((iR (M2 88 x1.toNat)) → f (M2 88 x1.toNat) M2)))))) : CI E mX4_stepsTo [pR 86, pI x1] M f := by
  refine (show KW E mX4_stepsTo (qI f) M 0 [(0, pR 86), (1, pI x1)] [] from ?_)
  refine w_aload_n dX4_stepsTo_0 rfl ?_
  refine w_iload_n dX4_stepsTo_1 rfl ?_
  refine k_vI (as := [pI x1]) dX4_stepsTo_2 kX4_63 ⟨⟨Nat.le_of_ble_eq_true rfl, rfl, rfl⟩, Nat.le_of_ble_eq_true rfl⟩ rfl (by decide) rfl (Nat.le_of_ble_eq_true rfl) h ?_
  intro r1 M2 h
  obtain ⟨o3, h⟩ := h
  refine w_if_eq dX4_stepsTo_5 rfl o3 (fun c => ?_) (fun c => ?_)
  · have h := h.1 c
    refine w_iconst dX4_stepsTo_17 ?_
    exact k_iret dX4_stepsTo_18 rfl h
  · have h := h.2 c
    refine w_aload_n dX4_stepsTo_8 rfl ?_
    refine w_getR dX4_stepsTo_9 fX4_15 rfl rfl rfl ?_
    refine w_iload_n dX4_stepsTo_12 rfl ?_
    obtain ⟨o4, h⟩ := h
    refine w_iald (x := (M2 88 x1.toNat)) dX4_stepsTo_13 rfl o4 rfl (fun g5 => ?_)
    have h := h g5
    refine w_goto dX4_stepsTo_14 rfl ?_
    exact k_iret dX4_stepsTo_18 rfl h
theorem vX4_isHad_0 {E : Scr} {f : Int → Mem → Prop} {M : Mem} (x1 : Int) (h : (CI E mX4_stepsTo [pR 86, pI x1] M (fun r1 M2 => (iR r1) ∧ ((r1 = (-1) → f 0 M2) ∧ (r1 ≠ (-1) → f 1 M2))))) : CI E mX4_isHad [pR 86, pI x1] M f := by
  refine (show KW E mX4_isHad (qI f) M 0 [(0, pR 86), (1, pI x1)] [] from ?_)
  refine w_aload_n dX4_isHad_0 rfl ?_
  refine w_iload_n dX4_isHad_1 rfl ?_
  refine k_vI (as := [pI x1]) dX4_isHad_2 kX4_67 ⟨⟨Nat.le_of_ble_eq_true rfl, rfl, rfl⟩, Nat.le_of_ble_eq_true rfl⟩ rfl (by decide) rfl (Nat.le_of_ble_eq_true rfl) h ?_
  intro r1 M2 h
  refine w_iconst dX4_isHad_5 ?_
  obtain ⟨o3, h⟩ := h
  refine w_icmp_eq dX4_isHad_6 rfl ⟨o3, (by decide)⟩ (fun c => ?_) (fun c => ?_)
  · have h := h.1 c
    refine w_iconst dX4_isHad_13 ?_
    exact k_zret dX4_isHad_14 rfl (by decide) h
  · have h := h.2 c
    refine w_iconst dX4_isHad_9 ?_
    refine w_goto dX4_isHad_10 rfl ?_
    exact k_zret dX4_isHad_14 rfl (by decide) h
theorem vX4_spread_0 {E : Scr} {f : Mem → Prop} {M : Mem} (x1 : Int) (h : (CV E mJ7_fill_53178 [pR 88, pI (-1)] M (fun M2 => (CI E mX4_has [pR 86, pI x1] (upM M2 86 9 0) (fun r3 M4 => (iR r3) ∧ ((r3 ≠ 0 → (iR x1) ∧ (0 ≤ x1 ∧ x1 < 256) ∧ (iR x1) ∧ (KW E mX4_spread (qV f) (upM (upM (upM (upM M4 86 8 x1) 88 x1.toNat 0) 89 0 x1) 86 9 1) 48 [(0, pR 86), (2, pI 0)] [])) ∧ (r3 = 0 → f M4))))))) : CV E mX4_spread [pR 86, pI x1] M f := by
  refine (show KW E mX4_spread (qV f) M 0 [(0, pR 86), (1, pI x1)] [] from ?_)
  refine w_aload_n dX4_spread_0 rfl ?_
  refine w_getR dX4_spread_1 fX4_15 rfl rfl rfl ?_
  refine w_iconst dX4_spread_4 ?_
  refine k_sV (as := [pR 88, pI (-1)]) dX4_spread_5 kX4_71 ⟨⟨Nat.le_of_ble_eq_true rfl, rfl, rfl⟩, Nat.le_of_ble_eq_true rfl⟩ rfl (Nat.le_of_ble_eq_true rfl) h ?_
  intro M2 h
  refine w_aload_n dX4_spread_8 rfl ?_
  refine w_iconst dX4_spread_9 ?_
  refine w_putI dX4_spread_10 (Or.inl ⟨rfl, fX4_77⟩) rfl rfl (by decide) ?_
  refine w_aload_n dX4_spread_13 rfl ?_
  refine w_iload_n dX4_spread_14 rfl ?_
  refine k_vI (as := [pI x1]) dX4_spread_15 kX4_63 ⟨⟨Nat.le_of_ble_eq_true rfl, rfl, rfl⟩, Nat.le_of_ble_eq_true rfl⟩ rfl (by decide) rfl (Nat.le_of_ble_eq_true rfl) h ?_
  intro r3 M4 h
  obtain ⟨o5, h⟩ := h
  refine w_if_ne dX4_spread_18 rfl o5 (fun c => ?_) (fun c => ?_)
  · have h := h.1 c
    refine w_aload_n dX4_spread_22 rfl ?_
    refine w_iload_n dX4_spread_23 rfl ?_
    obtain ⟨o6, h⟩ := h
    refine w_putI dX4_spread_24 (Or.inl ⟨rfl, fX4_80⟩) rfl rfl o6 ?_
    refine w_aload_n dX4_spread_27 rfl ?_
    refine w_getR dX4_spread_28 fX4_15 rfl rfl rfl ?_
    refine w_iload_n dX4_spread_31 rfl ?_
    refine w_iconst dX4_spread_32 ?_
    obtain ⟨o7, h⟩ := h
    refine w_iast dX4_spread_33 rfl o7 (by decide) ?_
    refine w_aload_n dX4_spread_34 rfl ?_
    refine w_getR dX4_spread_35 fX4_18 rfl rfl rfl ?_
    refine w_iconst dX4_spread_38 ?_
    refine w_iload_n dX4_spread_39 rfl ?_
    obtain ⟨o8, h⟩ := h
    refine w_iast dX4_spread_40 rfl (by decide) o8 ?_
    refine w_aload_n dX4_spread_41 rfl ?_
    refine w_iconst dX4_spread_42 ?_
    refine w_putI dX4_spread_43 (Or.inl ⟨rfl, fX4_77⟩) rfl rfl (by decide) ?_
    refine w_iconst dX4_spread_46 ?_
    refine w_istore_n dX4_spread_47 (by decide) ?_
    exact k_pick [1, 0] rfl h
  · have h := h.2 c
    exact k_vret dX4_spread_21 rfl h
theorem vX4_spread_48 {E : Scr} {f : Mem → Prop} {M : Mem} (x2 : Int) (h : ((iR (M 86 9)) → (iR x2) ∧ ((x2 ≥ (M 86 9) → f M) ∧ (x2 < (M 86 9) → (iR x2) ∧ ((x2 ≥ 256 → f M) ∧ (x2 < 256 → (0 ≤ x2 ∧ x2 < 256) ∧ ((iR (M 89 x2.toNat)) → (0 ≤ (M 89 x2.toNat) ∧ (M 89 x2.toNat) < 256) ∧ ((iR (M 87 ((M 89 x2.toNat).toNat))) → ((iR (M 86 12)) → ((iR (M 86 11)) → (KW E mX4_spread (qV f) M 93 [(0, pR 86), (2, pI x2), (3, pI (M 89 x2.toNat)), (4, pI (bAnd (bOr (M 87 ((M 89 x2.toNat).toNat)) (M 86 12)) (bXor (M 86 11) (-1)))), (5, pI 0)] []))))))))))) : KW E mX4_spread (qV f) M 48 [(0, pR 86), (2, pI x2)] [] := by
  refine w_iload_n dX4_spread_48 rfl ?_
  refine w_aload_n dX4_spread_49 rfl ?_
  refine w_getI (x := (M 86 9)) dX4_spread_50 fX4_77 rfl rfl rfl (fun g1 => ?_)
  have h := h g1
  obtain ⟨o2, h⟩ := h
  refine w_icmp_ge dX4_spread_53 rfl ⟨o2, g1⟩ (fun c => ?_) (fun c => ?_)
  · have h := h.1 c
    exact k_vret dX4_spread_142 rfl h
  · have h := h.2 c
    refine w_iload_n dX4_spread_56 rfl ?_
    refine w_sipush dX4_spread_57 (by decide) ?_
    obtain ⟨o3, h⟩ := h
    refine w_icmp_ge dX4_spread_60 rfl ⟨o3, (by decide)⟩ (fun c => ?_) (fun c => ?_)
    · have h := h.1 c
      exact k_vret dX4_spread_142 rfl h
    · have h := h.2 c
      refine w_aload_n dX4_spread_63 rfl ?_
      refine w_getR dX4_spread_64 fX4_18 rfl rfl rfl ?_
      refine w_iload_n dX4_spread_67 rfl ?_
      obtain ⟨o4, h⟩ := h
      refine w_iald (x := (M 89 x2.toNat)) dX4_spread_68 rfl o4 rfl (fun g5 => ?_)
      have h := h g5
      refine w_istore_n dX4_spread_69 (by decide) ?_
      refine w_aload_n dX4_spread_70 rfl ?_
      refine w_getR dX4_spread_71 fX4_9 rfl rfl rfl ?_
      refine w_iload_n dX4_spread_74 rfl ?_
      obtain ⟨o6, h⟩ := h
      refine w_iald (x := (M 87 ((M 89 x2.toNat).toNat))) dX4_spread_75 rfl o6 rfl (fun g7 => ?_)
      have h := h g7
      refine w_aload_n dX4_spread_76 rfl ?_
      refine w_getI (x := (M 86 12)) dX4_spread_77 fX4_60 rfl rfl rfl (fun g8 => ?_)
      have h := h g8
      refine w_ior dX4_spread_80 ?_
      refine w_aload_n dX4_spread_81 rfl ?_
      refine w_getI (x := (M 86 11)) dX4_spread_82 fX4_57 rfl rfl rfl (fun g9 => ?_)
      have h := h g9
      refine w_iconst dX4_spread_85 ?_
      refine w_ixor dX4_spread_86 ?_
      refine w_iand dX4_spread_87 ?_
      refine w_istore dX4_spread_88 (by decide) ?_
      refine w_iconst dX4_spread_90 ?_
      refine w_istore dX4_spread_91 (by decide) ?_
      exact k_pick [3, 4, 2, 1, 0] rfl h
theorem vX4_spread_93 {E : Scr} {f : Mem → Prop} {M : Mem} (x2 x3 x4 x5 : Int) (h : ((iR (M 86 6)) → (iR x5) ∧ ((x5 ≥ (M 86 6) → (KW E mX4_spread (qV f) M 48 [(0, pR 86), (2, pI (x2 + 1))] [])) ∧ (x5 < (M 86 6) → (((bAnd (bShr x4 x5) 1) = 0 → (KW E mX4_spread (qV f) M 93 [(0, pR 86), (2, pI x2), (3, pI x3), (4, pI x4), (5, pI (x5 + 1))] [])) ∧ ((bAnd (bShr x4 x5) 1) ≠ 0 → (0 ≤ x3 ∧ x3 < 256) ∧ ((iR (M 88 x3.toNat)) → (CV E mX4_finds [pR 86, pI (bXor x3 (bShl 1 x5)), pI ((M 88 x3.toNat) + 1)] M (fun M6 => (KW E mX4_spread (qV f) M6 93 [(0, pR 86), (2, pI x2), (3, pI x3), (4, pI x4), (5, pI (x5 + 1))] [])))))))))) : KW E mX4_spread (qV f) M 93 [(0, pR 86), (2, pI x2), (3, pI x3), (4, pI x4), (5, pI x5)] [] := by
  refine w_iload dX4_spread_93 rfl ?_
  refine w_aload_n dX4_spread_95 rfl ?_
  refine w_getI (x := (M 86 6)) dX4_spread_96 fX4_40 rfl rfl rfl (fun g1 => ?_)
  have h := h g1
  obtain ⟨o2, h⟩ := h
  refine w_icmp_ge dX4_spread_99 rfl ⟨o2, g1⟩ (fun c => ?_) (fun c => ?_)
  · have h := h.1 c
    refine w_iinc dX4_spread_136 rfl (by decide) ?_
    refine w_goto dX4_spread_139 rfl ?_
    exact k_pick [1, 0] rfl h
  · have h := h.2 c
    refine w_iload dX4_spread_102 rfl ?_
    refine w_iload dX4_spread_104 rfl ?_
    refine w_ishr dX4_spread_106 ?_
    refine w_iconst dX4_spread_107 ?_
    refine w_iand dX4_spread_108 ?_
    refine w_if_eq dX4_spread_109 rfl (bAnd_r _ _) (fun c => ?_) (fun c => ?_)
    · have h := h.1 c
      refine w_iinc dX4_spread_130 rfl (by decide) ?_
      refine w_goto dX4_spread_133 rfl ?_
      exact k_pick [1, 2, 3, 4, 0] rfl h
    · have h := h.2 c
      refine w_aload_n dX4_spread_112 rfl ?_
      refine w_iload_n dX4_spread_113 rfl ?_
      refine w_iconst dX4_spread_114 ?_
      refine w_iload dX4_spread_115 rfl ?_
      refine w_ishl dX4_spread_117 ?_
      refine w_ixor dX4_spread_118 ?_
      refine w_aload_n dX4_spread_119 rfl ?_
      refine w_getR dX4_spread_120 fX4_15 rfl rfl rfl ?_
      refine w_iload_n dX4_spread_123 rfl ?_
      obtain ⟨o3, h⟩ := h
      refine w_iald (x := (M 88 x3.toNat)) dX4_spread_124 rfl o3 rfl (fun g4 => ?_)
      have h := h g4
      refine w_iconst dX4_spread_125 ?_
      refine w_iadd dX4_spread_126 ?_
      refine k_vV (as := [pI (bXor x3 (bShl 1 x5)), pI ((M 88 x3.toNat) + 1)]) dX4_spread_127 kX4_83 ⟨⟨Nat.le_of_ble_eq_true rfl, rfl, rfl⟩, Nat.le_of_ble_eq_true rfl⟩ rfl (by decide) rfl (Nat.le_of_ble_eq_true rfl) h ?_
      intro M6 h
      refine w_iinc dX4_spread_130 rfl (by decide) ?_
      refine w_goto dX4_spread_133 rfl ?_
      exact k_pick [1, 2, 3, 4, 0] rfl h
theorem vX4_finds_0 {E : Scr} {f : Mem → Prop} {M : Mem} (x1 x2 : Int) (h : ((iR (M 86 10)) → (iR x1) ∧ ((x1 = (M 86 10) → f M) ∧ (x1 ≠ (M 86 10) → (CI E mX4_has [pR 86, pI x1] M (fun r3 M4 => (iR r3) ∧ ((r3 = 0 → f M4) ∧ (r3 ≠ 0 → (0 ≤ x1 ∧ x1 < 256) ∧ ((iR (M4 88 x1.toNat)) → (((M4 88 x1.toNat) ≠ (-1) → f M4) ∧ ((M4 88 x1.toNat) = (-1) → ((iR (M4 86 9)) → (((M4 86 9) ≥ 256 → f M4) ∧ ((M4 86 9) < 256 → (0 ≤ x1 ∧ x1 < 256) ∧ (iR x2) ∧ ((iR (M4 86 9)) → (0 ≤ (M4 86 9) ∧ (M4 86 9) < 256) ∧ (iR x1) ∧ ((iR (M4 86 9)) → (iR ((M4 86 9) + 1)) ∧ f (upM (upM (upM M4 88 x1.toNat x2) 89 ((M4 86 9).toNat) x1) 86 9 ((M4 86 9) + 1)))))))))))))))))) : CV E mX4_finds [pR 86, pI x1, pI x2] M f := by
  refine (show KW E mX4_finds (qV f) M 0 [(0, pR 86), (1, pI x1), (2, pI x2)] [] from ?_)
  refine w_iload_n dX4_finds_0 rfl ?_
  refine w_aload_n dX4_finds_1 rfl ?_
  refine w_getI (x := (M 86 10)) dX4_finds_2 fX4_31 rfl rfl rfl (fun g1 => ?_)
  have h := h g1
  obtain ⟨o2, h⟩ := h
  refine w_icmp_eq dX4_finds_5 rfl ⟨o2, g1⟩ (fun c => ?_) (fun c => ?_)
  · have h := h.1 c
    exact k_vret dX4_finds_63 rfl h
  · have h := h.2 c
    refine w_aload_n dX4_finds_8 rfl ?_
    refine w_iload_n dX4_finds_9 rfl ?_
    refine k_vI (as := [pI x1]) dX4_finds_10 kX4_63 ⟨⟨Nat.le_of_ble_eq_true rfl, rfl, rfl⟩, Nat.le_of_ble_eq_true rfl⟩ rfl (by decide) rfl (Nat.le_of_ble_eq_true rfl) h ?_
    intro r3 M4 h
    obtain ⟨o5, h⟩ := h
    refine w_if_eq dX4_finds_13 rfl o5 (fun c => ?_) (fun c => ?_)
    · have h := h.1 c
      exact k_vret dX4_finds_63 rfl h
    · have h := h.2 c
      refine w_aload_n dX4_finds_16 rfl ?_
      refine w_getR dX4_finds_17 fX4_15 rfl rfl rfl ?_
      refine w_iload_n dX4_finds_20 rfl ?_
      obtain ⟨o6, h⟩ := h
      refine w_iald (x := (M4 88 x1.toNat)) dX4_finds_21 rfl o6 rfl (fun g7 => ?_)
      have h := h g7
      refine w_iconst dX4_finds_22 ?_
      refine w_icmp_ne dX4_finds_23 rfl ⟨g7, (by decide)⟩ (fun c => ?_) (fun c => ?_)
      · have h := h.1 c
        exact k_vret dX4_finds_63 rfl h
      · have h := h.2 c
        refine w_aload_n dX4_finds_26 rfl ?_
        refine w_getI (x := (M4 86 9)) dX4_finds_27 fX4_77 rfl rfl rfl (fun g8 => ?_)
        have h := h g8
        refine w_sipush dX4_finds_30 (by decide) ?_
        refine w_icmp_ge dX4_finds_33 rfl ⟨g8, (by decide)⟩ (fun c => ?_) (fun c => ?_)
        · have h := h.1 c
          exact k_vret dX4_finds_63 rfl h
        · have h := h.2 c
          refine w_aload_n dX4_finds_36 rfl ?_
          refine w_getR dX4_finds_37 fX4_15 rfl rfl rfl ?_
          refine w_iload_n dX4_finds_40 rfl ?_
          refine w_iload_n dX4_finds_41 rfl ?_
          obtain ⟨o9, h⟩ := h
          obtain ⟨o10, h⟩ := h
          refine w_iast dX4_finds_42 rfl o9 o10 ?_
          refine w_aload_n dX4_finds_43 rfl ?_
          refine w_getR dX4_finds_44 fX4_18 rfl rfl rfl ?_
          refine w_aload_n dX4_finds_47 rfl ?_
          refine w_getI (x := (M4 86 9)) dX4_finds_48 fX4_77 rfl rfl rfl (fun g11 => ?_)
          have h := h g11
          refine w_iload_n dX4_finds_51 rfl ?_
          obtain ⟨o12, h⟩ := h
          obtain ⟨o13, h⟩ := h
          refine w_iast dX4_finds_52 rfl o12 o13 ?_
          refine w_aload_n dX4_finds_53 rfl ?_
          refine w_dup dX4_finds_54 rfl ?_
          refine w_getI (x := (M4 86 9)) dX4_finds_55 fX4_77 rfl rfl rfl (fun g14 => ?_)
          have h := h g14
          refine w_iconst dX4_finds_58 ?_
          refine w_iadd dX4_finds_59 ?_
          obtain ⟨o15, h⟩ := h
          refine w_putI dX4_finds_60 (Or.inl ⟨rfl, fX4_77⟩) rfl rfl o15 ?_
          exact k_vret dX4_finds_63 rfl h
theorem vX4_leadsOn_0 {E : Scr} {f : Int → Mem → Prop} {M : Mem} (x1 x2 : Int) (h : (CI E mX4_isMovable [pR 86, pI x1, pI x2] M (fun r1 M2 => (iR r1) ∧ ((r1 = 0 → f 0 M2) ∧ (r1 ≠ 0 → (CI E mX4_isHad [pR 86, pI x1] M2 (fun r4 M5 => (iR r4) ∧ ((r4 = 0 → f 0 M5) ∧ (r4 ≠ 0 → (CI E mX4_stepsTo [pR 86, pI (bXor x1 (bShl 1 x2))] M5 (fun r7 M8 => (CI E mX4_stepsTo [pR 86, pI x1] M8 (fun r9 M10 => (iR r7) ∧ (iR (r9 + 1)) ∧ ((r7 ≠ (r9 + 1) → f 0 M10) ∧ (r7 = (r9 + 1) → f 1 M10))))))))))))))) : CI E mX4_leadsOn [pR 86, pI x1, pI x2] M f := by
  refine (show KW E mX4_leadsOn (qI f) M 0 [(0, pR 86), (1, pI x1), (2, pI x2)] [] from ?_)
  refine w_aload_n dX4_leadsOn_0 rfl ?_
  refine w_iload_n dX4_leadsOn_1 rfl ?_
  refine w_iload_n dX4_leadsOn_2 rfl ?_
  refine k_vI (as := [pI x1, pI x2]) dX4_leadsOn_3 kX4_87 ⟨⟨Nat.le_of_ble_eq_true rfl, rfl, rfl⟩, Nat.le_of_ble_eq_true rfl⟩ rfl (by decide) rfl (Nat.le_of_ble_eq_true rfl) h ?_
  intro r1 M2 h
  obtain ⟨o3, h⟩ := h
  refine w_if_eq dX4_leadsOn_6 rfl o3 (fun c => ?_) (fun c => ?_)
  · have h := h.1 c
    refine w_iconst dX4_leadsOn_40 ?_
    exact k_zret dX4_leadsOn_41 rfl (by decide) h
  · have h := h.2 c
    refine w_aload_n dX4_leadsOn_9 rfl ?_
    refine w_iload_n dX4_leadsOn_10 rfl ?_
    refine k_vI (as := [pI x1]) dX4_leadsOn_11 kX4_91 ⟨⟨Nat.le_of_ble_eq_true rfl, rfl, rfl⟩, Nat.le_of_ble_eq_true rfl⟩ rfl (by decide) rfl (Nat.le_of_ble_eq_true rfl) h ?_
    intro r4 M5 h
    obtain ⟨o6, h⟩ := h
    refine w_if_eq dX4_leadsOn_14 rfl o6 (fun c => ?_) (fun c => ?_)
    · have h := h.1 c
      refine w_iconst dX4_leadsOn_40 ?_
      exact k_zret dX4_leadsOn_41 rfl (by decide) h
    · have h := h.2 c
      refine w_aload_n dX4_leadsOn_17 rfl ?_
      refine w_iload_n dX4_leadsOn_18 rfl ?_
      refine w_iconst dX4_leadsOn_19 ?_
      refine w_iload_n dX4_leadsOn_20 rfl ?_
      refine w_ishl dX4_leadsOn_21 ?_
      refine w_ixor dX4_leadsOn_22 ?_
      refine k_vI (as := [pI (bXor x1 (bShl 1 x2))]) dX4_leadsOn_23 kX4_67 ⟨⟨Nat.le_of_ble_eq_true rfl, rfl, rfl⟩, Nat.le_of_ble_eq_true rfl⟩ rfl (by decide) rfl (Nat.le_of_ble_eq_true rfl) h ?_
      intro r7 M8 h
      refine w_aload_n dX4_leadsOn_26 rfl ?_
      refine w_iload_n dX4_leadsOn_27 rfl ?_
      refine k_vI (as := [pI x1]) dX4_leadsOn_28 kX4_67 ⟨⟨Nat.le_of_ble_eq_true rfl, rfl, rfl⟩, Nat.le_of_ble_eq_true rfl⟩ rfl (by decide) rfl (Nat.le_of_ble_eq_true rfl) h ?_
      intro r9 M10 h
      refine w_iconst dX4_leadsOn_31 ?_
      refine w_iadd dX4_leadsOn_32 ?_
      obtain ⟨o11, h⟩ := h
      obtain ⟨o12, h⟩ := h
      refine w_icmp_ne dX4_leadsOn_33 rfl ⟨o11, o12⟩ (fun c => ?_) (fun c => ?_)
      · have h := h.1 c
        refine w_iconst dX4_leadsOn_40 ?_
        exact k_zret dX4_leadsOn_41 rfl (by decide) h
      · have h := h.2 c
        refine w_iconst dX4_leadsOn_36 ?_
        refine w_goto dX4_leadsOn_37 rfl ?_
        exact k_zret dX4_leadsOn_41 rfl (by decide) h
theorem vX4_firstTo_0 {E : Scr} {f : Int → Mem → Prop} {M : Mem} (x1 : Int) (h : (CI E mX4_isHad [pR 86, pI x1] M (fun r1 M2 => (iR r1) ∧ ((r1 = 0 → f (-2) M2) ∧ (r1 ≠ 0 → ((iR (M2 86 8)) → (iR x1) ∧ ((x1 ≠ (M2 86 8) → (CV E mJ7_fill_53178 [pR 90, pI 0] M2 (fun M7 => (KW E mX4_firstTo (qI f) M7 29 [(0, pR 86), (1, pI x1), (2, pI 0)] [])))) ∧ (x1 = (M2 86 8) → f (-2) M2)))))))) : CI E mX4_firstTo [pR 86, pI x1] M f := by
  refine (show KW E mX4_firstTo (qI f) M 0 [(0, pR 86), (1, pI x1)] [] from ?_)
  refine w_aload_n dX4_firstTo_0 rfl ?_
  refine w_iload_n dX4_firstTo_1 rfl ?_
  refine k_vI (as := [pI x1]) dX4_firstTo_2 kX4_91 ⟨⟨Nat.le_of_ble_eq_true rfl, rfl, rfl⟩, Nat.le_of_ble_eq_true rfl⟩ rfl (by decide) rfl (Nat.le_of_ble_eq_true rfl) h ?_
  intro r1 M2 h
  obtain ⟨o3, h⟩ := h
  refine w_if_eq dX4_firstTo_5 rfl o3 (fun c => ?_) (fun c => ?_)
  · have h := h.1 c
    refine w_bipush dX4_firstTo_16 (by decide) ?_
    exact k_iret dX4_firstTo_18 rfl h
  · have h := h.2 c
    refine w_iload_n dX4_firstTo_8 rfl ?_
    refine w_aload_n dX4_firstTo_9 rfl ?_
    refine w_getI (x := (M2 86 8)) dX4_firstTo_10 fX4_80 rfl rfl rfl (fun g4 => ?_)
    have h := h g4
    obtain ⟨o5, h⟩ := h
    refine w_icmp_ne dX4_firstTo_13 rfl ⟨o5, g4⟩ (fun c => ?_) (fun c => ?_)
    · have h := h.1 c
      refine w_aload_n dX4_firstTo_19 rfl ?_
      refine w_getR dX4_firstTo_20 fX4_21 rfl rfl rfl ?_
      refine w_iconst dX4_firstTo_23 ?_
      refine k_sV (as := [pR 90, pI 0]) dX4_firstTo_24 kX4_71 ⟨⟨Nat.le_of_ble_eq_true rfl, rfl, rfl⟩, Nat.le_of_ble_eq_true rfl⟩ rfl (Nat.le_of_ble_eq_true rfl) h ?_
      intro M7 h
      refine w_iconst dX4_firstTo_27 ?_
      refine w_istore_n dX4_firstTo_28 (by decide) ?_
      exact k_pick [1, 2, 0] rfl h
    · have h := h.2 c
      refine w_bipush dX4_firstTo_16 (by decide) ?_
      exact k_iret dX4_firstTo_18 rfl h
theorem vX4_firstTo_29 {E : Scr} {f : Int → Mem → Prop} {M : Mem} (x1 x2 : Int) (h : ((iR (M 86 9)) → (iR x2) ∧ ((x2 ≥ (M 86 9) → (KW E mX4_firstTo (qI f) M 122 [(0, pR 86), (1, pI x1), (2, pI 0)] [])) ∧ (x2 < (M 86 9) → (iR x2) ∧ ((x2 ≥ 256 → (KW E mX4_firstTo (qI f) M 122 [(0, pR 86), (1, pI x1), (2, pI 0)] [])) ∧ (x2 < 256 → (0 ≤ x2 ∧ x2 < 256) ∧ ((iR (M 89 x2.toNat)) → (KW E mX4_firstTo (qI f) M 54 [(0, pR 86), (1, pI x1), (2, pI x2), (3, pI (M 89 x2.toNat)), (4, pI 0)] [])))))))) : KW E mX4_firstTo (qI f) M 29 [(0, pR 86), (1, pI x1), (2, pI x2)] [] := by
  refine w_iload_n dX4_firstTo_29 rfl ?_
  refine w_aload_n dX4_firstTo_30 rfl ?_
  refine w_getI (x := (M 86 9)) dX4_firstTo_31 fX4_77 rfl rfl rfl (fun g1 => ?_)
  have h := h g1
  obtain ⟨o2, h⟩ := h
  refine w_icmp_ge dX4_firstTo_34 rfl ⟨o2, g1⟩ (fun c => ?_) (fun c => ?_)
  · have h := h.1 c
    refine w_iconst dX4_firstTo_120 ?_
    refine w_istore_n dX4_firstTo_121 (by decide) ?_
    exact k_pick [1, 2, 0] rfl h
  · have h := h.2 c
    refine w_iload_n dX4_firstTo_37 rfl ?_
    refine w_sipush dX4_firstTo_38 (by decide) ?_
    obtain ⟨o3, h⟩ := h
    refine w_icmp_ge dX4_firstTo_41 rfl ⟨o3, (by decide)⟩ (fun c => ?_) (fun c => ?_)
    · have h := h.1 c
      refine w_iconst dX4_firstTo_120 ?_
      refine w_istore_n dX4_firstTo_121 (by decide) ?_
      exact k_pick [1, 2, 0] rfl h
    · have h := h.2 c
      refine w_aload_n dX4_firstTo_44 rfl ?_
      refine w_getR dX4_firstTo_45 fX4_18 rfl rfl rfl ?_
      refine w_iload_n dX4_firstTo_48 rfl ?_
      obtain ⟨o4, h⟩ := h
      refine w_iald (x := (M 89 x2.toNat)) dX4_firstTo_49 rfl o4 rfl (fun g5 => ?_)
      have h := h g5
      refine w_istore_n dX4_firstTo_50 (by decide) ?_
      refine w_iconst dX4_firstTo_51 ?_
      refine w_istore dX4_firstTo_52 (by decide) ?_
      exact k_pick [2, 3, 4, 1, 0] rfl h
theorem vX4_firstTo_122 {E : Scr} {f : Int → Mem → Prop} {M : Mem} (x1 x2 : Int) (h : ((iR (M 86 6)) → (iR x2) ∧ ((x2 ≥ (M 86 6) → f (-2) M) ∧ (x2 < (M 86 6) → (0 ≤ x1 ∧ x1 < 256) ∧ ((iR (M 90 x1.toNat)) → (((bAnd (bShr (M 90 x1.toNat) x2) 1) = 0 → (KW E mX4_firstTo (qI f) M 122 [(0, pR 86), (1, pI x1), (2, pI (x2 + 1))] [])) ∧ ((bAnd (bShr (M 90 x1.toNat) x2) 1) ≠ 0 → f x2 M))))))) : KW E mX4_firstTo (qI f) M 122 [(0, pR 86), (1, pI x1), (2, pI x2)] [] := by
  refine w_iload_n dX4_firstTo_122 rfl ?_
  refine w_aload_n dX4_firstTo_123 rfl ?_
  refine w_getI (x := (M 86 6)) dX4_firstTo_124 fX4_40 rfl rfl rfl (fun g1 => ?_)
  have h := h g1
  obtain ⟨o2, h⟩ := h
  refine w_icmp_ge dX4_firstTo_127 rfl ⟨o2, g1⟩ (fun c => ?_) (fun c => ?_)
  · have h := h.1 c
    refine w_bipush dX4_firstTo_151 (by decide) ?_
    exact k_iret dX4_firstTo_153 rfl h
  · have h := h.2 c
    refine w_aload_n dX4_firstTo_130 rfl ?_
    refine w_getR dX4_firstTo_131 fX4_21 rfl rfl rfl ?_
    refine w_iload_n dX4_firstTo_134 rfl ?_
    obtain ⟨o3, h⟩ := h
    refine w_iald (x := (M 90 x1.toNat)) dX4_firstTo_135 rfl o3 rfl (fun g4 => ?_)
    have h := h g4
    refine w_iload_n dX4_firstTo_136 rfl ?_
    refine w_ishr dX4_firstTo_137 ?_
    refine w_iconst dX4_firstTo_138 ?_
    refine w_iand dX4_firstTo_139 ?_
    refine w_if_eq dX4_firstTo_140 rfl (bAnd_r _ _) (fun c => ?_) (fun c => ?_)
    · have h := h.1 c
      refine w_iinc dX4_firstTo_145 rfl (by decide) ?_
      refine w_goto dX4_firstTo_148 rfl ?_
      exact k_pick [1, 2, 0] rfl h
    · have h := h.2 c
      refine w_iload_n dX4_firstTo_143 rfl ?_
      exact k_iret dX4_firstTo_144 rfl h
theorem vX4_firstTo_54 {E : Scr} {f : Int → Mem → Prop} {M : Mem} (x1 x2 x3 x4 : Int) (h : ((iR (M 86 6)) → (iR x4) ∧ ((x4 ≥ (M 86 6) → (KW E mX4_firstTo (qI f) M 29 [(0, pR 86), (1, pI x1), (2, pI (x2 + 1))] [])) ∧ (x4 < (M 86 6) → (CI E mX4_leadsOn [pR 86, pI x3, pI x4] M (fun r3 M4 => (iR r3) ∧ ((r3 = 0 → (KW E mX4_firstTo (qI f) M4 54 [(0, pR 86), (1, pI x1), (2, pI x2), (3, pI x3), (4, pI (x4 + 1))] [])) ∧ (r3 ≠ 0 → (0 ≤ (bXor x3 (bShl 1 x4)) ∧ (bXor x3 (bShl 1 x4)) < 256) ∧ ((iR (M4 90 ((bXor x3 (bShl 1 x4)).toNat))) → ((iR (M4 86 8)) → (iR x3) ∧ ((x3 ≠ (M4 86 8) → (0 ≤ x3 ∧ x3 < 256) ∧ ((iR (M4 90 x3.toNat)) → (0 ≤ (bXor x3 (bShl 1 x4)) ∧ (bXor x3 (bShl 1 x4)) < 256) ∧ (KW E mX4_firstTo (qI f) (upM M4 90 ((bXor x3 (bShl 1 x4)).toNat) (bOr (M4 90 ((bXor x3 (bShl 1 x4)).toNat)) (M4 90 x3.toNat))) 54 [(0, pR 86), (1, pI x1), (2, pI x2), (3, pI x3), (4, pI (x4 + 1))] []))) ∧ (x3 = (M4 86 8) → (0 ≤ (bXor x3 (bShl 1 x4)) ∧ (bXor x3 (bShl 1 x4)) < 256) ∧ (KW E mX4_firstTo (qI f) (upM M4 90 ((bXor x3 (bShl 1 x4)).toNat) (bOr (M4 90 ((bXor x3 (bShl 1 x4)).toNat)) (bShl 1 x4))) 54 [(0, pR 86), (1, pI x1), (2, pI x2), (3, pI x3), (4, pI (x4 + 1))] []))))))))))))) : KW E mX4_firstTo (qI f) M 54 [(0, pR 86), (1, pI x1), (2, pI x2), (3, pI x3), (4, pI x4)] [] := by
  refine w_iload dX4_firstTo_54 rfl ?_
  refine w_aload_n dX4_firstTo_56 rfl ?_
  refine w_getI (x := (M 86 6)) dX4_firstTo_57 fX4_40 rfl rfl rfl (fun g1 => ?_)
  have h := h g1
  obtain ⟨o2, h⟩ := h
  refine w_icmp_ge dX4_firstTo_60 rfl ⟨o2, g1⟩ (fun c => ?_) (fun c => ?_)
  · have h := h.1 c
    refine w_iinc dX4_firstTo_114 rfl (by decide) ?_
    refine w_goto dX4_firstTo_117 rfl ?_
    exact k_pick [1, 2, 0] rfl h
  · have h := h.2 c
    refine w_aload_n dX4_firstTo_63 rfl ?_
    refine w_iload_n dX4_firstTo_64 rfl ?_
    refine w_iload dX4_firstTo_65 rfl ?_
    refine k_vI (as := [pI x3, pI x4]) dX4_firstTo_67 kX4_94 ⟨⟨Nat.le_of_ble_eq_true rfl, rfl, rfl⟩, Nat.le_of_ble_eq_true rfl⟩ rfl (by decide) rfl (Nat.le_of_ble_eq_true rfl) h ?_
    intro r3 M4 h
    obtain ⟨o5, h⟩ := h
    refine w_if_eq dX4_firstTo_70 rfl o5 (fun c => ?_) (fun c => ?_)
    · have h := h.1 c
      refine w_iinc dX4_firstTo_108 rfl (by decide) ?_
      refine w_goto dX4_firstTo_111 rfl ?_
      exact k_pick [1, 2, 3, 4, 0] rfl h
    · have h := h.2 c
      refine w_aload_n dX4_firstTo_73 rfl ?_
      refine w_getR dX4_firstTo_74 fX4_21 rfl rfl rfl ?_
      refine w_iload_n dX4_firstTo_77 rfl ?_
      refine w_iconst dX4_firstTo_78 ?_
      refine w_iload dX4_firstTo_79 rfl ?_
      refine w_ishl dX4_firstTo_81 ?_
      refine w_ixor dX4_firstTo_82 ?_
      refine w_dup2 dX4_firstTo_83 ⟨rfl, rfl⟩ ?_
      obtain ⟨o6, h⟩ := h
      refine w_iald (x := (M4 90 ((bXor x3 (bShl 1 x4)).toNat))) dX4_firstTo_84 rfl o6 rfl (fun g7 => ?_)
      have h := h g7
      refine w_iload_n dX4_firstTo_85 rfl ?_
      refine w_aload_n dX4_firstTo_86 rfl ?_
      refine w_getI (x := (M4 86 8)) dX4_firstTo_87 fX4_80 rfl rfl rfl (fun g8 => ?_)
      have h := h g8
      obtain ⟨o9, h⟩ := h
      refine w_icmp_ne dX4_firstTo_90 rfl ⟨o9, g8⟩ (fun c => ?_) (fun c => ?_)
      · have h := h.1 c
        refine w_aload_n dX4_firstTo_100 rfl ?_
        refine w_getR dX4_firstTo_101 fX4_21 rfl rfl rfl ?_
        refine w_iload_n dX4_firstTo_104 rfl ?_
        obtain ⟨o10, h⟩ := h
        refine w_iald (x := (M4 90 x3.toNat)) dX4_firstTo_105 rfl o10 rfl (fun g11 => ?_)
        have h := h g11
        refine w_ior dX4_firstTo_106 ?_
        obtain ⟨o12, h⟩ := h
        refine w_iast dX4_firstTo_107 rfl o12 (bOr_r _ _) ?_
        refine w_iinc dX4_firstTo_108 rfl (by decide) ?_
        refine w_goto dX4_firstTo_111 rfl ?_
        exact k_pick [1, 2, 3, 4, 0] rfl h
      · have h := h.2 c
        refine w_iconst dX4_firstTo_93 ?_
        refine w_iload dX4_firstTo_94 rfl ?_
        refine w_ishl dX4_firstTo_96 ?_
        refine w_goto dX4_firstTo_97 rfl ?_
        refine w_ior dX4_firstTo_106 ?_
        obtain ⟨o13, h⟩ := h
        refine w_iast dX4_firstTo_107 rfl o13 (bOr_r _ _) ?_
        refine w_iinc dX4_firstTo_108 rfl (by decide) ?_
        refine w_goto dX4_firstTo_111 rfl ?_
        exact k_pick [1, 2, 3, 4, 0] rfl h
theorem vX4_waysTo_0 {E : Scr} {f : Int → Mem → Prop} {M : Mem} (x1 : Int) (h : (CI E mX4_isHad [pR 86, pI x1] M (fun r1 M2 => (iR r1) ∧ ((r1 = 0 → f 0 M2) ∧ (r1 ≠ 0 → ((iR (M2 86 8)) → (CI E mX4_has [pR 86, pI (M2 86 8)] M2 (fun r5 M6 => (iR r5) ∧ ((r5 ≠ 0 → (CV E mJ7_fill_d0a16 [pR 91, pL 0] M6 (fun M9 => ((iR (M9 86 8)) → (0 ≤ (M9 86 8) ∧ (M9 86 8) < 256) ∧ (KW E mX4_waysTo (qI f) (upM M9 91 ((M9 86 8).toNat) 1) 41 [(0, pR 86), (1, pI x1), (2, pI 0)] []))))) ∧ (r5 = 0 → f 0 M6)))))))))) : CI E mX4_waysTo [pR 86, pI x1] M f := by
  refine (show KW E mX4_waysTo (qI f) M 0 [(0, pR 86), (1, pI x1)] [] from ?_)
  refine w_aload_n dX4_waysTo_0 rfl ?_
  refine w_iload_n dX4_waysTo_1 rfl ?_
  refine k_vI (as := [pI x1]) dX4_waysTo_2 kX4_91 ⟨⟨Nat.le_of_ble_eq_true rfl, rfl, rfl⟩, Nat.le_of_ble_eq_true rfl⟩ rfl (by decide) rfl (Nat.le_of_ble_eq_true rfl) h ?_
  intro r1 M2 h
  obtain ⟨o3, h⟩ := h
  refine w_if_eq dX4_waysTo_5 rfl o3 (fun c => ?_) (fun c => ?_)
  · have h := h.1 c
    refine w_iconst dX4_waysTo_19 ?_
    exact k_iret dX4_waysTo_20 rfl h
  · have h := h.2 c
    refine w_aload_n dX4_waysTo_8 rfl ?_
    refine w_aload_n dX4_waysTo_9 rfl ?_
    refine w_getI (x := (M2 86 8)) dX4_waysTo_10 fX4_80 rfl rfl rfl (fun g4 => ?_)
    have h := h g4
    refine k_vI (as := [pI (M2 86 8)]) dX4_waysTo_13 kX4_63 ⟨⟨Nat.le_of_ble_eq_true rfl, rfl, rfl⟩, Nat.le_of_ble_eq_true rfl⟩ rfl (by decide) rfl (Nat.le_of_ble_eq_true rfl) h ?_
    intro r5 M6 h
    obtain ⟨o7, h⟩ := h
    refine w_if_ne dX4_waysTo_16 rfl o7 (fun c => ?_) (fun c => ?_)
    · have h := h.1 c
      refine w_aload_n dX4_waysTo_21 rfl ?_
      refine w_getR dX4_waysTo_22 fX4_24 rfl rfl rfl ?_
      refine w_lconst (x := 0) dX4_waysTo_25 rfl ?_
      refine k_sV (as := [pR 91, pL 0]) dX4_waysTo_26 kX4_97 ⟨⟨Nat.le_of_ble_eq_true rfl, rfl, rfl⟩, Nat.le_of_ble_eq_true rfl⟩ rfl (Nat.le_of_ble_eq_true rfl) h ?_
      intro M9 h
      refine w_aload_n dX4_waysTo_29 rfl ?_
      refine w_getR dX4_waysTo_30 fX4_24 rfl rfl rfl ?_
      refine w_aload_n dX4_waysTo_33 rfl ?_
      refine w_getI (x := (M9 86 8)) dX4_waysTo_34 fX4_80 rfl rfl rfl (fun g10 => ?_)
      have h := h g10
      refine w_lconst (x := 1) dX4_waysTo_37 rfl ?_
      obtain ⟨o11, h⟩ := h
      refine w_last dX4_waysTo_38 rfl o11 (by decide) ?_
      refine w_iconst dX4_waysTo_39 ?_
      refine w_istore_n dX4_waysTo_40 (by decide) ?_
      exact k_pick [1, 2, 0] rfl h
    · have h := h.2 c
      refine w_iconst dX4_waysTo_19 ?_
      exact k_iret dX4_waysTo_20 rfl h
theorem vX4_waysTo_41 {E : Scr} {f : Int → Mem → Prop} {M : Mem} (x1 x2 : Int) (h : ((iR (M 86 9)) → (iR x2) ∧ ((x2 ≥ (M 86 9) → (0 ≤ x1 ∧ x1 < 256) ∧ ((lR (M 91 x1.toNat)) → f (M 91 x1.toNat) M)) ∧ (x2 < (M 86 9) → (iR x2) ∧ ((x2 ≥ 256 → (0 ≤ x1 ∧ x1 < 256) ∧ ((lR (M 91 x1.toNat)) → f (M 91 x1.toNat) M)) ∧ (x2 < 256 → (0 ≤ x2 ∧ x2 < 256) ∧ ((iR (M 89 x2.toNat)) → (KW E mX4_waysTo (qI f) M 66 [(0, pR 86), (1, pI x1), (2, pI x2), (3, pI (M 89 x2.toNat)), (4, pI 0)] [])))))))) : KW E mX4_waysTo (qI f) M 41 [(0, pR 86), (1, pI x1), (2, pI x2)] [] := by
  refine w_iload_n dX4_waysTo_41 rfl ?_
  refine w_aload_n dX4_waysTo_42 rfl ?_
  refine w_getI (x := (M 86 9)) dX4_waysTo_43 fX4_77 rfl rfl rfl (fun g1 => ?_)
  have h := h g1
  obtain ⟨o2, h⟩ := h
  refine w_icmp_ge dX4_waysTo_46 rfl ⟨o2, g1⟩ (fun c => ?_) (fun c => ?_)
  · have h := h.1 c
    refine w_aload_n dX4_waysTo_132 rfl ?_
    refine w_getR dX4_waysTo_133 fX4_24 rfl rfl rfl ?_
    refine w_iload_n dX4_waysTo_136 rfl ?_
    obtain ⟨o3, h⟩ := h
    refine w_lald (x := (M 91 x1.toNat)) dX4_waysTo_137 rfl o3 rfl (fun g4 => ?_)
    have h := h g4
    refine w_l2i dX4_waysTo_138 g4 ?_
    exact k_iret dX4_waysTo_139 rfl h
  · have h := h.2 c
    refine w_iload_n dX4_waysTo_49 rfl ?_
    refine w_sipush dX4_waysTo_50 (by decide) ?_
    obtain ⟨o5, h⟩ := h
    refine w_icmp_ge dX4_waysTo_53 rfl ⟨o5, (by decide)⟩ (fun c => ?_) (fun c => ?_)
    · have h := h.1 c
      refine w_aload_n dX4_waysTo_132 rfl ?_
      refine w_getR dX4_waysTo_133 fX4_24 rfl rfl rfl ?_
      refine w_iload_n dX4_waysTo_136 rfl ?_
      obtain ⟨o6, h⟩ := h
      refine w_lald (x := (M 91 x1.toNat)) dX4_waysTo_137 rfl o6 rfl (fun g7 => ?_)
      have h := h g7
      refine w_l2i dX4_waysTo_138 g7 ?_
      exact k_iret dX4_waysTo_139 rfl h
    · have h := h.2 c
      refine w_aload_n dX4_waysTo_56 rfl ?_
      refine w_getR dX4_waysTo_57 fX4_18 rfl rfl rfl ?_
      refine w_iload_n dX4_waysTo_60 rfl ?_
      obtain ⟨o8, h⟩ := h
      refine w_iald (x := (M 89 x2.toNat)) dX4_waysTo_61 rfl o8 rfl (fun g9 => ?_)
      have h := h g9
      refine w_istore_n dX4_waysTo_62 (by decide) ?_
      refine w_iconst dX4_waysTo_63 ?_
      refine w_istore dX4_waysTo_64 (by decide) ?_
      exact k_pick [2, 3, 4, 1, 0] rfl h
theorem vX4_waysTo_66 {E : Scr} {f : Int → Mem → Prop} {M : Mem} (x1 x2 x3 x4 : Int) (h : ((iR (M 86 6)) → (iR x4) ∧ ((x4 ≥ (M 86 6) → (KW E mX4_waysTo (qI f) M 41 [(0, pR 86), (1, pI x1), (2, pI (x2 + 1))] [])) ∧ (x4 < (M 86 6) → (CI E mX4_leadsOn [pR 86, pI x3, pI x4] M (fun r3 M4 => (iR r3) ∧ ((r3 = 0 → (KW E mX4_waysTo (qI f) M4 66 [(0, pR 86), (1, pI x1), (2, pI x2), (3, pI x3), (4, pI (x4 + 1))] [])) ∧ (r3 ≠ 0 → (0 ≤ (bXor x3 (bShl 1 x4)) ∧ (bXor x3 (bShl 1 x4)) < 256) ∧ ((lR (M4 91 ((bXor x3 (bShl 1 x4)).toNat))) → (0 ≤ x3 ∧ x3 < 256) ∧ ((lR (M4 91 x3.toNat)) → (lR ((M4 91 ((bXor x3 (bShl 1 x4)).toNat)) + (M4 91 x3.toNat))) ∧ (0 ≤ (bXor x3 (bShl 1 x4)) ∧ (bXor x3 (bShl 1 x4)) < 256) ∧ (KW E mX4_waysTo (qI f) (upM M4 91 ((bXor x3 (bShl 1 x4)).toNat) (min 1000000000 ((M4 91 ((bXor x3 (bShl 1 x4)).toNat)) + (M4 91 x3.toNat)))) 66 [(0, pR 86), (1, pI x1), (2, pI x2), (3, pI x3), (4, pI (x4 + 1))] []))))))))))) : KW E mX4_waysTo (qI f) M 66 [(0, pR 86), (1, pI x1), (2, pI x2), (3, pI x3), (4, pI x4)] [] := by
  refine w_iload dX4_waysTo_66 rfl ?_
  refine w_aload_n dX4_waysTo_68 rfl ?_
  refine w_getI (x := (M 86 6)) dX4_waysTo_69 fX4_40 rfl rfl rfl (fun g1 => ?_)
  have h := h g1
  obtain ⟨o2, h⟩ := h
  refine w_icmp_ge dX4_waysTo_72 rfl ⟨o2, g1⟩ (fun c => ?_) (fun c => ?_)
  · have h := h.1 c
    refine w_iinc dX4_waysTo_126 rfl (by decide) ?_
    refine w_goto dX4_waysTo_129 rfl ?_
    exact k_pick [1, 2, 0] rfl h
  · have h := h.2 c
    refine w_aload_n dX4_waysTo_75 rfl ?_
    refine w_iload_n dX4_waysTo_76 rfl ?_
    refine w_iload dX4_waysTo_77 rfl ?_
    refine k_vI (as := [pI x3, pI x4]) dX4_waysTo_79 kX4_94 ⟨⟨Nat.le_of_ble_eq_true rfl, rfl, rfl⟩, Nat.le_of_ble_eq_true rfl⟩ rfl (by decide) rfl (Nat.le_of_ble_eq_true rfl) h ?_
    intro r3 M4 h
    obtain ⟨o5, h⟩ := h
    refine w_if_eq dX4_waysTo_82 rfl o5 (fun c => ?_) (fun c => ?_)
    · have h := h.1 c
      refine w_iinc dX4_waysTo_120 rfl (by decide) ?_
      refine w_goto dX4_waysTo_123 rfl ?_
      exact k_pick [1, 2, 3, 4, 0] rfl h
    · have h := h.2 c
      refine w_iload_n dX4_waysTo_85 rfl ?_
      refine w_iconst dX4_waysTo_86 ?_
      refine w_iload dX4_waysTo_87 rfl ?_
      refine w_ishl dX4_waysTo_89 ?_
      refine w_ixor dX4_waysTo_90 ?_
      refine w_istore dX4_waysTo_91 (by decide) ?_
      refine w_aload_n dX4_waysTo_93 rfl ?_
      refine w_getR dX4_waysTo_94 fX4_24 rfl rfl rfl ?_
      refine w_iload dX4_waysTo_97 rfl ?_
      refine w_ldc2 dX4_waysTo_99 qX4_100 ?_
      refine w_aload_n dX4_waysTo_102 rfl ?_
      refine w_getR dX4_waysTo_103 fX4_24 rfl rfl rfl ?_
      refine w_iload dX4_waysTo_106 rfl ?_
      obtain ⟨o6, h⟩ := h
      refine w_lald (x := (M4 91 ((bXor x3 (bShl 1 x4)).toNat))) dX4_waysTo_108 rfl o6 rfl (fun g7 => ?_)
      have h := h g7
      refine w_aload_n dX4_waysTo_109 rfl ?_
      refine w_getR dX4_waysTo_110 fX4_24 rfl rfl rfl ?_
      refine w_iload_n dX4_waysTo_113 rfl ?_
      obtain ⟨o8, h⟩ := h
      refine w_lald (x := (M4 91 x3.toNat)) dX4_waysTo_114 rfl o8 rfl (fun g9 => ?_)
      have h := h g9
      refine w_ladd dX4_waysTo_115 ?_
      obtain ⟨o10, h⟩ := h
      refine w_lmin dX4_waysTo_116 kX4_102 ⟨by decide, Nat.le_of_ble_eq_true rfl⟩ ⟨by decide, by decide⟩ ⟨(by decide), o10⟩ ?_
      obtain ⟨o11, h⟩ := h
      refine w_last dX4_waysTo_119 rfl o11 (minl_r (by decide) o10) ?_
      refine w_iinc dX4_waysTo_120 rfl (by decide) ?_
      refine w_goto dX4_waysTo_123 rfl ?_
      exact k_pick [2, 3, 4, 5, 0] rfl h
theorem vX4_farthestRow_0 {E : Scr} {f : Int → Mem → Prop} {M : Mem} (h : ((iR (M 86 8)) → (KW E mX4_farthestRow (qI f) M 7 [(0, pR 86), (1, pI (M 86 8)), (2, pI 0)] []))) : CI E mX4_farthestRow [pR 86] M f := by
  refine (show KW E mX4_farthestRow (qI f) M 0 [(0, pR 86)] [] from ?_)
  refine w_aload_n dX4_farthestRow_0 rfl ?_
  refine w_getI (x := (M 86 8)) dX4_farthestRow_1 fX4_80 rfl rfl rfl (fun g1 => ?_)
  have h := h g1
  refine w_istore_n dX4_farthestRow_4 (by decide) ?_
  refine w_iconst dX4_farthestRow_5 ?_
  refine w_istore_n dX4_farthestRow_6 (by decide) ?_
  exact k_pick [2, 1, 0] rfl h
theorem vX4_farthestRow_7 {E : Scr} {f : Int → Mem → Prop} {M : Mem} (x1 x2 : Int) (h : ((iR (M 86 7)) → (iR x2) ∧ ((x2 ≥ (M 86 7) → f x1 M) ∧ (x2 < (M 86 7) → (CI E mX4_stepsTo [pR 86, pI x2] M (fun r3 M4 => (CI E mX4_stepsTo [pR 86, pI x1] M4 (fun r5 M6 => (iR r3) ∧ (iR r5) ∧ ((r3 ≤ r5 → (KW E mX4_farthestRow (qI f) M6 7 [(0, pR 86), (1, pI x1), (2, pI (x2 + 1))] [])) ∧ (r3 > r5 → (KW E mX4_farthestRow (qI f) M6 7 [(0, pR 86), (1, pI x2), (2, pI (x2 + 1))] []))))))))))) : KW E mX4_farthestRow (qI f) M 7 [(0, pR 86), (1, pI x1), (2, pI x2)] [] := by
  refine w_iload_n dX4_farthestRow_7 rfl ?_
  refine w_aload_n dX4_farthestRow_8 rfl ?_
  refine w_getI (x := (M 86 7)) dX4_farthestRow_9 fX4_47 rfl rfl rfl (fun g1 => ?_)
  have h := h g1
  obtain ⟨o2, h⟩ := h
  refine w_icmp_ge dX4_farthestRow_12 rfl ⟨o2, g1⟩ (fun c => ?_) (fun c => ?_)
  · have h := h.1 c
    refine w_iload_n dX4_farthestRow_36 rfl ?_
    exact k_iret dX4_farthestRow_37 rfl h
  · have h := h.2 c
    refine w_aload_n dX4_farthestRow_15 rfl ?_
    refine w_iload_n dX4_farthestRow_16 rfl ?_
    refine k_vI (as := [pI x2]) dX4_farthestRow_17 kX4_67 ⟨⟨Nat.le_of_ble_eq_true rfl, rfl, rfl⟩, Nat.le_of_ble_eq_true rfl⟩ rfl (by decide) rfl (Nat.le_of_ble_eq_true rfl) h ?_
    intro r3 M4 h
    refine w_aload_n dX4_farthestRow_20 rfl ?_
    refine w_iload_n dX4_farthestRow_21 rfl ?_
    refine k_vI (as := [pI x1]) dX4_farthestRow_22 kX4_67 ⟨⟨Nat.le_of_ble_eq_true rfl, rfl, rfl⟩, Nat.le_of_ble_eq_true rfl⟩ rfl (by decide) rfl (Nat.le_of_ble_eq_true rfl) h ?_
    intro r5 M6 h
    obtain ⟨o7, h⟩ := h
    obtain ⟨o8, h⟩ := h
    refine w_icmp_le dX4_farthestRow_25 rfl ⟨o7, o8⟩ (fun c => ?_) (fun c => ?_)
    · have h := h.1 c
      refine w_iinc dX4_farthestRow_30 rfl (by decide) ?_
      refine w_goto dX4_farthestRow_33 rfl ?_
      exact k_pick [1, 2, 0] rfl h
    · have h := h.2 c
      refine w_iload_n dX4_farthestRow_28 rfl ?_
      refine w_istore_n dX4_farthestRow_29 (by decide) ?_
      refine w_iinc dX4_farthestRow_30 rfl (by decide) ?_
      refine w_goto dX4_farthestRow_33 rfl ?_
      exact k_pick [2, 1, 0] rfl h
theorem vX4_width_0 {E : Scr} {f : Int → Mem → Prop} {M : Mem} (x1 : Int) (h : (CV E mX4_spread [pR 86, pI x1] M (fun M2 => ((iR (M2 86 9)) → (KW E mX4_width (qI f) (cpM M2 89 90 0 0 256) 31 [(0, pR 86), (2, pI (M2 86 9)), (3, pI 0), (4, pI 0)] []))))) : CI E mX4_width [pR 86, pI x1] M f := by
  refine (show KW E mX4_width (qI f) M 0 [(0, pR 86), (1, pI x1)] [] from ?_)
  refine w_aload_n dX4_width_0 rfl ?_
  refine w_iload_n dX4_width_1 rfl ?_
  refine k_vV (as := [pI x1]) dX4_width_2 kX4_105 ⟨⟨Nat.le_of_ble_eq_true rfl, rfl, rfl⟩, Nat.le_of_ble_eq_true rfl⟩ rfl (by decide) rfl (Nat.le_of_ble_eq_true rfl) h ?_
  intro M2 h
  refine w_aload_n dX4_width_5 rfl ?_
  refine w_getI (x := (M2 86 9)) dX4_width_6 fX4_77 rfl rfl rfl (fun g3 => ?_)
  have h := h g3
  refine w_istore_n dX4_width_9 (by decide) ?_
  refine w_aload_n dX4_width_10 rfl ?_
  refine w_getR dX4_width_11 fX4_18 rfl rfl rfl ?_
  refine w_iconst dX4_width_14 ?_
  refine w_aload_n dX4_width_15 rfl ?_
  refine w_getR dX4_width_16 fX4_21 rfl rfl rfl ?_
  refine w_iconst dX4_width_19 ?_
  refine w_sipush dX4_width_20 (by decide) ?_
  refine w_copyI dX4_width_23 kX4_109 ⟨by decide, Nat.le_of_ble_eq_true rfl⟩ rfl rfl ⟨by decide, by decide, by decide⟩ ⟨by decide, by decide⟩ ?_
  refine w_iconst dX4_width_26 ?_
  refine w_istore_n dX4_width_27 (by decide) ?_
  refine w_iconst dX4_width_28 ?_
  refine w_istore dX4_width_29 (by decide) ?_
  exact k_pick [3, 2, 1, 0] rfl h
theorem vX4_width_31 {E : Scr} {f : Int → Mem → Prop} {M : Mem} (x2 x3 x4 : Int) (h : (iR x4) ∧ (iR x2) ∧ ((x4 ≥ x2 → f x3 M) ∧ (x4 < x2 → (iR x4) ∧ ((x4 ≥ 256 → f x3 M) ∧ (x4 < 256 → (0 ≤ x4 ∧ x4 < 256) ∧ ((iR (M 90 x4.toNat)) → (CV E mX4_spread [pR 86, pI (M 90 x4.toNat)] M (fun M7 => (CI E mX4_farthestRow [pR 86] M7 (fun r8 M9 => (CI E mX4_stepsTo [pR 86, pI r8] M9 (fun r10 M11 => (iR x3) ∧ (iR r10) ∧ (KW E mX4_width (qI f) M11 31 [(0, pR 86), (2, pI x2), (3, pI (max x3 r10)), (4, pI (x4 + 1))] []))))))))))))) : KW E mX4_width (qI f) M 31 [(0, pR 86), (2, pI x2), (3, pI x3), (4, pI x4)] [] := by
  refine w_iload dX4_width_31 rfl ?_
  refine w_iload_n dX4_width_33 rfl ?_
  obtain ⟨o1, h⟩ := h
  obtain ⟨o2, h⟩ := h
  refine w_icmp_ge dX4_width_34 rfl ⟨o1, o2⟩ (fun c => ?_) (fun c => ?_)
  · have h := h.1 c
    refine w_iload_n dX4_width_75 rfl ?_
    exact k_iret dX4_width_76 rfl h
  · have h := h.2 c
    refine w_iload dX4_width_37 rfl ?_
    refine w_sipush dX4_width_39 (by decide) ?_
    obtain ⟨o3, h⟩ := h
    refine w_icmp_ge dX4_width_42 rfl ⟨o3, (by decide)⟩ (fun c => ?_) (fun c => ?_)
    · have h := h.1 c
      refine w_iload_n dX4_width_75 rfl ?_
      exact k_iret dX4_width_76 rfl h
    · have h := h.2 c
      refine w_aload_n dX4_width_45 rfl ?_
      refine w_aload_n dX4_width_46 rfl ?_
      refine w_getR dX4_width_47 fX4_21 rfl rfl rfl ?_
      refine w_iload dX4_width_50 rfl ?_
      obtain ⟨o4, h⟩ := h
      refine w_iald (x := (M 90 x4.toNat)) dX4_width_52 rfl o4 rfl (fun g5 => ?_)
      have h := h g5
      refine k_vV (as := [pI (M 90 x4.toNat)]) dX4_width_53 kX4_105 ⟨⟨Nat.le_of_ble_eq_true rfl, rfl, rfl⟩, Nat.le_of_ble_eq_true rfl⟩ rfl (by decide) rfl (Nat.le_of_ble_eq_true rfl) h ?_
      intro M7 h
      refine w_iload_n dX4_width_56 rfl ?_
      refine w_aload_n dX4_width_57 rfl ?_
      refine w_aload_n dX4_width_58 rfl ?_
      refine k_vI (as := []) dX4_width_59 kX4_115 ⟨⟨Nat.le_of_ble_eq_true rfl, rfl, rfl⟩, Nat.le_of_ble_eq_true rfl⟩ rfl (by decide) rfl (Nat.le_of_ble_eq_true rfl) h ?_
      intro r8 M9 h
      refine k_vI (as := [pI r8]) dX4_width_62 kX4_67 ⟨⟨Nat.le_of_ble_eq_true rfl, rfl, rfl⟩, Nat.le_of_ble_eq_true rfl⟩ rfl (by decide) rfl (Nat.le_of_ble_eq_true rfl) h ?_
      intro r10 M11 h
      obtain ⟨o12, h⟩ := h
      obtain ⟨o13, h⟩ := h
      refine w_imax dX4_width_65 kX4_119 ⟨by decide, Nat.le_of_ble_eq_true rfl⟩ ⟨by decide, by decide⟩ ⟨o12, o13⟩ ?_
      refine w_istore_n dX4_width_68 (by decide) ?_
      refine w_iinc dX4_width_69 rfl (by decide) ?_
      refine w_goto dX4_width_72 rfl ?_
      exact k_pick [2, 3, 1, 0] rfl h
theorem vX4_partsInAll_0 {E : Scr} {f : Int → Mem → Prop} {M : Mem} (h : (CV E mJ7_fill_53178 [pR 90, pI 0] M (fun M2 => (KW E mX4_partsInAll (qI f) M2 12 [(0, pR 86), (1, pI 0), (2, pI 0)] [])))) : CI E mX4_partsInAll [pR 86] M f := by
  refine (show KW E mX4_partsInAll (qI f) M 0 [(0, pR 86)] [] from ?_)
  refine w_aload_n dX4_partsInAll_0 rfl ?_
  refine w_getR dX4_partsInAll_1 fX4_21 rfl rfl rfl ?_
  refine w_iconst dX4_partsInAll_4 ?_
  refine k_sV (as := [pR 90, pI 0]) dX4_partsInAll_5 kX4_71 ⟨⟨Nat.le_of_ble_eq_true rfl, rfl, rfl⟩, Nat.le_of_ble_eq_true rfl⟩ rfl (Nat.le_of_ble_eq_true rfl) h ?_
  intro M2 h
  refine w_iconst dX4_partsInAll_8 ?_
  refine w_istore_n dX4_partsInAll_9 (by decide) ?_
  refine w_iconst dX4_partsInAll_10 ?_
  refine w_istore_n dX4_partsInAll_11 (by decide) ?_
  exact k_pick [2, 1, 0] rfl h
theorem vX4_partsInAll_12 {E : Scr} {f : Int → Mem → Prop} {M : Mem} (x1 x2 : Int) (h : ((iR (M 86 7)) → (iR x2) ∧ ((x2 ≥ (M 86 7) → f x1 M) ∧ (x2 < (M 86 7) → (0 ≤ x2 ∧ x2 < 256) ∧ ((iR (M 90 x2.toNat)) → (((M 90 x2.toNat) ≠ 0 → (KW E mX4_partsInAll (qI f) M 12 [(0, pR 86), (1, pI x1), (2, pI (x2 + 1))] [])) ∧ ((M 90 x2.toNat) = 0 → (CV E mX4_spread [pR 86, pI x2] M (fun M6 => (CV E mX4_markFound [pR 86] M6 (fun M8 => (KW E mX4_partsInAll (qI f) M8 12 [(0, pR 86), (1, pI (x1 + 1)), (2, pI (x2 + 1))] [])))))))))))) : KW E mX4_partsInAll (qI f) M 12 [(0, pR 86), (1, pI x1), (2, pI x2)] [] := by
  refine w_iload_n dX4_partsInAll_12 rfl ?_
  refine w_aload_n dX4_partsInAll_13 rfl ?_
  refine w_getI (x := (M 86 7)) dX4_partsInAll_14 fX4_47 rfl rfl rfl (fun g1 => ?_)
  have h := h g1
  obtain ⟨o2, h⟩ := h
  refine w_icmp_ge dX4_partsInAll_17 rfl ⟨o2, g1⟩ (fun c => ?_) (fun c => ?_)
  · have h := h.1 c
    refine w_iload_n dX4_partsInAll_47 rfl ?_
    exact k_iret dX4_partsInAll_48 rfl h
  · have h := h.2 c
    refine w_aload_n dX4_partsInAll_20 rfl ?_
    refine w_getR dX4_partsInAll_21 fX4_21 rfl rfl rfl ?_
    refine w_iload_n dX4_partsInAll_24 rfl ?_
    obtain ⟨o3, h⟩ := h
    refine w_iald (x := (M 90 x2.toNat)) dX4_partsInAll_25 rfl o3 rfl (fun g4 => ?_)
    have h := h g4
    refine w_if_ne dX4_partsInAll_26 rfl g4 (fun c => ?_) (fun c => ?_)
    · have h := h.1 c
      refine w_iinc dX4_partsInAll_41 rfl (by decide) ?_
      refine w_goto dX4_partsInAll_44 rfl ?_
      exact k_pick [1, 2, 0] rfl h
    · have h := h.2 c
      refine w_iinc dX4_partsInAll_29 rfl (by decide) ?_
      refine w_aload_n dX4_partsInAll_32 rfl ?_
      refine w_iload_n dX4_partsInAll_33 rfl ?_
      refine k_vV (as := [pI x2]) dX4_partsInAll_34 kX4_105 ⟨⟨Nat.le_of_ble_eq_true rfl, rfl, rfl⟩, Nat.le_of_ble_eq_true rfl⟩ rfl (by decide) rfl (Nat.le_of_ble_eq_true rfl) h ?_
      intro M6 h
      refine w_aload_n dX4_partsInAll_37 rfl ?_
      refine k_vV (as := []) dX4_partsInAll_38 kX4_122 ⟨⟨Nat.le_of_ble_eq_true rfl, rfl, rfl⟩, Nat.le_of_ble_eq_true rfl⟩ rfl (by decide) rfl (Nat.le_of_ble_eq_true rfl) h ?_
      intro M8 h
      refine w_iinc dX4_partsInAll_41 rfl (by decide) ?_
      refine w_goto dX4_partsInAll_44 rfl ?_
      exact k_pick [2, 1, 0] rfl h
theorem vX4_markFound_0 {E : Scr} {f : Mem → Prop} {M : Mem} (h : (KW E mX4_markFound (qV f) M 2 [(0, pR 86), (1, pI 0)] [])) : CV E mX4_markFound [pR 86] M f := by
  refine (show KW E mX4_markFound (qV f) M 0 [(0, pR 86)] [] from ?_)
  refine w_iconst dX4_markFound_0 ?_
  refine w_istore_n dX4_markFound_1 (by decide) ?_
  exact k_pick [1, 0] rfl h
theorem vX4_markFound_2 {E : Scr} {f : Mem → Prop} {M : Mem} (x1 : Int) (h : ((iR (M 86 9)) → (iR x1) ∧ ((x1 ≥ (M 86 9) → f M) ∧ (x1 < (M 86 9) → (iR x1) ∧ ((x1 ≥ 256 → f M) ∧ (x1 < 256 → (0 ≤ x1 ∧ x1 < 256) ∧ ((iR (M 89 x1.toNat)) → (0 ≤ (M 89 x1.toNat) ∧ (M 89 x1.toNat) < 256) ∧ (KW E mX4_markFound (qV f) (upM M 90 ((M 89 x1.toNat).toNat) 1) 2 [(0, pR 86), (1, pI (x1 + 1))] [])))))))) : KW E mX4_markFound (qV f) M 2 [(0, pR 86), (1, pI x1)] [] := by
  refine w_iload_n dX4_markFound_2 rfl ?_
  refine w_aload_n dX4_markFound_3 rfl ?_
  refine w_getI (x := (M 86 9)) dX4_markFound_4 fX4_77 rfl rfl rfl (fun g1 => ?_)
  have h := h g1
  obtain ⟨o2, h⟩ := h
  refine w_icmp_ge dX4_markFound_7 rfl ⟨o2, g1⟩ (fun c => ?_) (fun c => ?_)
  · have h := h.1 c
    exact k_vret dX4_markFound_35 rfl h
  · have h := h.2 c
    refine w_iload_n dX4_markFound_10 rfl ?_
    refine w_sipush dX4_markFound_11 (by decide) ?_
    obtain ⟨o3, h⟩ := h
    refine w_icmp_ge dX4_markFound_14 rfl ⟨o3, (by decide)⟩ (fun c => ?_) (fun c => ?_)
    · have h := h.1 c
      exact k_vret dX4_markFound_35 rfl h
    · have h := h.2 c
      refine w_aload_n dX4_markFound_17 rfl ?_
      refine w_getR dX4_markFound_18 fX4_21 rfl rfl rfl ?_
      refine w_aload_n dX4_markFound_21 rfl ?_
      refine w_getR dX4_markFound_22 fX4_18 rfl rfl rfl ?_
      refine w_iload_n dX4_markFound_25 rfl ?_
      obtain ⟨o4, h⟩ := h
      refine w_iald (x := (M 89 x1.toNat)) dX4_markFound_26 rfl o4 rfl (fun g5 => ?_)
      have h := h g5
      refine w_iconst dX4_markFound_27 ?_
      obtain ⟨o6, h⟩ := h
      refine w_iast dX4_markFound_28 rfl o6 (by decide) ?_
      refine w_iinc dX4_markFound_29 rfl (by decide) ?_
      refine w_goto dX4_markFound_32 rfl ?_
      exact k_pick [1, 0] rfl h
theorem vX4_narrow_0 {E : Scr} {f : Int → Mem → Prop} {M : Mem} (x1 x2 x3 : Int) (h : (CV E mX4_spread [pR 86, pI x1] M (fun M2 => (CI E mX4_isHad [pR 86, pI x2] M2 (fun r3 M4 => (iR r3) ∧ ((r3 ≠ 0 → (CI E mX4_stepsTo [pR 86, pI x2] M4 (fun r6 M7 => (iR (r6 - 1)) ∧ (KW E mX4_narrow (qI f) M7 37 [(0, pR 86), (1, pI x1), (2, pI x2), (3, pI x3), (4, pI (min (r6 - 1) 256)), (5, pI x2), (6, pI (min (r6 - 1) 256))] [])))) ∧ (r3 = 0 → f (-1) M4))))))) : CI E mX4_narrow [pR 86, pI x1, pI x2, pI x3] M f := by
  refine (show KW E mX4_narrow (qI f) M 0 [(0, pR 86), (1, pI x1), (2, pI x2), (3, pI x3)] [] from ?_)
  refine w_aload_n dX4_narrow_0 rfl ?_
  refine w_iload_n dX4_narrow_1 rfl ?_
  refine k_vV (as := [pI x1]) dX4_narrow_2 kX4_105 ⟨⟨Nat.le_of_ble_eq_true rfl, rfl, rfl⟩, Nat.le_of_ble_eq_true rfl⟩ rfl (by decide) rfl (Nat.le_of_ble_eq_true rfl) h ?_
  intro M2 h
  refine w_aload_n dX4_narrow_5 rfl ?_
  refine w_iload_n dX4_narrow_6 rfl ?_
  refine k_vI (as := [pI x2]) dX4_narrow_7 kX4_91 ⟨⟨Nat.le_of_ble_eq_true rfl, rfl, rfl⟩, Nat.le_of_ble_eq_true rfl⟩ rfl (by decide) rfl (Nat.le_of_ble_eq_true rfl) h ?_
  intro r3 M4 h
  obtain ⟨o5, h⟩ := h
  refine w_if_ne dX4_narrow_10 rfl o5 (fun c => ?_) (fun c => ?_)
  · have h := h.1 c
    refine w_aload_n dX4_narrow_15 rfl ?_
    refine w_iload_n dX4_narrow_16 rfl ?_
    refine k_vI (as := [pI x2]) dX4_narrow_17 kX4_67 ⟨⟨Nat.le_of_ble_eq_true rfl, rfl, rfl⟩, Nat.le_of_ble_eq_true rfl⟩ rfl (by decide) rfl (Nat.le_of_ble_eq_true rfl) h ?_
    intro r6 M7 h
    refine w_iconst dX4_narrow_20 ?_
    refine w_isub dX4_narrow_21 ?_
    refine w_sipush dX4_narrow_22 (by decide) ?_
    obtain ⟨o8, h⟩ := h
    refine w_imin dX4_narrow_25 kX4_41 ⟨by decide, Nat.le_of_ble_eq_true rfl⟩ ⟨by decide, by decide⟩ ⟨o8, (by decide)⟩ ?_
    refine w_istore dX4_narrow_28 (by decide) ?_
    refine w_iload_n dX4_narrow_30 rfl ?_
    refine w_istore dX4_narrow_31 (by decide) ?_
    refine w_iload dX4_narrow_33 rfl ?_
    refine w_istore dX4_narrow_35 (by decide) ?_
    exact k_pick [3, 4, 5, 6, 2, 1, 0] rfl h
  · have h := h.2 c
    refine w_iconst dX4_narrow_13 ?_
    exact k_iret dX4_narrow_14 rfl h
theorem vX4_narrow_37 {E : Scr} {f : Int → Mem → Prop} {M : Mem} (x1 x2 x3 x4 x5 x6 : Int) (h : (iR x6) ∧ ((x6 ≤ 0 → (KW E mX4_narrow (qI f) M 73 [(0, pR 86), (1, pI x1), (2, pI x2), (4, pI x4), (6, pI x3), (7, pI 0)] [])) ∧ (x6 > 0 → (CI E mX4_oneBefore [pR 86, pI x5] M (fun r2 M3 => (0 ≤ (x6 - 1) ∧ (x6 - 1) < 256) ∧ (iR r2) ∧ (KW E mX4_narrow (qI f) (upM M3 90 ((x6 - 1).toNat) r2) 37 [(0, pR 86), (1, pI x1), (2, pI x2), (3, pI x3), (4, pI x4), (5, pI r2), (6, pI (x6 + (-1)))] [])))))) : KW E mX4_narrow (qI f) M 37 [(0, pR 86), (1, pI x1), (2, pI x2), (3, pI x3), (4, pI x4), (5, pI x5), (6, pI x6)] [] := by
  refine w_iload dX4_narrow_37 rfl ?_
  obtain ⟨o1, h⟩ := h
  refine w_if_le dX4_narrow_39 rfl o1 (fun c => ?_) (fun c => ?_)
  · have h := h.1 c
    refine w_iload_n dX4_narrow_67 rfl ?_
    refine w_istore dX4_narrow_68 (by decide) ?_
    refine w_iconst dX4_narrow_70 ?_
    refine w_istore dX4_narrow_71 (by decide) ?_
    exact k_pick [2, 3, 4, 6, 1, 0] rfl h
  · have h := h.2 c
    refine w_aload_n dX4_narrow_42 rfl ?_
    refine w_iload dX4_narrow_43 rfl ?_
    refine k_vI (as := [pI x5]) dX4_narrow_45 kX4_125 ⟨⟨Nat.le_of_ble_eq_true rfl, rfl, rfl⟩, Nat.le_of_ble_eq_true rfl⟩ rfl (by decide) rfl (Nat.le_of_ble_eq_true rfl) h ?_
    intro r2 M3 h
    refine w_istore dX4_narrow_48 (by decide) ?_
    refine w_aload_n dX4_narrow_50 rfl ?_
    refine w_getR dX4_narrow_51 fX4_21 rfl rfl rfl ?_
    refine w_iload dX4_narrow_54 rfl ?_
    refine w_iconst dX4_narrow_56 ?_
    refine w_isub dX4_narrow_57 ?_
    refine w_iload dX4_narrow_58 rfl ?_
    obtain ⟨o4, h⟩ := h
    obtain ⟨o5, h⟩ := h
    refine w_iast dX4_narrow_60 rfl o4 o5 ?_
    refine w_iinc dX4_narrow_61 rfl (by decide) ?_
    refine w_goto dX4_narrow_64 rfl ?_
    exact k_pick [2, 3, 4, 5, 6, 1, 0] rfl h
theorem vX4_narrow_73 {E : Scr} {f : Int → Mem → Prop} {M : Mem} (x1 x2 x4 x6 x7 : Int) (h : (iR x7) ∧ (iR x4) ∧ ((x7 ≥ x4 → f (-2) M) ∧ (x7 < x4 → (0 ≤ x7 ∧ x7 < 256) ∧ ((iR (M 90 x7.toNat)) → (CV E mX4_bar [pR 86, pI (M 90 x7.toNat), pI 0, pI 0] M (fun M6 => (CV E mX4_spread [pR 86, pI x1] M6 (fun M8 => (CI E mX4_isHad [pR 86, pI x2] M8 (fun r9 M10 => (iR r9) ∧ ((r9 ≠ 0 → (KW E mX4_narrow (qI f) M10 73 [(0, pR 86), (1, pI x1), (2, pI x2), (4, pI x4), (6, pI x6), (7, pI (x7 + 1))] [])) ∧ (r9 = 0 → (iR x6) ∧ ((x6 ≠ 0 → (KW E mX4_narrow (qI f) M10 73 [(0, pR 86), (1, pI x1), (2, pI x2), (4, pI x4), (6, pI (x6 + (-1))), (7, pI (x7 + 1))] [])) ∧ (x6 = 0 → (0 ≤ x7 ∧ x7 < 256) ∧ ((iR (M10 90 x7.toNat)) → f (M10 90 x7.toNat) M10))))))))))))))) : KW E mX4_narrow (qI f) M 73 [(0, pR 86), (1, pI x1), (2, pI x2), (4, pI x4), (6, pI x6), (7, pI x7)] [] := by
  refine w_iload dX4_narrow_73 rfl ?_
  refine w_iload dX4_narrow_75 rfl ?_
  obtain ⟨o1, h⟩ := h
  obtain ⟨o2, h⟩ := h
  refine w_icmp_ge dX4_narrow_77 rfl ⟨o1, o2⟩ (fun c => ?_) (fun c => ?_)
  · have h := h.1 c
    refine w_bipush dX4_narrow_128 (by decide) ?_
    exact k_iret dX4_narrow_130 rfl h
  · have h := h.2 c
    refine w_aload_n dX4_narrow_80 rfl ?_
    refine w_aload_n dX4_narrow_81 rfl ?_
    refine w_getR dX4_narrow_82 fX4_21 rfl rfl rfl ?_
    refine w_iload dX4_narrow_85 rfl ?_
    obtain ⟨o3, h⟩ := h
    refine w_iald (x := (M 90 x7.toNat)) dX4_narrow_87 rfl o3 rfl (fun g4 => ?_)
    have h := h g4
    refine w_iconst dX4_narrow_88 ?_
    refine w_iconst dX4_narrow_89 ?_
    refine k_vV (as := [pI (M 90 x7.toNat), pI 0, pI 0]) dX4_narrow_90 kX4_53 ⟨⟨Nat.le_of_ble_eq_true rfl, rfl, rfl⟩, Nat.le_of_ble_eq_true rfl⟩ rfl (by decide) rfl (Nat.le_of_ble_eq_true rfl) h ?_
    intro M6 h
    refine w_aload_n dX4_narrow_93 rfl ?_
    refine w_iload_n dX4_narrow_94 rfl ?_
    refine k_vV (as := [pI x1]) dX4_narrow_95 kX4_105 ⟨⟨Nat.le_of_ble_eq_true rfl, rfl, rfl⟩, Nat.le_of_ble_eq_true rfl⟩ rfl (by decide) rfl (Nat.le_of_ble_eq_true rfl) h ?_
    intro M8 h
    refine w_aload_n dX4_narrow_98 rfl ?_
    refine w_iload_n dX4_narrow_99 rfl ?_
    refine k_vI (as := [pI x2]) dX4_narrow_100 kX4_91 ⟨⟨Nat.le_of_ble_eq_true rfl, rfl, rfl⟩, Nat.le_of_ble_eq_true rfl⟩ rfl (by decide) rfl (Nat.le_of_ble_eq_true rfl) h ?_
    intro r9 M10 h
    obtain ⟨o11, h⟩ := h
    refine w_if_ne dX4_narrow_103 rfl o11 (fun c => ?_) (fun c => ?_)
    · have h := h.1 c
      refine w_iinc dX4_narrow_122 rfl (by decide) ?_
      refine w_goto dX4_narrow_125 rfl ?_
      exact k_pick [1, 2, 3, 4, 5, 0] rfl h
    · have h := h.2 c
      refine w_iload dX4_narrow_106 rfl ?_
      obtain ⟨o12, h⟩ := h
      refine w_if_ne dX4_narrow_108 rfl o12 (fun c => ?_) (fun c => ?_)
      · have h := h.1 c
        refine w_iinc dX4_narrow_119 rfl (by decide) ?_
        refine w_iinc dX4_narrow_122 rfl (by decide) ?_
        refine w_goto dX4_narrow_125 rfl ?_
        exact k_pick [2, 3, 4, 5, 1, 0] rfl h
      · have h := h.2 c
        refine w_aload_n dX4_narrow_111 rfl ?_
        refine w_getR dX4_narrow_112 fX4_21 rfl rfl rfl ?_
        refine w_iload dX4_narrow_115 rfl ?_
        obtain ⟨o13, h⟩ := h
        refine w_iald (x := (M10 90 x7.toNat)) dX4_narrow_117 rfl o13 rfl (fun g14 => ?_)
        have h := h g14
        exact k_iret dX4_narrow_118 rfl h
theorem vX4_oneBefore_0 {E : Scr} {f : Int → Mem → Prop} {M : Mem} (x1 : Int) (h : (KW E mX4_oneBefore (qI f) M 2 [(0, pR 86), (1, pI x1), (2, pI 0)] [])) : CI E mX4_oneBefore [pR 86, pI x1] M f := by
  refine (show KW E mX4_oneBefore (qI f) M 0 [(0, pR 86), (1, pI x1)] [] from ?_)
  refine w_iconst dX4_oneBefore_0 ?_
  refine w_istore_n dX4_oneBefore_1 (by decide) ?_
  exact k_pick [1, 2, 0] rfl h
theorem vX4_oneBefore_2 {E : Scr} {f : Int → Mem → Prop} {M : Mem} (x1 x2 : Int) (h : ((iR (M 86 6)) → (iR x2) ∧ ((x2 ≥ (M 86 6) → f x1 M) ∧ (x2 < (M 86 6) → (CI E mX4_leadsOn [pR 86, pI (bXor x1 (bShl 1 x2)), pI x2] M (fun r3 M4 => (iR r3) ∧ ((r3 = 0 → (KW E mX4_oneBefore (qI f) M4 2 [(0, pR 86), (1, pI x1), (2, pI (x2 + 1))] [])) ∧ (r3 ≠ 0 → f (bXor x1 (bShl 1 x2)) M4)))))))) : KW E mX4_oneBefore (qI f) M 2 [(0, pR 86), (1, pI x1), (2, pI x2)] [] := by
  refine w_iload_n dX4_oneBefore_2 rfl ?_
  refine w_aload_n dX4_oneBefore_3 rfl ?_
  refine w_getI (x := (M 86 6)) dX4_oneBefore_4 fX4_40 rfl rfl rfl (fun g1 => ?_)
  have h := h g1
  obtain ⟨o2, h⟩ := h
  refine w_icmp_ge dX4_oneBefore_7 rfl ⟨o2, g1⟩ (fun c => ?_) (fun c => ?_)
  · have h := h.1 c
    refine w_iload_n dX4_oneBefore_35 rfl ?_
    exact k_iret dX4_oneBefore_36 rfl h
  · have h := h.2 c
    refine w_aload_n dX4_oneBefore_10 rfl ?_
    refine w_iload_n dX4_oneBefore_11 rfl ?_
    refine w_iconst dX4_oneBefore_12 ?_
    refine w_iload_n dX4_oneBefore_13 rfl ?_
    refine w_ishl dX4_oneBefore_14 ?_
    refine w_ixor dX4_oneBefore_15 ?_
    refine w_iload_n dX4_oneBefore_16 rfl ?_
    refine k_vI (as := [pI (bXor x1 (bShl 1 x2)), pI x2]) dX4_oneBefore_17 kX4_94 ⟨⟨Nat.le_of_ble_eq_true rfl, rfl, rfl⟩, Nat.le_of_ble_eq_true rfl⟩ rfl (by decide) rfl (Nat.le_of_ble_eq_true rfl) h ?_
    intro r3 M4 h
    obtain ⟨o5, h⟩ := h
    refine w_if_eq dX4_oneBefore_20 rfl o5 (fun c => ?_) (fun c => ?_)
    · have h := h.1 c
      refine w_iinc dX4_oneBefore_29 rfl (by decide) ?_
      refine w_goto dX4_oneBefore_32 rfl ?_
      exact k_pick [1, 2, 0] rfl h
    · have h := h.2 c
      refine w_iload_n dX4_oneBefore_23 rfl ?_
      refine w_iconst dX4_oneBefore_24 ?_
      refine w_iload_n dX4_oneBefore_25 rfl ?_
      refine w_ishl dX4_oneBefore_26 ?_
      refine w_ixor dX4_oneBefore_27 ?_
      exact k_iret dX4_oneBefore_28 rfl h
theorem vX4_needed_0 {E : Scr} {f : Int → Mem → Prop} {M : Mem} (x1 x2 : Int) (h : (CV E mX4_spread [pR 86, pI x1] M (fun M2 => (CI E mX4_isHad [pR 86, pI x2] M2 (fun r3 M4 => (iR r3) ∧ ((r3 ≠ 0 → (KW E mX4_needed (qI f) M4 21 [(0, pR 86), (1, pI x1), (2, pI x2), (3, pI 0), (4, pI 0)] [])) ∧ (r3 = 0 → f (-2) M4))))))) : CI E mX4_needed [pR 86, pI x1, pI x2] M f := by
  refine (show KW E mX4_needed (qI f) M 0 [(0, pR 86), (1, pI x1), (2, pI x2)] [] from ?_)
  refine w_aload_n dX4_needed_0 rfl ?_
  refine w_iload_n dX4_needed_1 rfl ?_
  refine k_vV (as := [pI x1]) dX4_needed_2 kX4_105 ⟨⟨Nat.le_of_ble_eq_true rfl, rfl, rfl⟩, Nat.le_of_ble_eq_true rfl⟩ rfl (by decide) rfl (Nat.le_of_ble_eq_true rfl) h ?_
  intro M2 h
  refine w_aload_n dX4_needed_5 rfl ?_
  refine w_iload_n dX4_needed_6 rfl ?_
  refine k_vI (as := [pI x2]) dX4_needed_7 kX4_91 ⟨⟨Nat.le_of_ble_eq_true rfl, rfl, rfl⟩, Nat.le_of_ble_eq_true rfl⟩ rfl (by decide) rfl (Nat.le_of_ble_eq_true rfl) h ?_
  intro r3 M4 h
  obtain ⟨o5, h⟩ := h
  refine w_if_ne dX4_needed_10 rfl o5 (fun c => ?_) (fun c => ?_)
  · have h := h.1 c
    refine w_iconst dX4_needed_16 ?_
    refine w_istore_n dX4_needed_17 (by decide) ?_
    refine w_iconst dX4_needed_18 ?_
    refine w_istore dX4_needed_19 (by decide) ?_
    exact k_pick [2, 3, 4, 1, 0] rfl h
  · have h := h.2 c
    refine w_bipush dX4_needed_13 (by decide) ?_
    exact k_iret dX4_needed_15 rfl h
theorem vX4_needed_21 {E : Scr} {f : Int → Mem → Prop} {M : Mem} (x1 x2 x3 x4 : Int) (h : ((iR (M 86 6)) → (iR x4) ∧ ((x4 ≥ (M 86 6) → f x3 M) ∧ (x4 < (M 86 6) → (CV E mX4_bar [pR 86, pI (-1), pI (bShl 1 x4), pI 0] M (fun M4 => (CV E mX4_spread [pR 86, pI x1] M4 (fun M6 => (CI E mX4_isHad [pR 86, pI x2] M6 (fun r7 M8 => (iR r7) ∧ ((r7 ≠ 0 → (KW E mX4_needed (qI f) M8 21 [(0, pR 86), (1, pI x1), (2, pI x2), (3, pI x3), (4, pI (x4 + 1))] [])) ∧ (r7 = 0 → (KW E mX4_needed (qI f) M8 21 [(0, pR 86), (1, pI x1), (2, pI x2), (3, pI (bOr x3 (bShl 1 x4))), (4, pI (x4 + 1))] []))))))))))))) : KW E mX4_needed (qI f) M 21 [(0, pR 86), (1, pI x1), (2, pI x2), (3, pI x3), (4, pI x4)] [] := by
  refine w_iload dX4_needed_21 rfl ?_
  refine w_aload_n dX4_needed_23 rfl ?_
  refine w_getI (x := (M 86 6)) dX4_needed_24 fX4_40 rfl rfl rfl (fun g1 => ?_)
  have h := h g1
  obtain ⟨o2, h⟩ := h
  refine w_icmp_ge dX4_needed_27 rfl ⟨o2, g1⟩ (fun c => ?_) (fun c => ?_)
  · have h := h.1 c
    refine w_iload_n dX4_needed_66 rfl ?_
    exact k_iret dX4_needed_67 rfl h
  · have h := h.2 c
    refine w_aload_n dX4_needed_30 rfl ?_
    refine w_iconst dX4_needed_31 ?_
    refine w_iconst dX4_needed_32 ?_
    refine w_iload dX4_needed_33 rfl ?_
    refine w_ishl dX4_needed_35 ?_
    refine w_iconst dX4_needed_36 ?_
    refine k_vV (as := [pI (-1), pI (bShl 1 x4), pI 0]) dX4_needed_37 kX4_53 ⟨⟨Nat.le_of_ble_eq_true rfl, rfl, rfl⟩, Nat.le_of_ble_eq_true rfl⟩ rfl (by decide) rfl (Nat.le_of_ble_eq_true rfl) h ?_
    intro M4 h
    refine w_aload_n dX4_needed_40 rfl ?_
    refine w_iload_n dX4_needed_41 rfl ?_
    refine k_vV (as := [pI x1]) dX4_needed_42 kX4_105 ⟨⟨Nat.le_of_ble_eq_true rfl, rfl, rfl⟩, Nat.le_of_ble_eq_true rfl⟩ rfl (by decide) rfl (Nat.le_of_ble_eq_true rfl) h ?_
    intro M6 h
    refine w_aload_n dX4_needed_45 rfl ?_
    refine w_iload_n dX4_needed_46 rfl ?_
    refine k_vI (as := [pI x2]) dX4_needed_47 kX4_91 ⟨⟨Nat.le_of_ble_eq_true rfl, rfl, rfl⟩, Nat.le_of_ble_eq_true rfl⟩ rfl (by decide) rfl (Nat.le_of_ble_eq_true rfl) h ?_
    intro r7 M8 h
    obtain ⟨o9, h⟩ := h
    refine w_if_ne dX4_needed_50 rfl o9 (fun c => ?_) (fun c => ?_)
    · have h := h.1 c
      refine w_iinc dX4_needed_60 rfl (by decide) ?_
      refine w_goto dX4_needed_63 rfl ?_
      exact k_pick [1, 2, 3, 4, 0] rfl h
    · have h := h.2 c
      refine w_iload_n dX4_needed_53 rfl ?_
      refine w_iconst dX4_needed_54 ?_
      refine w_iload dX4_needed_55 rfl ?_
      refine w_ishl dX4_needed_57 ?_
      refine w_ior dX4_needed_58 ?_
      refine w_istore_n dX4_needed_59 (by decide) ?_
      refine w_iinc dX4_needed_60 rfl (by decide) ?_
      refine w_goto dX4_needed_63 rfl ?_
      exact k_pick [2, 3, 4, 1, 0] rfl h
theorem vX4_stepsToMove_0 {E : Scr} {f : Int → Mem → Prop} {M : Mem} (x1 : Int) (h : (KW E mX4_stepsToMove (qI f) M 2 [(0, pR 86), (1, pI x1), (2, pI 0)] [])) : CI E mX4_stepsToMove [pR 86, pI x1] M f := by
  refine (show KW E mX4_stepsToMove (qI f) M 0 [(0, pR 86), (1, pI x1)] [] from ?_)
  refine w_iconst dX4_stepsToMove_0 ?_
  refine w_istore_n dX4_stepsToMove_1 (by decide) ?_
  exact k_pick [1, 2, 0] rfl h
theorem vX4_stepsToMove_2 {E : Scr} {f : Int → Mem → Prop} {M : Mem} (x1 x2 : Int) (h : ((iR (M 86 9)) → (iR x2) ∧ ((x2 ≥ (M 86 9) → f (-2) M) ∧ (x2 < (M 86 9) → (iR x2) ∧ ((x2 ≥ 256 → f (-2) M) ∧ (x2 < 256 → (0 ≤ x2 ∧ x2 < 256) ∧ ((iR (M 89 x2.toNat)) → (CI E mX4_isMovable [pR 86, pI (M 89 x2.toNat), pI x1] M (fun r6 M7 => (iR r6) ∧ ((r6 = 0 → (KW E mX4_stepsToMove (qI f) M7 2 [(0, pR 86), (1, pI x1), (2, pI (x2 + 1))] [])) ∧ (r6 ≠ 0 → (0 ≤ x2 ∧ x2 < 256) ∧ ((iR (M7 89 x2.toNat)) → (CI E mX4_stepsTo [pR 86, pI (M7 89 x2.toNat)] M7 (fun r11 M12 => f (r11 + 1) M12)))))))))))))) : KW E mX4_stepsToMove (qI f) M 2 [(0, pR 86), (1, pI x1), (2, pI x2)] [] := by
  refine w_iload_n dX4_stepsToMove_2 rfl ?_
  refine w_aload_n dX4_stepsToMove_3 rfl ?_
  refine w_getI (x := (M 86 9)) dX4_stepsToMove_4 fX4_77 rfl rfl rfl (fun g1 => ?_)
  have h := h g1
  obtain ⟨o2, h⟩ := h
  refine w_icmp_ge dX4_stepsToMove_7 rfl ⟨o2, g1⟩ (fun c => ?_) (fun c => ?_)
  · have h := h.1 c
    refine w_bipush dX4_stepsToMove_50 (by decide) ?_
    exact k_iret dX4_stepsToMove_52 rfl h
  · have h := h.2 c
    refine w_iload_n dX4_stepsToMove_10 rfl ?_
    refine w_sipush dX4_stepsToMove_11 (by decide) ?_
    obtain ⟨o3, h⟩ := h
    refine w_icmp_ge dX4_stepsToMove_14 rfl ⟨o3, (by decide)⟩ (fun c => ?_) (fun c => ?_)
    · have h := h.1 c
      refine w_bipush dX4_stepsToMove_50 (by decide) ?_
      exact k_iret dX4_stepsToMove_52 rfl h
    · have h := h.2 c
      refine w_aload_n dX4_stepsToMove_17 rfl ?_
      refine w_aload_n dX4_stepsToMove_18 rfl ?_
      refine w_getR dX4_stepsToMove_19 fX4_18 rfl rfl rfl ?_
      refine w_iload_n dX4_stepsToMove_22 rfl ?_
      obtain ⟨o4, h⟩ := h
      refine w_iald (x := (M 89 x2.toNat)) dX4_stepsToMove_23 rfl o4 rfl (fun g5 => ?_)
      have h := h g5
      refine w_iload_n dX4_stepsToMove_24 rfl ?_
      refine k_vI (as := [pI (M 89 x2.toNat), pI x1]) dX4_stepsToMove_25 kX4_87 ⟨⟨Nat.le_of_ble_eq_true rfl, rfl, rfl⟩, Nat.le_of_ble_eq_true rfl⟩ rfl (by decide) rfl (Nat.le_of_ble_eq_true rfl) h ?_
      intro r6 M7 h
      obtain ⟨o8, h⟩ := h
      refine w_if_eq dX4_stepsToMove_28 rfl o8 (fun c => ?_) (fun c => ?_)
      · have h := h.1 c
        refine w_iinc dX4_stepsToMove_44 rfl (by decide) ?_
        refine w_goto dX4_stepsToMove_47 rfl ?_
        exact k_pick [1, 2, 0] rfl h
      · have h := h.2 c
        refine w_aload_n dX4_stepsToMove_31 rfl ?_
        refine w_aload_n dX4_stepsToMove_32 rfl ?_
        refine w_getR dX4_stepsToMove_33 fX4_18 rfl rfl rfl ?_
        refine w_iload_n dX4_stepsToMove_36 rfl ?_
        obtain ⟨o9, h⟩ := h
        refine w_iald (x := (M7 89 x2.toNat)) dX4_stepsToMove_37 rfl o9 rfl (fun g10 => ?_)
        have h := h g10
        refine k_vI (as := [pI (M7 89 x2.toNat)]) dX4_stepsToMove_38 kX4_67 ⟨⟨Nat.le_of_ble_eq_true rfl, rfl, rfl⟩, Nat.le_of_ble_eq_true rfl⟩ rfl (by decide) rfl (Nat.le_of_ble_eq_true rfl) h ?_
        intro r11 M12 h
        refine w_iconst dX4_stepsToMove_41 ?_
        refine w_iadd dX4_stepsToMove_42 ?_
        exact k_iret dX4_stepsToMove_43 rfl h
theorem vX4_eased_0 {E : Scr} {f : Int → Mem → Prop} {M : Mem} (x1 x2 x3 x4 : Int) (h : (KW E mX4_eased (qI f) M 3 [(0, pR 86), (1, pI x1), (2, pI x2), (3, pI x3), (4, pI x4), (5, pI 0)] [])) : CI E mX4_eased [pR 86, pI x1, pI x2, pI x3, pI x4] M f := by
  refine (show KW E mX4_eased (qI f) M 0 [(0, pR 86), (1, pI x1), (2, pI x2), (3, pI x3), (4, pI x4)] [] from ?_)
  refine w_iconst dX4_eased_0 ?_
  refine w_istore dX4_eased_1 (by decide) ?_
  exact k_pick [1, 2, 3, 4, 5, 0] rfl h
theorem vX4_eased_3 {E : Scr} {f : Int → Mem → Prop} {M : Mem} (x1 x2 x3 x4 x5 : Int) (h : ((iR (M 86 6)) → (iR x5) ∧ ((x5 > (M 86 6) → f (-2) M) ∧ (x5 ≤ (M 86 6) → (KW E mX4_eased (qI f) M 15 [(0, pR 86), (1, pI x1), (2, pI x2), (3, pI x3), (4, pI x4), (5, pI x5), (6, pI 0)] []))))) : KW E mX4_eased (qI f) M 3 [(0, pR 86), (1, pI x1), (2, pI x2), (3, pI x3), (4, pI x4), (5, pI x5)] [] := by
  refine w_iload dX4_eased_3 rfl ?_
  refine w_aload_n dX4_eased_5 rfl ?_
  refine w_getI (x := (M 86 6)) dX4_eased_6 fX4_40 rfl rfl rfl (fun g1 => ?_)
  have h := h g1
  obtain ⟨o2, h⟩ := h
  refine w_icmp_gt dX4_eased_9 rfl ⟨o2, g1⟩ (fun c => ?_) (fun c => ?_)
  · have h := h.1 c
    refine w_bipush dX4_eased_85 (by decide) ?_
    exact k_iret dX4_eased_87 rfl h
  · have h := h.2 c
    refine w_iconst dX4_eased_12 ?_
    refine w_istore dX4_eased_13 (by decide) ?_
    exact k_pick [1, 2, 3, 4, 5, 6, 0] rfl h
theorem vX4_eased_15 {E : Scr} {f : Int → Mem → Prop} {M : Mem} (x1 x2 x3 x4 x5 x6 : Int) (h : ((iR (M 86 7)) → (iR x6) ∧ ((x6 ≥ (M 86 7) → (KW E mX4_eased (qI f) M 3 [(0, pR 86), (1, pI x1), (2, pI x2), (3, pI x3), (4, pI x4), (5, pI (x5 + 1))] [])) ∧ (x6 < (M 86 7) → (((bOr (bAnd x6 (bXor x4 (-1))) (bAnd x6 x3)) ≠ 0 → (KW E mX4_eased (qI f) M 15 [(0, pR 86), (1, pI x1), (2, pI x2), (3, pI x3), (4, pI x4), (5, pI x5), (6, pI (x6 + 1))] [])) ∧ ((bOr (bAnd x6 (bXor x4 (-1))) (bAnd x6 x3)) = 0 → (CI E mJ6_bitCount_0f7a4 [pI x6] M (fun r3 M4 => (iR r3) ∧ (iR x5) ∧ ((r3 ≠ x5 → (KW E mX4_eased (qI f) M4 15 [(0, pR 86), (1, pI x1), (2, pI x2), (3, pI x3), (4, pI x4), (5, pI x5), (6, pI (x6 + 1))] [])) ∧ (r3 = x5 → (CV E mX4_bar [pR 86, pI (-1), pI x3, pI x6] M4 (fun M8 => (CV E mX4_spread [pR 86, pI x1] M8 (fun M10 => (CI E mX4_isHad [pR 86, pI x2] M10 (fun r11 M12 => (iR r11) ∧ ((r11 = 0 → (KW E mX4_eased (qI f) M12 15 [(0, pR 86), (1, pI x1), (2, pI x2), (3, pI x3), (4, pI x4), (5, pI x5), (6, pI (x6 + 1))] [])) ∧ (r11 ≠ 0 → f x6 M12)))))))))))))))))) : KW E mX4_eased (qI f) M 15 [(0, pR 86), (1, pI x1), (2, pI x2), (3, pI x3), (4, pI x4), (5, pI x5), (6, pI x6)] [] := by
  refine w_iload dX4_eased_15 rfl ?_
  refine w_aload_n dX4_eased_17 rfl ?_
  refine w_getI (x := (M 86 7)) dX4_eased_18 fX4_47 rfl rfl rfl (fun g1 => ?_)
  have h := h g1
  obtain ⟨o2, h⟩ := h
  refine w_icmp_ge dX4_eased_21 rfl ⟨o2, g1⟩ (fun c => ?_) (fun c => ?_)
  · have h := h.1 c
    refine w_iinc dX4_eased_79 rfl (by decide) ?_
    refine w_goto dX4_eased_82 rfl ?_
    exact k_pick [1, 2, 3, 4, 5, 0] rfl h
  · have h := h.2 c
    refine w_iload dX4_eased_24 rfl ?_
    refine w_iload dX4_eased_26 rfl ?_
    refine w_iconst dX4_eased_28 ?_
    refine w_ixor dX4_eased_29 ?_
    refine w_iand dX4_eased_30 ?_
    refine w_iload dX4_eased_31 rfl ?_
    refine w_iload_n dX4_eased_33 rfl ?_
    refine w_iand dX4_eased_34 ?_
    refine w_ior dX4_eased_35 ?_
    refine w_if_ne dX4_eased_36 rfl (bOr_r _ _) (fun c => ?_) (fun c => ?_)
    · have h := h.1 c
      refine w_iinc dX4_eased_73 rfl (by decide) ?_
      refine w_goto dX4_eased_76 rfl ?_
      exact k_pick [1, 2, 3, 4, 5, 6, 0] rfl h
    · have h := h.2 c
      refine w_iload dX4_eased_39 rfl ?_
      refine k_sI (as := [pI x6]) dX4_eased_41 kX4_128 ⟨⟨Nat.le_of_ble_eq_true rfl, rfl, rfl⟩, Nat.le_of_ble_eq_true rfl⟩ rfl (Nat.le_of_ble_eq_true rfl) h ?_
      intro r3 M4 h
      refine w_iload dX4_eased_44 rfl ?_
      obtain ⟨o5, h⟩ := h
      obtain ⟨o6, h⟩ := h
      refine w_icmp_ne dX4_eased_46 rfl ⟨o5, o6⟩ (fun c => ?_) (fun c => ?_)
      · have h := h.1 c
        refine w_iinc dX4_eased_73 rfl (by decide) ?_
        refine w_goto dX4_eased_76 rfl ?_
        exact k_pick [1, 2, 3, 4, 5, 6, 0] rfl h
      · have h := h.2 c
        refine w_aload_n dX4_eased_49 rfl ?_
        refine w_iconst dX4_eased_50 ?_
        refine w_iload_n dX4_eased_51 rfl ?_
        refine w_iload dX4_eased_52 rfl ?_
        refine k_vV (as := [pI (-1), pI x3, pI x6]) dX4_eased_54 kX4_53 ⟨⟨Nat.le_of_ble_eq_true rfl, rfl, rfl⟩, Nat.le_of_ble_eq_true rfl⟩ rfl (by decide) rfl (Nat.le_of_ble_eq_true rfl) h ?_
        intro M8 h
        refine w_aload_n dX4_eased_57 rfl ?_
        refine w_iload_n dX4_eased_58 rfl ?_
        refine k_vV (as := [pI x1]) dX4_eased_59 kX4_105 ⟨⟨Nat.le_of_ble_eq_true rfl, rfl, rfl⟩, Nat.le_of_ble_eq_true rfl⟩ rfl (by decide) rfl (Nat.le_of_ble_eq_true rfl) h ?_
        intro M10 h
        refine w_aload_n dX4_eased_62 rfl ?_
        refine w_iload_n dX4_eased_63 rfl ?_
        refine k_vI (as := [pI x2]) dX4_eased_64 kX4_91 ⟨⟨Nat.le_of_ble_eq_true rfl, rfl, rfl⟩, Nat.le_of_ble_eq_true rfl⟩ rfl (by decide) rfl (Nat.le_of_ble_eq_true rfl) h ?_
        intro r11 M12 h
        obtain ⟨o13, h⟩ := h
        refine w_if_eq dX4_eased_67 rfl o13 (fun c => ?_) (fun c => ?_)
        · have h := h.1 c
          refine w_iinc dX4_eased_73 rfl (by decide) ?_
          refine w_goto dX4_eased_76 rfl ?_
          exact k_pick [1, 2, 3, 4, 5, 6, 0] rfl h
        · have h := h.2 c
          refine w_iload dX4_eased_70 rfl ?_
          exact k_iret dX4_eased_72 rfl h
theorem vX4_winningLatch_0 {E : Scr} {f : Int → Mem → Prop} {M : Mem} (x1 : Int) (h : (CI E mX4_has [pR 86, pI x1] M (fun r1 M2 => (iR r1) ∧ ((r1 ≠ 0 → ((iR (M2 86 7)) → (KW E mX4_winningLatch (qI f) M2 20 [(0, pR 86), (1, pI x1), (2, pI (-2)), (3, pI ((M2 86 7) - 1))] []))) ∧ (r1 = 0 → f (-2) M2))))) : CI E mX4_winningLatch [pR 86, pI x1] M f := by
  refine (show KW E mX4_winningLatch (qI f) M 0 [(0, pR 86), (1, pI x1)] [] from ?_)
  refine w_bipush dX4_winningLatch_0 (by decide) ?_
  refine w_istore_n dX4_winningLatch_2 (by decide) ?_
  refine w_aload_n dX4_winningLatch_3 rfl ?_
  refine w_iload_n dX4_winningLatch_4 rfl ?_
  refine k_vI (as := [pI x1]) dX4_winningLatch_5 kX4_63 ⟨⟨Nat.le_of_ble_eq_true rfl, rfl, rfl⟩, Nat.le_of_ble_eq_true rfl⟩ rfl (by decide) rfl (Nat.le_of_ble_eq_true rfl) h ?_
  intro r1 M2 h
  obtain ⟨o3, h⟩ := h
  refine w_if_ne dX4_winningLatch_8 rfl o3 (fun c => ?_) (fun c => ?_)
  · have h := h.1 c
    refine w_aload_n dX4_winningLatch_13 rfl ?_
    refine w_getI (x := (M2 86 7)) dX4_winningLatch_14 fX4_47 rfl rfl rfl (fun g4 => ?_)
    have h := h g4
    refine w_iconst dX4_winningLatch_17 ?_
    refine w_isub dX4_winningLatch_18 ?_
    refine w_istore_n dX4_winningLatch_19 (by decide) ?_
    exact k_pick [2, 3, 1, 0] rfl h
  · have h := h.2 c
    refine w_iload_n dX4_winningLatch_11 rfl ?_
    exact k_iret dX4_winningLatch_12 rfl h
theorem vX4_winningLatch_20 {E : Scr} {f : Int → Mem → Prop} {M : Mem} (x1 x2 x3 : Int) (h : (iR x3) ∧ (iR x1) ∧ ((x3 < x1 → f x2 M) ∧ (x3 ≥ x1 → ((iR (M 86 6)) → (KW E mX4_winningLatch (qI f) M 36 [(0, pR 86), (1, pI x1), (2, pI (-2)), (3, pI x3), (4, pI ((M 86 6) - 1))] []))))) : KW E mX4_winningLatch (qI f) M 20 [(0, pR 86), (1, pI x1), (2, pI x2), (3, pI x3)] [] := by
  refine w_iload_n dX4_winningLatch_20 rfl ?_
  refine w_iload_n dX4_winningLatch_21 rfl ?_
  obtain ⟨o1, h⟩ := h
  obtain ⟨o2, h⟩ := h
  refine w_icmp_lt dX4_winningLatch_22 rfl ⟨o1, o2⟩ (fun c => ?_) (fun c => ?_)
  · have h := h.1 c
    refine w_iload_n dX4_winningLatch_116 rfl ?_
    exact k_iret dX4_winningLatch_117 rfl h
  · have h := h.2 c
    refine w_bipush dX4_winningLatch_25 (by decide) ?_
    refine w_istore_n dX4_winningLatch_27 (by decide) ?_
    refine w_aload_n dX4_winningLatch_28 rfl ?_
    refine w_getI (x := (M 86 6)) dX4_winningLatch_29 fX4_40 rfl rfl rfl (fun g3 => ?_)
    have h := h g3
    refine w_iconst dX4_winningLatch_32 ?_
    refine w_isub dX4_winningLatch_33 ?_
    refine w_istore dX4_winningLatch_34 (by decide) ?_
    exact k_pick [2, 3, 1, 4, 0] rfl h
theorem vX4_winningLatch_36 {E : Scr} {f : Int → Mem → Prop} {M : Mem} (x1 x2 x3 x4 : Int) (h : (iR x4) ∧ ((x4 < 0 → (iR x2) ∧ ((x2 ≠ (-2) → (0 ≤ x3 ∧ x3 < 256) ∧ (KW E mX4_winningLatch (qI f) (upM M 90 x3.toNat 1) 20 [(0, pR 86), (1, pI x1), (2, pI x2), (3, pI (x3 + (-1)))] [])) ∧ (x2 = (-2) → (0 ≤ x3 ∧ x3 < 256) ∧ (KW E mX4_winningLatch (qI f) (upM M 90 x3.toNat 0) 20 [(0, pR 86), (1, pI x1), (2, pI x2), (3, pI (x3 + (-1)))] [])))) ∧ (x4 ≥ 0 → (iR x3) ∧ (((bOr x3 (bShl 1 x4)) = x3 → (KW E mX4_winningLatch (qI f) M 36 [(0, pR 86), (1, pI x1), (2, pI x2), (3, pI x3), (4, pI (x4 + (-1)))] [])) ∧ ((bOr x3 (bShl 1 x4)) ≠ x3 → (CI E mX4_isMovable [pR 86, pI x3, pI x4] M (fun r6 M7 => (iR r6) ∧ ((r6 = 0 → (KW E mX4_winningLatch (qI f) M7 36 [(0, pR 86), (1, pI x1), (2, pI x2), (3, pI x3), (4, pI (x4 + (-1)))] [])) ∧ (r6 ≠ 0 → (CI E mX4_has [pR 86, pI (bOr x3 (bShl 1 x4))] M7 (fun r9 M10 => (iR r9) ∧ ((r9 = 0 → (KW E mX4_winningLatch (qI f) M10 36 [(0, pR 86), (1, pI x1), (2, pI x2), (3, pI x3), (4, pI (x4 + (-1)))] [])) ∧ (r9 ≠ 0 → (0 ≤ (bOr x3 (bShl 1 x4)) ∧ (bOr x3 (bShl 1 x4)) < 256) ∧ ((iR (M10 90 ((bOr x3 (bShl 1 x4)).toNat))) → (((M10 90 ((bOr x3 (bShl 1 x4)).toNat)) ≠ 0 → (KW E mX4_winningLatch (qI f) M10 36 [(0, pR 86), (1, pI x1), (2, pI x2), (3, pI x3), (4, pI (x4 + (-1)))] [])) ∧ ((M10 90 ((bOr x3 (bShl 1 x4)).toNat)) = 0 → (KW E mX4_winningLatch (qI f) M10 36 [(0, pR 86), (1, pI x1), (2, pI x4), (3, pI x3), (4, pI (x4 + (-1)))] []))))))))))))))))) : KW E mX4_winningLatch (qI f) M 36 [(0, pR 86), (1, pI x1), (2, pI x2), (3, pI x3), (4, pI x4)] [] := by
  refine w_iload dX4_winningLatch_36 rfl ?_
  obtain ⟨o1, h⟩ := h
  refine w_if_lt dX4_winningLatch_38 rfl o1 (fun c => ?_) (fun c => ?_)
  · have h := h.1 c
    refine w_aload_n dX4_winningLatch_93 rfl ?_
    refine w_getR dX4_winningLatch_94 fX4_21 rfl rfl rfl ?_
    refine w_iload_n dX4_winningLatch_97 rfl ?_
    refine w_iload_n dX4_winningLatch_98 rfl ?_
    refine w_bipush dX4_winningLatch_99 (by decide) ?_
    obtain ⟨o2, h⟩ := h
    refine w_icmp_ne dX4_winningLatch_101 rfl ⟨o2, (by decide)⟩ (fun c => ?_) (fun c => ?_)
    · have h := h.1 c
      refine w_iconst dX4_winningLatch_108 ?_
      obtain ⟨o3, h⟩ := h
      refine w_iast dX4_winningLatch_109 rfl o3 (by decide) ?_
      refine w_iinc dX4_winningLatch_110 rfl (by decide) ?_
      refine w_goto dX4_winningLatch_113 rfl ?_
      exact k_pick [1, 2, 3, 0] rfl h
    · have h := h.2 c
      refine w_iconst dX4_winningLatch_104 ?_
      refine w_goto dX4_winningLatch_105 rfl ?_
      obtain ⟨o4, h⟩ := h
      refine w_iast dX4_winningLatch_109 rfl o4 (by decide) ?_
      refine w_iinc dX4_winningLatch_110 rfl (by decide) ?_
      refine w_goto dX4_winningLatch_113 rfl ?_
      exact k_pick [1, 2, 3, 0] rfl h
  · have h := h.2 c
    refine w_iload_n dX4_winningLatch_41 rfl ?_
    refine w_iconst dX4_winningLatch_42 ?_
    refine w_iload dX4_winningLatch_43 rfl ?_
    refine w_ishl dX4_winningLatch_45 ?_
    refine w_ior dX4_winningLatch_46 ?_
    refine w_istore dX4_winningLatch_47 (by decide) ?_
    refine w_iload dX4_winningLatch_49 rfl ?_
    refine w_iload_n dX4_winningLatch_51 rfl ?_
    obtain ⟨o5, h⟩ := h
    refine w_icmp_eq dX4_winningLatch_52 rfl ⟨(bOr_r _ _), o5⟩ (fun c => ?_) (fun c => ?_)
    · have h := h.1 c
      refine w_iinc dX4_winningLatch_87 rfl (by decide) ?_
      refine w_goto dX4_winningLatch_90 rfl ?_
      exact k_pick [2, 3, 4, 5, 0] rfl h
    · have h := h.2 c
      refine w_aload_n dX4_winningLatch_55 rfl ?_
      refine w_iload_n dX4_winningLatch_56 rfl ?_
      refine w_iload dX4_winningLatch_57 rfl ?_
      refine k_vI (as := [pI x3, pI x4]) dX4_winningLatch_59 kX4_87 ⟨⟨Nat.le_of_ble_eq_true rfl, rfl, rfl⟩, Nat.le_of_ble_eq_true rfl⟩ rfl (by decide) rfl (Nat.le_of_ble_eq_true rfl) h ?_
      intro r6 M7 h
      obtain ⟨o8, h⟩ := h
      refine w_if_eq dX4_winningLatch_62 rfl o8 (fun c => ?_) (fun c => ?_)
      · have h := h.1 c
        refine w_iinc dX4_winningLatch_87 rfl (by decide) ?_
        refine w_goto dX4_winningLatch_90 rfl ?_
        exact k_pick [2, 3, 4, 5, 0] rfl h
      · have h := h.2 c
        refine w_aload_n dX4_winningLatch_65 rfl ?_
        refine w_iload dX4_winningLatch_66 rfl ?_
        refine k_vI (as := [pI (bOr x3 (bShl 1 x4))]) dX4_winningLatch_68 kX4_63 ⟨⟨Nat.le_of_ble_eq_true rfl, rfl, rfl⟩, Nat.le_of_ble_eq_true rfl⟩ rfl (by decide) rfl (Nat.le_of_ble_eq_true rfl) h ?_
        intro r9 M10 h
        obtain ⟨o11, h⟩ := h
        refine w_if_eq dX4_winningLatch_71 rfl o11 (fun c => ?_) (fun c => ?_)
        · have h := h.1 c
          refine w_iinc dX4_winningLatch_87 rfl (by decide) ?_
          refine w_goto dX4_winningLatch_90 rfl ?_
          exact k_pick [2, 3, 4, 5, 0] rfl h
        · have h := h.2 c
          refine w_aload_n dX4_winningLatch_74 rfl ?_
          refine w_getR dX4_winningLatch_75 fX4_21 rfl rfl rfl ?_
          refine w_iload dX4_winningLatch_78 rfl ?_
          obtain ⟨o12, h⟩ := h
          refine w_iald (x := (M10 90 ((bOr x3 (bShl 1 x4)).toNat))) dX4_winningLatch_80 rfl o12 rfl (fun g13 => ?_)
          have h := h g13
          refine w_if_ne dX4_winningLatch_81 rfl g13 (fun c => ?_) (fun c => ?_)
          · have h := h.1 c
            refine w_iinc dX4_winningLatch_87 rfl (by decide) ?_
            refine w_goto dX4_winningLatch_90 rfl ?_
            exact k_pick [2, 3, 4, 5, 0] rfl h
          · have h := h.2 c
            refine w_iload dX4_winningLatch_84 rfl ?_
            refine w_istore_n dX4_winningLatch_86 (by decide) ?_
            refine w_iinc dX4_winningLatch_87 rfl (by decide) ?_
            refine w_goto dX4_winningLatch_90 rfl ?_
            exact k_pick [3, 4, 1, 5, 0] rfl h
theorem vX4_drunkTo_0 {E : Scr} {f : Int → Mem → Prop} {M : Mem} (x1 x2 x3 : Int) (h : (CI E mX4_has [pR 86, pI x1] M (fun r1 M2 => (iR r1) ∧ ((r1 = 0 → f 0 M2) ∧ (r1 ≠ 0 → (CI E mX4_has [pR 86, pI x2] M2 (fun r4 M5 => (iR r4) ∧ ((r4 ≠ 0 → (CV E mJ7_fill_d0a16 [pR 91, pL 0] M5 (fun M8 => (0 ≤ x1 ∧ x1 < 256) ∧ (KW E mX4_drunkTo (qL f) (upM M8 91 x1.toNat 1) 36 [(0, pR 86), (2, pI x2), (3, pI x3), (4, pI 0)] [])))) ∧ (r4 = 0 → f 0 M5))))))))) : CL E mX4_drunkTo [pR 86, pI x1, pI x2, pI x3] M f := by
  refine (show KW E mX4_drunkTo (qL f) M 0 [(0, pR 86), (1, pI x1), (2, pI x2), (3, pI x3)] [] from ?_)
  refine w_aload_n dX4_drunkTo_0 rfl ?_
  refine w_iload_n dX4_drunkTo_1 rfl ?_
  refine k_vI (as := [pI x1]) dX4_drunkTo_2 kX4_63 ⟨⟨Nat.le_of_ble_eq_true rfl, rfl, rfl⟩, Nat.le_of_ble_eq_true rfl⟩ rfl (by decide) rfl (Nat.le_of_ble_eq_true rfl) h ?_
  intro r1 M2 h
  obtain ⟨o3, h⟩ := h
  refine w_if_eq dX4_drunkTo_5 rfl o3 (fun c => ?_) (fun c => ?_)
  · have h := h.1 c
    refine w_lconst (x := 0) dX4_drunkTo_16 rfl ?_
    exact k_lret dX4_drunkTo_17 rfl h
  · have h := h.2 c
    refine w_aload_n dX4_drunkTo_8 rfl ?_
    refine w_iload_n dX4_drunkTo_9 rfl ?_
    refine k_vI (as := [pI x2]) dX4_drunkTo_10 kX4_63 ⟨⟨Nat.le_of_ble_eq_true rfl, rfl, rfl⟩, Nat.le_of_ble_eq_true rfl⟩ rfl (by decide) rfl (Nat.le_of_ble_eq_true rfl) h ?_
    intro r4 M5 h
    obtain ⟨o6, h⟩ := h
    refine w_if_ne dX4_drunkTo_13 rfl o6 (fun c => ?_) (fun c => ?_)
    · have h := h.1 c
      refine w_aload_n dX4_drunkTo_18 rfl ?_
      refine w_getR dX4_drunkTo_19 fX4_24 rfl rfl rfl ?_
      refine w_lconst (x := 0) dX4_drunkTo_22 rfl ?_
      refine k_sV (as := [pR 91, pL 0]) dX4_drunkTo_23 kX4_97 ⟨⟨Nat.le_of_ble_eq_true rfl, rfl, rfl⟩, Nat.le_of_ble_eq_true rfl⟩ rfl (Nat.le_of_ble_eq_true rfl) h ?_
      intro M8 h
      refine w_aload_n dX4_drunkTo_26 rfl ?_
      refine w_getR dX4_drunkTo_27 fX4_24 rfl rfl rfl ?_
      refine w_iload_n dX4_drunkTo_30 rfl ?_
      refine w_lconst (x := 1) dX4_drunkTo_31 rfl ?_
      obtain ⟨o9, h⟩ := h
      refine w_last dX4_drunkTo_32 rfl o9 (by decide) ?_
      refine w_iconst dX4_drunkTo_33 ?_
      refine w_istore dX4_drunkTo_34 (by decide) ?_
      exact k_pick [1, 3, 4, 0] rfl h
    · have h := h.2 c
      refine w_lconst (x := 0) dX4_drunkTo_16 rfl ?_
      exact k_lret dX4_drunkTo_17 rfl h
theorem vX4_drunkTo_36 {E : Scr} {f : Int → Mem → Prop} {M : Mem} (x2 x3 x4 : Int) (h : (iR x4) ∧ (iR x3) ∧ ((x4 ≥ x3 → (0 ≤ x2 ∧ x2 < 256) ∧ ((lR (M 91 x2.toNat)) → f (M 91 x2.toNat) M)) ∧ (x4 < x3 → (CV E mJ7_fill_d0a16 [pR 92, pL 0] M (fun M6 => (KW E mX4_drunkTo (qL f) M6 53 [(0, pR 86), (2, pI x2), (3, pI x3), (4, pI x4), (5, pI 0)] [])))))) : KW E mX4_drunkTo (qL f) M 36 [(0, pR 86), (2, pI x2), (3, pI x3), (4, pI x4)] [] := by
  refine w_iload dX4_drunkTo_36 rfl ?_
  refine w_iload_n dX4_drunkTo_38 rfl ?_
  obtain ⟨o1, h⟩ := h
  obtain ⟨o2, h⟩ := h
  refine w_icmp_ge dX4_drunkTo_39 rfl ⟨o1, o2⟩ (fun c => ?_) (fun c => ?_)
  · have h := h.1 c
    refine w_aload_n dX4_drunkTo_108 rfl ?_
    refine w_getR dX4_drunkTo_109 fX4_24 rfl rfl rfl ?_
    refine w_iload_n dX4_drunkTo_112 rfl ?_
    obtain ⟨o3, h⟩ := h
    refine w_lald (x := (M 91 x2.toNat)) dX4_drunkTo_113 rfl o3 rfl (fun g4 => ?_)
    have h := h g4
    exact k_lret dX4_drunkTo_114 rfl h
  · have h := h.2 c
    refine w_aload_n dX4_drunkTo_42 rfl ?_
    refine w_getR dX4_drunkTo_43 fX4_28 rfl rfl rfl ?_
    refine w_lconst (x := 0) dX4_drunkTo_46 rfl ?_
    refine k_sV (as := [pR 92, pL 0]) dX4_drunkTo_47 kX4_97 ⟨⟨Nat.le_of_ble_eq_true rfl, rfl, rfl⟩, Nat.le_of_ble_eq_true rfl⟩ rfl (Nat.le_of_ble_eq_true rfl) h ?_
    intro M6 h
    refine w_iconst dX4_drunkTo_50 ?_
    refine w_istore dX4_drunkTo_51 (by decide) ?_
    exact k_pick [1, 2, 3, 4, 0] rfl h
theorem vX4_drunkTo_53 {E : Scr} {f : Int → Mem → Prop} {M : Mem} (x2 x3 x4 x5 : Int) (h : ((iR (M 86 7)) → (iR x5) ∧ ((x5 ≥ (M 86 7) → (KW E mX4_drunkTo (qL f) (cpM M 92 91 0 0 256) 36 [(0, pR 86), (2, pI x2), (3, pI x3), (4, pI (x4 + 1))] [])) ∧ (x5 < (M 86 7) → (0 ≤ x5 ∧ x5 < 256) ∧ ((lR (M 91 x5.toNat)) → (((M 91 x5.toNat) = 0 → (KW E mX4_drunkTo (qL f) M 53 [(0, pR 86), (2, pI x2), (3, pI x3), (4, pI x4), (5, pI (x5 + 1))] [])) ∧ ((M 91 x5.toNat) ≠ 0 → (CV E mX4_spill [pR 86, pI x5] M (fun M6 => (KW E mX4_drunkTo (qL f) M6 53 [(0, pR 86), (2, pI x2), (3, pI x3), (4, pI x4), (5, pI (x5 + 1))] [])))))))))) : KW E mX4_drunkTo (qL f) M 53 [(0, pR 86), (2, pI x2), (3, pI x3), (4, pI x4), (5, pI x5)] [] := by
  refine w_iload dX4_drunkTo_53 rfl ?_
  refine w_aload_n dX4_drunkTo_55 rfl ?_
  refine w_getI (x := (M 86 7)) dX4_drunkTo_56 fX4_47 rfl rfl rfl (fun g1 => ?_)
  have h := h g1
  obtain ⟨o2, h⟩ := h
  refine w_icmp_ge dX4_drunkTo_59 rfl ⟨o2, g1⟩ (fun c => ?_) (fun c => ?_)
  · have h := h.1 c
    refine w_aload_n dX4_drunkTo_86 rfl ?_
    refine w_getR dX4_drunkTo_87 fX4_28 rfl rfl rfl ?_
    refine w_iconst dX4_drunkTo_90 ?_
    refine w_aload_n dX4_drunkTo_91 rfl ?_
    refine w_getR dX4_drunkTo_92 fX4_24 rfl rfl rfl ?_
    refine w_iconst dX4_drunkTo_95 ?_
    refine w_sipush dX4_drunkTo_96 (by decide) ?_
    refine w_copyL dX4_drunkTo_99 kX4_109 ⟨by decide, Nat.le_of_ble_eq_true rfl⟩ rfl rfl ⟨by decide, by decide, by decide⟩ ⟨by decide, by decide⟩ ?_
    refine w_iinc dX4_drunkTo_102 rfl (by decide) ?_
    refine w_goto dX4_drunkTo_105 rfl ?_
    exact k_pick [1, 2, 3, 0] rfl h
  · have h := h.2 c
    refine w_aload_n dX4_drunkTo_62 rfl ?_
    refine w_getR dX4_drunkTo_63 fX4_24 rfl rfl rfl ?_
    refine w_iload dX4_drunkTo_66 rfl ?_
    obtain ⟨o3, h⟩ := h
    refine w_lald (x := (M 91 x5.toNat)) dX4_drunkTo_68 rfl o3 rfl (fun g4 => ?_)
    have h := h g4
    refine w_lconst (x := 0) dX4_drunkTo_69 rfl ?_
    refine w_lcmp_eq dX4_drunkTo_70 dX4_drunkTo_71 rfl ⟨g4, (by decide)⟩ (fun c => ?_) (fun c => ?_)
    · have h := h.1 c
      refine w_iinc dX4_drunkTo_80 rfl (by decide) ?_
      refine w_goto dX4_drunkTo_83 rfl ?_
      exact k_pick [1, 2, 3, 4, 0] rfl h
    · have h := h.2 c
      refine w_aload_n dX4_drunkTo_74 rfl ?_
      refine w_iload dX4_drunkTo_75 rfl ?_
      refine k_vV (as := [pI x5]) dX4_drunkTo_77 kX4_133 ⟨⟨Nat.le_of_ble_eq_true rfl, rfl, rfl⟩, Nat.le_of_ble_eq_true rfl⟩ rfl (by decide) rfl (Nat.le_of_ble_eq_true rfl) h ?_
      intro M6 h
      refine w_iinc dX4_drunkTo_80 rfl (by decide) ?_
      refine w_goto dX4_drunkTo_83 rfl ?_
      exact k_pick [1, 2, 3, 4, 0] rfl h
theorem vX4_spill_0 {E : Scr} {f : Mem → Prop} {M : Mem} (x1 : Int) (h : (0 ≤ x1 ∧ x1 < 256) ∧ ((iR (M 87 x1.toNat)) → (CI E mJ6_bitCount_0f7a4 [pI (M 87 x1.toNat)] M (fun r3 M4 => (iR r3) ∧ ((r3 ≠ 0 → (0 ≤ x1 ∧ x1 < 256) ∧ ((lR (M4 91 x1.toNat)) → (iR r3) ∧ (r3 ≠ 0) ∧ (iR (Int.tdiv 840 r3)) ∧ (KW E mX4_spill (qV f) M4 51 [(0, pR 86), (1, pI x1), (3, pL ((M4 91 x1.toNat) * (Int.tdiv 840 r3))), (5, pI 0)] []))) ∧ (r3 = 0 → (0 ≤ x1 ∧ x1 < 256) ∧ ((lR (M4 92 x1.toNat)) → (0 ≤ x1 ∧ x1 < 256) ∧ ((lR (M4 91 x1.toNat)) → (0 ≤ x1 ∧ x1 < 256) ∧ (lR ((M4 92 x1.toNat) + ((M4 91 x1.toNat) * 840))) ∧ f (upM M4 92 x1.toNat ((M4 92 x1.toNat) + ((M4 91 x1.toNat) * 840))))))))))) : CV E mX4_spill [pR 86, pI x1] M f := by
  refine (show KW E mX4_spill (qV f) M 0 [(0, pR 86), (1, pI x1)] [] from ?_)
  refine w_aload_n dX4_spill_0 rfl ?_
  refine w_getR dX4_spill_1 fX4_9 rfl rfl rfl ?_
  refine w_iload_n dX4_spill_4 rfl ?_
  obtain ⟨o1, h⟩ := h
  refine w_iald (x := (M 87 x1.toNat)) dX4_spill_5 rfl o1 rfl (fun g2 => ?_)
  have h := h g2
  refine k_sI (as := [pI (M 87 x1.toNat)]) dX4_spill_6 kX4_128 ⟨⟨Nat.le_of_ble_eq_true rfl, rfl, rfl⟩, Nat.le_of_ble_eq_true rfl⟩ rfl (Nat.le_of_ble_eq_true rfl) h ?_
  intro r3 M4 h
  refine w_istore_n dX4_spill_9 (by decide) ?_
  refine w_iload_n dX4_spill_10 rfl ?_
  obtain ⟨o5, h⟩ := h
  refine w_if_ne dX4_spill_11 rfl o5 (fun c => ?_) (fun c => ?_)
  · have h := h.1 c
    refine w_aload_n dX4_spill_34 rfl ?_
    refine w_getR dX4_spill_35 fX4_24 rfl rfl rfl ?_
    refine w_iload_n dX4_spill_38 rfl ?_
    obtain ⟨o6, h⟩ := h
    refine w_lald (x := (M4 91 x1.toNat)) dX4_spill_39 rfl o6 rfl (fun g7 => ?_)
    have h := h g7
    refine w_sipush dX4_spill_40 (by decide) ?_
    refine w_iload_n dX4_spill_43 rfl ?_
    obtain ⟨o8, h⟩ := h
    obtain ⟨o9, h⟩ := h
    refine w_idiv dX4_spill_44 ⟨(by decide), o8, o9⟩ ?_
    obtain ⟨o10, h⟩ := h
    refine w_i2l dX4_spill_45 o10 ?_
    refine w_lmul dX4_spill_46 ?_
    refine w_lstore_n dX4_spill_47 (by decide) ?_
    refine w_iconst dX4_spill_48 ?_
    refine w_istore dX4_spill_49 (by decide) ?_
    exact k_pick [3, 4, 1, 0] rfl h
  · have h := h.2 c
    refine w_aload_n dX4_spill_14 rfl ?_
    refine w_getR dX4_spill_15 fX4_28 rfl rfl rfl ?_
    refine w_iload_n dX4_spill_18 rfl ?_
    refine w_dup2 dX4_spill_19 ⟨rfl, rfl⟩ ?_
    obtain ⟨o11, h⟩ := h
    refine w_lald (x := (M4 92 x1.toNat)) dX4_spill_20 rfl o11 rfl (fun g12 => ?_)
    have h := h g12
    refine w_aload_n dX4_spill_21 rfl ?_
    refine w_getR dX4_spill_22 fX4_24 rfl rfl rfl ?_
    refine w_iload_n dX4_spill_25 rfl ?_
    obtain ⟨o13, h⟩ := h
    refine w_lald (x := (M4 91 x1.toNat)) dX4_spill_26 rfl o13 rfl (fun g14 => ?_)
    have h := h g14
    refine w_ldc2 dX4_spill_27 qX4_136 ?_
    refine w_lmul dX4_spill_30 ?_
    refine w_ladd dX4_spill_31 ?_
    obtain ⟨o15, h⟩ := h
    obtain ⟨o16, h⟩ := h
    refine w_last dX4_spill_32 rfl o15 o16 ?_
    exact k_vret dX4_spill_33 rfl h
theorem vX4_spill_51 {E : Scr} {f : Mem → Prop} {M : Mem} (x1 x3 x5 : Int) (h : ((iR (M 86 6)) → (iR x5) ∧ ((x5 ≥ (M 86 6) → f M) ∧ (x5 < (M 86 6) → (CI E mX4_isMovable [pR 86, pI x1, pI x5] M (fun r3 M4 => (iR r3) ∧ ((r3 = 0 → (KW E mX4_spill (qV f) M4 51 [(0, pR 86), (1, pI x1), (3, pL x3), (5, pI (x5 + 1))] [])) ∧ (r3 ≠ 0 → (CI E mX4_has [pR 86, pI (bXor x1 (bShl 1 x5))] M4 (fun r6 M7 => (iR r6) ∧ ((r6 = 0 → (KW E mX4_spill (qV f) M7 51 [(0, pR 86), (1, pI x1), (3, pL x3), (5, pI (x5 + 1))] [])) ∧ (r6 ≠ 0 → (0 ≤ (bXor x1 (bShl 1 x5)) ∧ (bXor x1 (bShl 1 x5)) < 256) ∧ ((lR (M7 92 ((bXor x1 (bShl 1 x5)).toNat))) → (0 ≤ (bXor x1 (bShl 1 x5)) ∧ (bXor x1 (bShl 1 x5)) < 256) ∧ (lR ((M7 92 ((bXor x1 (bShl 1 x5)).toNat)) + x3)) ∧ (KW E mX4_spill (qV f) (upM M7 92 ((bXor x1 (bShl 1 x5)).toNat) ((M7 92 ((bXor x1 (bShl 1 x5)).toNat)) + x3)) 51 [(0, pR 86), (1, pI x1), (3, pL x3), (5, pI (x5 + 1))] [])))))))))))))) : KW E mX4_spill (qV f) M 51 [(0, pR 86), (1, pI x1), (3, pL x3), (5, pI x5)] [] := by
  refine w_iload dX4_spill_51 rfl ?_
  refine w_aload_n dX4_spill_53 rfl ?_
  refine w_getI (x := (M 86 6)) dX4_spill_54 fX4_40 rfl rfl rfl (fun g1 => ?_)
  have h := h g1
  obtain ⟨o2, h⟩ := h
  refine w_icmp_ge dX4_spill_57 rfl ⟨o2, g1⟩ (fun c => ?_) (fun c => ?_)
  · have h := h.1 c
    exact k_vret dX4_spill_104 rfl h
  · have h := h.2 c
    refine w_iload_n dX4_spill_60 rfl ?_
    refine w_iconst dX4_spill_61 ?_
    refine w_iload dX4_spill_62 rfl ?_
    refine w_ishl dX4_spill_64 ?_
    refine w_ixor dX4_spill_65 ?_
    refine w_istore dX4_spill_66 (by decide) ?_
    refine w_aload_n dX4_spill_68 rfl ?_
    refine w_iload_n dX4_spill_69 rfl ?_
    refine w_iload dX4_spill_70 rfl ?_
    refine k_vI (as := [pI x1, pI x5]) dX4_spill_72 kX4_87 ⟨⟨Nat.le_of_ble_eq_true rfl, rfl, rfl⟩, Nat.le_of_ble_eq_true rfl⟩ rfl (by decide) rfl (Nat.le_of_ble_eq_true rfl) h ?_
    intro r3 M4 h
    obtain ⟨o5, h⟩ := h
    refine w_if_eq dX4_spill_75 rfl o5 (fun c => ?_) (fun c => ?_)
    · have h := h.1 c
      refine w_iinc dX4_spill_98 rfl (by decide) ?_
      refine w_goto dX4_spill_101 rfl ?_
      exact k_pick [2, 3, 4, 0] rfl h
    · have h := h.2 c
      refine w_aload_n dX4_spill_78 rfl ?_
      refine w_iload dX4_spill_79 rfl ?_
      refine k_vI (as := [pI (bXor x1 (bShl 1 x5))]) dX4_spill_81 kX4_63 ⟨⟨Nat.le_of_ble_eq_true rfl, rfl, rfl⟩, Nat.le_of_ble_eq_true rfl⟩ rfl (by decide) rfl (Nat.le_of_ble_eq_true rfl) h ?_
      intro r6 M7 h
      obtain ⟨o8, h⟩ := h
      refine w_if_eq dX4_spill_84 rfl o8 (fun c => ?_) (fun c => ?_)
      · have h := h.1 c
        refine w_iinc dX4_spill_98 rfl (by decide) ?_
        refine w_goto dX4_spill_101 rfl ?_
        exact k_pick [2, 3, 4, 0] rfl h
      · have h := h.2 c
        refine w_aload_n dX4_spill_87 rfl ?_
        refine w_getR dX4_spill_88 fX4_28 rfl rfl rfl ?_
        refine w_iload dX4_spill_91 rfl ?_
        refine w_dup2 dX4_spill_93 ⟨rfl, rfl⟩ ?_
        obtain ⟨o9, h⟩ := h
        refine w_lald (x := (M7 92 ((bXor x1 (bShl 1 x5)).toNat))) dX4_spill_94 rfl o9 rfl (fun g10 => ?_)
        have h := h g10
        refine w_lload_n dX4_spill_95 rfl ?_
        refine w_ladd dX4_spill_96 ?_
        obtain ⟨o11, h⟩ := h
        obtain ⟨o12, h⟩ := h
        refine w_last dX4_spill_97 rfl o11 o12 ?_
        refine w_iinc dX4_spill_98 rfl (by decide) ?_
        refine w_goto dX4_spill_101 rfl ?_
        exact k_pick [2, 3, 4, 0] rfl h
