theorem vX1_clear_0 {E : Scr} {f : Mem → Prop} {M : Mem} (h : (CV E mJ7_fill_53178 [pR 9, pI 0] (upM (upM (upM (upM (upM M 5 0 0) 5 1 0) 5 2 0) 5 4 0) 5 5 0) (fun M2 => (CV E mJ7_fill_53178 [pR 14, pI 0] (upM (upM (upM (upM M2 5 10 0) 5 13 0) 5 15 0) 5 16 0) (fun M4 => f (upM M4 15 3 0)))))) : CV E mX1_clear [pR 5] M f := by
  refine (show KW E mX1_clear (qV f) M 0 [(0, pR 5)] [] from ?_)
  refine w_aload_n dX1_clear_0 rfl ?_
  refine w_iconst dX1_clear_1 ?_
  refine w_putI dX1_clear_2 (Or.inl ⟨rfl, fX1_53⟩) rfl rfl (by decide) ?_
  refine w_aload_n dX1_clear_5 rfl ?_
  refine w_iconst dX1_clear_6 ?_
  refine w_putI dX1_clear_7 (Or.inl ⟨rfl, fX1_57⟩) rfl rfl (by decide) ?_
  refine w_aload_n dX1_clear_10 rfl ?_
  refine w_iconst dX1_clear_11 ?_
  refine w_putI dX1_clear_12 (Or.inl ⟨rfl, fX1_60⟩) rfl rfl (by decide) ?_
  refine w_aload_n dX1_clear_15 rfl ?_
  refine w_iconst dX1_clear_16 ?_
  refine w_putI dX1_clear_17 (Or.inl ⟨rfl, fX1_63⟩) rfl rfl (by decide) ?_
  refine w_aload_n dX1_clear_20 rfl ?_
  refine w_iconst dX1_clear_21 ?_
  refine w_putI dX1_clear_22 (Or.inl ⟨rfl, fX1_66⟩) rfl rfl (by decide) ?_
  refine w_aload_n dX1_clear_25 rfl ?_
  refine w_getR dX1_clear_26 fX1_21 rfl rfl rfl ?_
  refine w_iconst dX1_clear_29 ?_
  refine k_sV (as := [pR 9, pI 0]) dX1_clear_30 kX1_69 ⟨⟨Nat.le_of_ble_eq_true rfl, rfl, rfl⟩, Nat.le_of_ble_eq_true rfl⟩ rfl (Nat.le_of_ble_eq_true rfl) h ?_
  intro M2 h
  refine w_aload_n dX1_clear_33 rfl ?_
  refine w_iconst dX1_clear_34 ?_
  refine w_putI dX1_clear_35 (Or.inl ⟨rfl, fX1_75⟩) rfl rfl (by decide) ?_
  refine w_aload_n dX1_clear_38 rfl ?_
  refine w_iconst dX1_clear_39 ?_
  refine w_putI dX1_clear_40 (Or.inl ⟨rfl, fX1_78⟩) rfl rfl (by decide) ?_
  refine w_aload_n dX1_clear_43 rfl ?_
  refine w_iconst dX1_clear_44 ?_
  refine w_putI dX1_clear_45 (Or.inl ⟨rfl, fX1_81⟩) rfl rfl (by decide) ?_
  refine w_aload_n dX1_clear_48 rfl ?_
  refine w_iconst dX1_clear_49 ?_
  refine w_putI dX1_clear_50 (Or.inl ⟨rfl, fX1_84⟩) rfl rfl (by decide) ?_
  refine w_aload_n dX1_clear_53 rfl ?_
  refine w_getR dX1_clear_54 fX1_36 rfl rfl rfl ?_
  refine w_iconst dX1_clear_57 ?_
  refine k_sV (as := [pR 14, pI 0]) dX1_clear_58 kX1_69 ⟨⟨Nat.le_of_ble_eq_true rfl, rfl, rfl⟩, Nat.le_of_ble_eq_true rfl⟩ rfl (Nat.le_of_ble_eq_true rfl) h ?_
  intro M4 h
  refine w_aload_n dX1_clear_61 rfl ?_
  refine w_getR dX1_clear_62 fX1_42 rfl rfl rfl ?_
  refine w_iconst dX1_clear_65 ?_
  refine w_putI dX1_clear_66 (Or.inl ⟨rfl, fX1_87⟩) rfl rfl (by decide) ?_
  exact k_vret dX1_clear_69 rfl h
theorem vX1_has_0 {E : Scr} {f : Int → Mem → Prop} {M : Mem} (x1 : Int) {dd : Nat} (hd : dd = 5 ∨ dd = 21) (h : (iR x1) ∧ ((x1 < 0 → f 0 M) ∧ (x1 ≥ 0 → ((iR (M dd 1)) → (iR x1) ∧ ((x1 ≥ (M dd 1) → f 0 M) ∧ (x1 < (M dd 1) → (iR x1) ∧ ((x1 ≥ 8 → f 0 M) ∧ (x1 < 8 → f 1 M)))))))) : CI E mX1_has [pR dd, pI x1] M f := by
  rcases hd with rfl | rfl
  · refine (show KW E mX1_has (qI f) M 0 [(0, pR 5), (1, pI x1)] [] from ?_)
    refine w_iload_n dX1_has_0 rfl ?_
    obtain ⟨o1, h⟩ := h
    refine w_if_lt dX1_has_1 rfl o1 (fun c => ?_) (fun c => ?_)
    · have h := h.1 c
      refine w_iconst dX1_has_22 ?_
      exact k_zret dX1_has_23 rfl (by decide) h
    · have h := h.2 c
      refine w_iload_n dX1_has_4 rfl ?_
      refine w_aload_n dX1_has_5 rfl ?_
      refine w_getI (x := (M 5 1)) dX1_has_6 fX1_57 rfl rfl rfl (fun g2 => ?_)
      have h := h g2
      obtain ⟨o3, h⟩ := h
      refine w_icmp_ge dX1_has_9 rfl ⟨o3, g2⟩ (fun c => ?_) (fun c => ?_)
      · have h := h.1 c
        refine w_iconst dX1_has_22 ?_
        exact k_zret dX1_has_23 rfl (by decide) h
      · have h := h.2 c
        refine w_iload_n dX1_has_12 rfl ?_
        refine w_bipush dX1_has_13 (by decide) ?_
        obtain ⟨o4, h⟩ := h
        refine w_icmp_ge dX1_has_15 rfl ⟨o4, (by decide)⟩ (fun c => ?_) (fun c => ?_)
        · have h := h.1 c
          refine w_iconst dX1_has_22 ?_
          exact k_zret dX1_has_23 rfl (by decide) h
        · have h := h.2 c
          refine w_iconst dX1_has_18 ?_
          refine w_goto dX1_has_19 rfl ?_
          exact k_zret dX1_has_23 rfl (by decide) h
  · refine (show KW E mX1_has (qI f) M 0 [(0, pR 21), (1, pI x1)] [] from ?_)
    refine w_iload_n dX1_has_0 rfl ?_
    obtain ⟨o1, h⟩ := h
    refine w_if_lt dX1_has_1 rfl o1 (fun c => ?_) (fun c => ?_)
    · have h := h.1 c
      refine w_iconst dX1_has_22 ?_
      exact k_zret dX1_has_23 rfl (by decide) h
    · have h := h.2 c
      refine w_iload_n dX1_has_4 rfl ?_
      refine w_aload_n dX1_has_5 rfl ?_
      refine w_getI (x := (M 21 1)) dX1_has_6 fX1_57 rfl rfl rfl (fun g2 => ?_)
      have h := h g2
      obtain ⟨o3, h⟩ := h
      refine w_icmp_ge dX1_has_9 rfl ⟨o3, g2⟩ (fun c => ?_) (fun c => ?_)
      · have h := h.1 c
        refine w_iconst dX1_has_22 ?_
        exact k_zret dX1_has_23 rfl (by decide) h
      · have h := h.2 c
        refine w_iload_n dX1_has_12 rfl ?_
        refine w_bipush dX1_has_13 (by decide) ?_
        obtain ⟨o4, h⟩ := h
        refine w_icmp_ge dX1_has_15 rfl ⟨o4, (by decide)⟩ (fun c => ?_) (fun c => ?_)
        · have h := h.1 c
          refine w_iconst dX1_has_22 ?_
          exact k_zret dX1_has_23 rfl (by decide) h
        · have h := h.2 c
          refine w_iconst dX1_has_18 ?_
          refine w_goto dX1_has_19 rfl ?_
          exact k_zret dX1_has_23 rfl (by decide) h
theorem vX1_hasRow_0 {E : Scr} {f : Int → Mem → Prop} {M : Mem} (x1 : Int) (h : (iR x1) ∧ ((x1 < 0 → f 0 M) ∧ (x1 ≥ 0 → ((iR (M 21 1)) → (iR x1) ∧ ((x1 ≥ (bShl 1 (M 21 1)) → f 0 M) ∧ (x1 < (bShl 1 (M 21 1)) → (iR x1) ∧ ((x1 ≥ 256 → f 0 M) ∧ (x1 < 256 → f 1 M)))))))) : CI E mX1_hasRow [pR 21, pI x1] M f := by
  refine (show KW E mX1_hasRow (qI f) M 0 [(0, pR 21), (1, pI x1)] [] from ?_)
  refine w_iload_n dX1_hasRow_0 rfl ?_
  obtain ⟨o1, h⟩ := h
  refine w_if_lt dX1_hasRow_1 rfl o1 (fun c => ?_) (fun c => ?_)
  · have h := h.1 c
    refine w_iconst dX1_hasRow_25 ?_
    exact k_zret dX1_hasRow_26 rfl (by decide) h
  · have h := h.2 c
    refine w_iload_n dX1_hasRow_4 rfl ?_
    refine w_iconst dX1_hasRow_5 ?_
    refine w_aload_n dX1_hasRow_6 rfl ?_
    refine w_getI (x := (M 21 1)) dX1_hasRow_7 fX1_57 rfl rfl rfl (fun g2 => ?_)
    have h := h g2
    refine w_ishl dX1_hasRow_10 ?_
    obtain ⟨o3, h⟩ := h
    refine w_icmp_ge dX1_hasRow_11 rfl ⟨o3, (bShl_r _ _)⟩ (fun c => ?_) (fun c => ?_)
    · have h := h.1 c
      refine w_iconst dX1_hasRow_25 ?_
      exact k_zret dX1_hasRow_26 rfl (by decide) h
    · have h := h.2 c
      refine w_iload_n dX1_hasRow_14 rfl ?_
      refine w_sipush dX1_hasRow_15 (by decide) ?_
      obtain ⟨o4, h⟩ := h
      refine w_icmp_ge dX1_hasRow_18 rfl ⟨o4, (by decide)⟩ (fun c => ?_) (fun c => ?_)
      · have h := h.1 c
        refine w_iconst dX1_hasRow_25 ?_
        exact k_zret dX1_hasRow_26 rfl (by decide) h
      · have h := h.2 c
        refine w_iconst dX1_hasRow_21 ?_
        refine w_goto dX1_hasRow_22 rfl ?_
        exact k_zret dX1_hasRow_26 rfl (by decide) h
theorem vX1_numberOf_0 {E : Scr} {f : Int → Mem → Prop} {M : Mem} (x1 : Int) {dd : Nat} (hd : dd = 5 ∨ dd = 21) (h : (KW E mX1_numberOf (qI f) M 2 [(0, pR dd), (1, pI x1), (2, pI 0)] [])) : CI E mX1_numberOf [pR dd, pI x1] M f := by
  rcases hd with rfl | rfl
  · refine (show KW E mX1_numberOf (qI f) M 0 [(0, pR 5), (1, pI x1)] [] from ?_)
    refine w_iconst dX1_numberOf_0 ?_
    refine w_istore_n dX1_numberOf_1 (by decide) ?_
    exact k_pick [1, 2, 0] rfl h
  · refine (show KW E mX1_numberOf (qI f) M 0 [(0, pR 21), (1, pI x1)] [] from ?_)
    refine w_iconst dX1_numberOf_0 ?_
    refine w_istore_n dX1_numberOf_1 (by decide) ?_
    exact k_pick [1, 2, 0] rfl h
theorem vX1_numberOf_2 {E : Scr} {f : Int → Mem → Prop} {M : Mem} (x1 x2 : Int) {dd : Nat} (hd : dd = 5 ∨ dd = 21) (h : ((iR (M dd 1)) → (iR x2) ∧ ((x2 ≥ (M dd 1) → f (-1) M) ∧ (x2 < (M dd 1) → (iR x2) ∧ ((x2 ≥ 8 → f (-1) M) ∧ (x2 < 8 → (0 ≤ x2 ∧ x2 < 8) ∧ ((iR (M (dd + 1) x2.toNat)) → (iR x1) ∧ (((M (dd + 1) x2.toNat) ≠ x1 → (KW E mX1_numberOf (qI f) M 2 [(0, pR dd), (1, pI x1), (2, pI (x2 + 1))] [])) ∧ ((M (dd + 1) x2.toNat) = x1 → f x2 M))))))))) : KW E mX1_numberOf (qI f) M 2 [(0, pR dd), (1, pI x1), (2, pI x2)] [] := by
  rcases hd with rfl | rfl
  · refine w_iload_n dX1_numberOf_2 rfl ?_
    refine w_aload_n dX1_numberOf_3 rfl ?_
    refine w_getI (x := (M 5 1)) dX1_numberOf_4 fX1_57 rfl rfl rfl (fun g1 => ?_)
    have h := h g1
    obtain ⟨o2, h⟩ := h
    refine w_icmp_ge dX1_numberOf_7 rfl ⟨o2, g1⟩ (fun c => ?_) (fun c => ?_)
    · have h := h.1 c
      refine w_iconst dX1_numberOf_34 ?_
      exact k_iret dX1_numberOf_35 rfl h
    · have h := h.2 c
      refine w_iload_n dX1_numberOf_10 rfl ?_
      refine w_bipush dX1_numberOf_11 (by decide) ?_
      obtain ⟨o3, h⟩ := h
      refine w_icmp_ge dX1_numberOf_13 rfl ⟨o3, (by decide)⟩ (fun c => ?_) (fun c => ?_)
      · have h := h.1 c
        refine w_iconst dX1_numberOf_34 ?_
        exact k_iret dX1_numberOf_35 rfl h
      · have h := h.2 c
        refine w_aload_n dX1_numberOf_16 rfl ?_
        refine w_getR dX1_numberOf_17 fX1_9 rfl rfl rfl ?_
        refine w_iload_n dX1_numberOf_20 rfl ?_
        obtain ⟨o4, h⟩ := h
        refine w_iald (x := (M (5 + 1) x2.toNat)) dX1_numberOf_21 rfl o4 rfl (fun g5 => ?_)
        have h := h g5
        refine w_iload_n dX1_numberOf_22 rfl ?_
        obtain ⟨o6, h⟩ := h
        refine w_icmp_ne dX1_numberOf_23 rfl ⟨g5, o6⟩ (fun c => ?_) (fun c => ?_)
        · have h := h.1 c
          refine w_iinc dX1_numberOf_28 rfl (by decide) ?_
          refine w_goto dX1_numberOf_31 rfl ?_
          exact k_pick [1, 2, 0] rfl h
        · have h := h.2 c
          refine w_iload_n dX1_numberOf_26 rfl ?_
          exact k_iret dX1_numberOf_27 rfl h
  · refine w_iload_n dX1_numberOf_2 rfl ?_
    refine w_aload_n dX1_numberOf_3 rfl ?_
    refine w_getI (x := (M 21 1)) dX1_numberOf_4 fX1_57 rfl rfl rfl (fun g1 => ?_)
    have h := h g1
    obtain ⟨o2, h⟩ := h
    refine w_icmp_ge dX1_numberOf_7 rfl ⟨o2, g1⟩ (fun c => ?_) (fun c => ?_)
    · have h := h.1 c
      refine w_iconst dX1_numberOf_34 ?_
      exact k_iret dX1_numberOf_35 rfl h
    · have h := h.2 c
      refine w_iload_n dX1_numberOf_10 rfl ?_
      refine w_bipush dX1_numberOf_11 (by decide) ?_
      obtain ⟨o3, h⟩ := h
      refine w_icmp_ge dX1_numberOf_13 rfl ⟨o3, (by decide)⟩ (fun c => ?_) (fun c => ?_)
      · have h := h.1 c
        refine w_iconst dX1_numberOf_34 ?_
        exact k_iret dX1_numberOf_35 rfl h
      · have h := h.2 c
        refine w_aload_n dX1_numberOf_16 rfl ?_
        refine w_getR dX1_numberOf_17 fX1_9 rfl rfl rfl ?_
        refine w_iload_n dX1_numberOf_20 rfl ?_
        obtain ⟨o4, h⟩ := h
        refine w_iald (x := (M (21 + 1) x2.toNat)) dX1_numberOf_21 rfl o4 rfl (fun g5 => ?_)
        have h := h g5
        refine w_iload_n dX1_numberOf_22 rfl ?_
        obtain ⟨o6, h⟩ := h
        refine w_icmp_ne dX1_numberOf_23 rfl ⟨g5, o6⟩ (fun c => ?_) (fun c => ?_)
        · have h := h.1 c
          refine w_iinc dX1_numberOf_28 rfl (by decide) ?_
          refine w_goto dX1_numberOf_31 rfl ?_
          exact k_pick [1, 2, 0] rfl h
        · have h := h.2 c
          refine w_iload_n dX1_numberOf_26 rfl ?_
          exact k_iret dX1_numberOf_27 rfl h
theorem vX1_addLatch_0 {E : Scr} {f : Mem → Prop} {M : Mem} (x1 x2 : Int) (h : ((iR (M 5 1)) → (((M 5 1) ≥ 8 → f M) ∧ ((M 5 1) < 8 → ((iR (M 5 1)) → (0 ≤ (M 5 1) ∧ (M 5 1) < 8) ∧ (iR x1) ∧ ((iR (M 5 2)) → ((iR (M 5 1)) → ((iR (M 5 1)) → (iR ((M 5 1) + 1)) ∧ f (upM (upM (upM M 6 ((M 5 1).toNat) x1) 5 2 (bOr (M 5 2) (bShl x2 (M 5 1)))) 5 1 ((M 5 1) + 1)))))))))) : CV E mX1_addLatch [pR 5, pI x1, pI x2] M f := by
  refine (show KW E mX1_addLatch (qV f) M 0 [(0, pR 5), (1, pI x1), (2, pI x2)] [] from ?_)
  refine w_aload_n dX1_addLatch_0 rfl ?_
  refine w_getI (x := (M 5 1)) dX1_addLatch_1 fX1_57 rfl rfl rfl (fun g1 => ?_)
  have h := h g1
  refine w_bipush dX1_addLatch_4 (by decide) ?_
  refine w_icmp_ge dX1_addLatch_6 rfl ⟨g1, (by decide)⟩ (fun c => ?_) (fun c => ?_)
  · have h := h.1 c
    exact k_vret dX1_addLatch_44 rfl h
  · have h := h.2 c
    refine w_aload_n dX1_addLatch_9 rfl ?_
    refine w_getR dX1_addLatch_10 fX1_9 rfl rfl rfl ?_
    refine w_aload_n dX1_addLatch_13 rfl ?_
    refine w_getI (x := (M 5 1)) dX1_addLatch_14 fX1_57 rfl rfl rfl (fun g2 => ?_)
    have h := h g2
    refine w_iload_n dX1_addLatch_17 rfl ?_
    obtain ⟨o3, h⟩ := h
    obtain ⟨o4, h⟩ := h
    refine w_iast dX1_addLatch_18 rfl o3 o4 ?_
    refine w_aload_n dX1_addLatch_19 rfl ?_
    refine w_dup dX1_addLatch_20 rfl ?_
    refine w_getI (x := (M 5 2)) dX1_addLatch_21 fX1_60 rfl rfl rfl (fun g5 => ?_)
    have h := h g5
    refine w_iload_n dX1_addLatch_24 rfl ?_
    refine w_aload_n dX1_addLatch_25 rfl ?_
    refine w_getI (x := (M 5 1)) dX1_addLatch_26 fX1_57 rfl rfl rfl (fun g6 => ?_)
    have h := h g6
    refine w_ishl dX1_addLatch_29 ?_
    refine w_ior dX1_addLatch_30 ?_
    refine w_putI dX1_addLatch_31 (Or.inl ⟨rfl, fX1_60⟩) rfl rfl (bOr_r _ _) ?_
    refine w_aload_n dX1_addLatch_34 rfl ?_
    refine w_dup dX1_addLatch_35 rfl ?_
    refine w_getI (x := (M 5 1)) dX1_addLatch_36 fX1_57 rfl rfl rfl (fun g7 => ?_)
    have h := h g7
    refine w_iconst dX1_addLatch_39 ?_
    refine w_iadd dX1_addLatch_40 ?_
    obtain ⟨o8, h⟩ := h
    refine w_putI dX1_addLatch_41 (Or.inl ⟨rfl, fX1_57⟩) rfl rfl o8 ?_
    exact k_vret dX1_addLatch_44 rfl h
theorem vX1_doesLean_0 {E : Scr} {f : Int → Mem → Prop} {M : Mem} (x1 : Int) (h : (iR x1) ∧ ((x1 < 0 → f 0 M) ∧ (x1 ≥ 0 → (iR x1) ∧ ((x1 ≥ 8 → f 0 M) ∧ (x1 < 8 → ((iR (M 5 5)) → (((bAnd (bShr (M 5 5) x1) 1) = 0 → f 0 M) ∧ ((bAnd (bShr (M 5 5) x1) 1) ≠ 0 → f 1 M)))))))) : CI E mX1_doesLean [pR 5, pI x1] M f := by
  refine (show KW E mX1_doesLean (qI f) M 0 [(0, pR 5), (1, pI x1)] [] from ?_)
  refine w_iload_n dX1_doesLean_0 rfl ?_
  obtain ⟨o1, h⟩ := h
  refine w_if_lt dX1_doesLean_1 rfl o1 (fun c => ?_) (fun c => ?_)
  · have h := h.1 c
    refine w_iconst dX1_doesLean_25 ?_
    exact k_zret dX1_doesLean_26 rfl (by decide) h
  · have h := h.2 c
    refine w_iload_n dX1_doesLean_4 rfl ?_
    refine w_bipush dX1_doesLean_5 (by decide) ?_
    obtain ⟨o2, h⟩ := h
    refine w_icmp_ge dX1_doesLean_7 rfl ⟨o2, (by decide)⟩ (fun c => ?_) (fun c => ?_)
    · have h := h.1 c
      refine w_iconst dX1_doesLean_25 ?_
      exact k_zret dX1_doesLean_26 rfl (by decide) h
    · have h := h.2 c
      refine w_aload_n dX1_doesLean_10 rfl ?_
      refine w_getI (x := (M 5 5)) dX1_doesLean_11 fX1_66 rfl rfl rfl (fun g3 => ?_)
      have h := h g3
      refine w_iload_n dX1_doesLean_14 rfl ?_
      refine w_ishr dX1_doesLean_15 ?_
      refine w_iconst dX1_doesLean_16 ?_
      refine w_iand dX1_doesLean_17 ?_
      refine w_if_eq dX1_doesLean_18 rfl (bAnd_r _ _) (fun c => ?_) (fun c => ?_)
      · have h := h.1 c
        refine w_iconst dX1_doesLean_25 ?_
        exact k_zret dX1_doesLean_26 rfl (by decide) h
      · have h := h.2 c
        refine w_iconst dX1_doesLean_21 ?_
        refine w_goto dX1_doesLean_22 rfl ?_
        exact k_zret dX1_doesLean_26 rfl (by decide) h
theorem vX1_leantOn_0 {E : Scr} {f : Int → Mem → Prop} {M : Mem} (x1 : Int) (h : (iR x1) ∧ ((x1 < 0 → f 0 M) ∧ (x1 ≥ 0 → (iR x1) ∧ ((x1 ≥ 8 → f 0 M) ∧ (x1 < 8 → (0 ≤ x1 ∧ x1 < 8) ∧ ((iR (M 9 x1.toNat)) → f (M 9 x1.toNat) M)))))) : CI E mX1_leantOn [pR 5, pI x1] M f := by
  refine (show KW E mX1_leantOn (qI f) M 0 [(0, pR 5), (1, pI x1)] [] from ?_)
  refine w_iload_n dX1_leantOn_0 rfl ?_
  obtain ⟨o1, h⟩ := h
  refine w_if_lt dX1_leantOn_1 rfl o1 (fun c => ?_) (fun c => ?_)
  · have h := h.1 c
    refine w_iconst dX1_leantOn_19 ?_
    exact k_iret dX1_leantOn_20 rfl h
  · have h := h.2 c
    refine w_iload_n dX1_leantOn_4 rfl ?_
    refine w_bipush dX1_leantOn_5 (by decide) ?_
    obtain ⟨o2, h⟩ := h
    refine w_icmp_ge dX1_leantOn_7 rfl ⟨o2, (by decide)⟩ (fun c => ?_) (fun c => ?_)
    · have h := h.1 c
      refine w_iconst dX1_leantOn_19 ?_
      exact k_iret dX1_leantOn_20 rfl h
    · have h := h.2 c
      refine w_aload_n dX1_leantOn_10 rfl ?_
      refine w_getR dX1_leantOn_11 fX1_21 rfl rfl rfl ?_
      refine w_iload_n dX1_leantOn_14 rfl ?_
      obtain ⟨o3, h⟩ := h
      refine w_iald (x := (M 9 x1.toNat)) dX1_leantOn_15 rfl o3 rfl (fun g4 => ?_)
      have h := h g4
      refine w_goto dX1_leantOn_16 rfl ?_
      exact k_iret dX1_leantOn_20 rfl h
theorem vX1_addLeant_0 {E : Scr} {f : Mem → Prop} {M : Mem} (x1 x2 : Int) (h : (iR x1) ∧ ((x1 < 0 → f M) ∧ (x1 ≥ 0 → (iR x1) ∧ ((x1 ≥ 8 → f M) ∧ (x1 < 8 → (0 ≤ x1 ∧ x1 < 8) ∧ ((iR (M 9 x1.toNat)) → (0 ≤ x1 ∧ x1 < 8) ∧ f (upM M 9 x1.toNat (bOr (M 9 x1.toNat) x2)))))))) : CV E mX1_addLeant [pR 5, pI x1, pI x2] M f := by
  refine (show KW E mX1_addLeant (qV f) M 0 [(0, pR 5), (1, pI x1), (2, pI x2)] [] from ?_)
  refine w_iload_n dX1_addLeant_0 rfl ?_
  obtain ⟨o1, h⟩ := h
  refine w_if_lt dX1_addLeant_1 rfl o1 (fun c => ?_) (fun c => ?_)
  · have h := h.1 c
    exact k_vret dX1_addLeant_20 rfl h
  · have h := h.2 c
    refine w_iload_n dX1_addLeant_4 rfl ?_
    refine w_bipush dX1_addLeant_5 (by decide) ?_
    obtain ⟨o2, h⟩ := h
    refine w_icmp_ge dX1_addLeant_7 rfl ⟨o2, (by decide)⟩ (fun c => ?_) (fun c => ?_)
    · have h := h.1 c
      exact k_vret dX1_addLeant_20 rfl h
    · have h := h.2 c
      refine w_aload_n dX1_addLeant_10 rfl ?_
      refine w_getR dX1_addLeant_11 fX1_21 rfl rfl rfl ?_
      refine w_iload_n dX1_addLeant_14 rfl ?_
      refine w_dup2 dX1_addLeant_15 ⟨rfl, rfl⟩ ?_
      obtain ⟨o3, h⟩ := h
      refine w_iald (x := (M 9 x1.toNat)) dX1_addLeant_16 rfl o3 rfl (fun g4 => ?_)
      have h := h g4
      refine w_iload_n dX1_addLeant_17 rfl ?_
      refine w_ior dX1_addLeant_18 ?_
      obtain ⟨o5, h⟩ := h
      refine w_iast dX1_addLeant_19 rfl o5 (bOr_r _ _) ?_
      exact k_vret dX1_addLeant_20 rfl h
theorem vX1_addLean_0 {E : Scr} {f : Mem → Prop} {M : Mem} (x1 x2 : Int) (h : (CI E mX1_has [pR 5, pI x1] M (fun r1 M2 => (iR r1) ∧ ((r1 = 0 → f M2) ∧ (r1 ≠ 0 → ((iR (M2 5 4)) → (((M2 5 4) ≥ 8 → f M2) ∧ ((M2 5 4) < 8 → (0 ≤ (2 * x1) ∧ (2 * x1) < 16) ∧ (iR x2) ∧ ((iR (M2 15 3)) → (0 ≤ ((2 * x1) + 1) ∧ ((2 * x1) + 1) < 16) ∧ ((iR (M2 5 4)) → (0 ≤ (M2 5 4) ∧ (M2 5 4) < 8) ∧ (iR x1) ∧ ((iR (M2 5 4)) → (iR ((M2 5 4) + 1)) ∧ ((iR (M2 5 5)) → f (upM (upM (upM (upM (upM M2 8 ((2 * x1).toNat) x2) 8 (((2 * x1) + 1).toNat) (M2 15 3)) 7 ((M2 5 4).toNat) x1) 5 4 ((M2 5 4) + 1)) 5 5 (bOr (M2 5 5) (bShl 1 x1))))))))))))))) : CV E mX1_addLean [pR 5, pI x1, pI x2] M f := by
  refine (show KW E mX1_addLean (qV f) M 0 [(0, pR 5), (1, pI x1), (2, pI x2)] [] from ?_)
  refine w_aload_n dX1_addLean_0 rfl ?_
  refine w_iload_n dX1_addLean_1 rfl ?_
  refine k_vI (as := [pI x1]) dX1_addLean_2 kX1_90 ⟨⟨Nat.le_of_ble_eq_true rfl, rfl, rfl⟩, Nat.le_of_ble_eq_true rfl⟩ rfl (by decide) rfl (Nat.le_of_ble_eq_true rfl) h ?_
  intro r1 M2 h
  obtain ⟨o3, h⟩ := h
  refine w_if_eq dX1_addLean_5 rfl o3 (fun c => ?_) (fun c => ?_)
  · have h := h.1 c
    exact k_vret dX1_addLean_75 rfl h
  · have h := h.2 c
    refine w_aload_n dX1_addLean_8 rfl ?_
    refine w_getI (x := (M2 5 4)) dX1_addLean_9 fX1_63 rfl rfl rfl (fun g4 => ?_)
    have h := h g4
    refine w_bipush dX1_addLean_12 (by decide) ?_
    refine w_icmp_ge dX1_addLean_14 rfl ⟨g4, (by decide)⟩ (fun c => ?_) (fun c => ?_)
    · have h := h.1 c
      exact k_vret dX1_addLean_75 rfl h
    · have h := h.2 c
      refine w_aload_n dX1_addLean_17 rfl ?_
      refine w_getR dX1_addLean_18 fX1_18 rfl rfl rfl ?_
      refine w_iconst dX1_addLean_21 ?_
      refine w_iload_n dX1_addLean_22 rfl ?_
      refine w_imul dX1_addLean_23 ?_
      refine w_iload_n dX1_addLean_24 rfl ?_
      obtain ⟨o5, h⟩ := h
      obtain ⟨o6, h⟩ := h
      refine w_iast dX1_addLean_25 rfl o5 o6 ?_
      refine w_aload_n dX1_addLean_26 rfl ?_
      refine w_getR dX1_addLean_27 fX1_18 rfl rfl rfl ?_
      refine w_iconst dX1_addLean_30 ?_
      refine w_iload_n dX1_addLean_31 rfl ?_
      refine w_imul dX1_addLean_32 ?_
      refine w_iconst dX1_addLean_33 ?_
      refine w_iadd dX1_addLean_34 ?_
      refine w_aload_n dX1_addLean_35 rfl ?_
      refine w_getR dX1_addLean_36 fX1_42 rfl rfl rfl ?_
      refine w_getI (x := (M2 15 3)) dX1_addLean_39 fX1_87 rfl rfl rfl (fun g7 => ?_)
      have h := h g7
      obtain ⟨o8, h⟩ := h
      refine w_iast dX1_addLean_42 rfl o8 g7 ?_
      refine w_aload_n dX1_addLean_43 rfl ?_
      refine w_getR dX1_addLean_44 fX1_15 rfl rfl rfl ?_
      refine w_aload_n dX1_addLean_47 rfl ?_
      refine w_getI (x := (M2 5 4)) dX1_addLean_48 fX1_63 rfl rfl rfl (fun g9 => ?_)
      have h := h g9
      refine w_iload_n dX1_addLean_51 rfl ?_
      obtain ⟨o10, h⟩ := h
      obtain ⟨o11, h⟩ := h
      refine w_iast dX1_addLean_52 rfl o10 o11 ?_
      refine w_aload_n dX1_addLean_53 rfl ?_
      refine w_dup dX1_addLean_54 rfl ?_
      refine w_getI (x := (M2 5 4)) dX1_addLean_55 fX1_63 rfl rfl rfl (fun g12 => ?_)
      have h := h g12
      refine w_iconst dX1_addLean_58 ?_
      refine w_iadd dX1_addLean_59 ?_
      obtain ⟨o13, h⟩ := h
      refine w_putI dX1_addLean_60 (Or.inl ⟨rfl, fX1_63⟩) rfl rfl o13 ?_
      refine w_aload_n dX1_addLean_63 rfl ?_
      refine w_dup dX1_addLean_64 rfl ?_
      refine w_getI (x := (M2 5 5)) dX1_addLean_65 fX1_66 rfl rfl rfl (fun g14 => ?_)
      have h := h g14
      refine w_iconst dX1_addLean_68 ?_
      refine w_iload_n dX1_addLean_69 rfl ?_
      refine w_ishl dX1_addLean_70 ?_
      refine w_ior dX1_addLean_71 ?_
      refine w_putI dX1_addLean_72 (Or.inl ⟨rfl, fX1_66⟩) rfl rfl (bOr_r _ _) ?_
      exact k_vret dX1_addLean_75 rfl h
theorem vX1_addPush_0 {E : Scr} {f : Mem → Prop} {M : Mem} (x1 x2 : Int) (h : ((iR (M 5 10)) → (((M 5 10) ≥ 16 → f M) ∧ ((M 5 10) < 16 → ((iR (M 5 10)) → (0 ≤ (M 5 10) ∧ (M 5 10) < 16) ∧ (iR x1) ∧ ((iR (M 5 10)) → (0 ≤ (M 5 10) ∧ (M 5 10) < 16) ∧ (iR x2) ∧ ((iR (M 5 10)) → (iR ((M 5 10) + 1)) ∧ f (upM (upM (upM M 11 ((M 5 10).toNat) x1) 12 ((M 5 10).toNat) x2) 5 10 ((M 5 10) + 1))))))))) : CV E mX1_addPush [pR 5, pI x1, pI x2] M f := by
  refine (show KW E mX1_addPush (qV f) M 0 [(0, pR 5), (1, pI x1), (2, pI x2)] [] from ?_)
  refine w_aload_n dX1_addPush_0 rfl ?_
  refine w_getI (x := (M 5 10)) dX1_addPush_1 fX1_75 rfl rfl rfl (fun g1 => ?_)
  have h := h g1
  refine w_bipush dX1_addPush_4 (by decide) ?_
  refine w_icmp_ge dX1_addPush_6 rfl ⟨g1, (by decide)⟩ (fun c => ?_) (fun c => ?_)
  · have h := h.1 c
    exact k_vret dX1_addPush_39 rfl h
  · have h := h.2 c
    refine w_aload_n dX1_addPush_9 rfl ?_
    refine w_getR dX1_addPush_10 fX1_27 rfl rfl rfl ?_
    refine w_aload_n dX1_addPush_13 rfl ?_
    refine w_getI (x := (M 5 10)) dX1_addPush_14 fX1_75 rfl rfl rfl (fun g2 => ?_)
    have h := h g2
    refine w_iload_n dX1_addPush_17 rfl ?_
    obtain ⟨o3, h⟩ := h
    obtain ⟨o4, h⟩ := h
    refine w_iast dX1_addPush_18 rfl o3 o4 ?_
    refine w_aload_n dX1_addPush_19 rfl ?_
    refine w_getR dX1_addPush_20 fX1_30 rfl rfl rfl ?_
    refine w_aload_n dX1_addPush_23 rfl ?_
    refine w_getI (x := (M 5 10)) dX1_addPush_24 fX1_75 rfl rfl rfl (fun g5 => ?_)
    have h := h g5
    refine w_iload_n dX1_addPush_27 rfl ?_
    obtain ⟨o6, h⟩ := h
    obtain ⟨o7, h⟩ := h
    refine w_iast dX1_addPush_28 rfl o6 o7 ?_
    refine w_aload_n dX1_addPush_29 rfl ?_
    refine w_dup dX1_addPush_30 rfl ?_
    refine w_getI (x := (M 5 10)) dX1_addPush_31 fX1_75 rfl rfl rfl (fun g8 => ?_)
    have h := h g8
    refine w_iconst dX1_addPush_34 ?_
    refine w_iadd dX1_addPush_35 ?_
    obtain ⟨o9, h⟩ := h
    refine w_putI dX1_addPush_36 (Or.inl ⟨rfl, fX1_75⟩) rfl rfl o9 ?_
    exact k_vret dX1_addPush_39 rfl h
theorem vX1_addOil_0 {E : Scr} {f : Mem → Prop} {M : Mem} (x1 : Int) (h : ((iR (M 5 13)) → (((M 5 13) ≥ 4 → f M) ∧ ((M 5 13) < 4 → ((iR (M 5 13)) → (0 ≤ (M 5 13) ∧ (M 5 13) < 4) ∧ (iR x1) ∧ ((iR (M 5 13)) → (iR ((M 5 13) + 1)) ∧ f (upM (upM M 13 ((M 5 13).toNat) x1) 5 13 ((M 5 13) + 1)))))))) : CV E mX1_addOil [pR 5, pI x1] M f := by
  refine (show KW E mX1_addOil (qV f) M 0 [(0, pR 5), (1, pI x1)] [] from ?_)
  refine w_aload_n dX1_addOil_0 rfl ?_
  refine w_getI (x := (M 5 13)) dX1_addOil_1 fX1_78 rfl rfl rfl (fun g1 => ?_)
  have h := h g1
  refine w_iconst dX1_addOil_4 ?_
  refine w_icmp_ge dX1_addOil_5 rfl ⟨g1, (by decide)⟩ (fun c => ?_) (fun c => ?_)
  · have h := h.1 c
    exact k_vret dX1_addOil_28 rfl h
  · have h := h.2 c
    refine w_aload_n dX1_addOil_8 rfl ?_
    refine w_getR dX1_addOil_9 fX1_33 rfl rfl rfl ?_
    refine w_aload_n dX1_addOil_12 rfl ?_
    refine w_getI (x := (M 5 13)) dX1_addOil_13 fX1_78 rfl rfl rfl (fun g2 => ?_)
    have h := h g2
    refine w_iload_n dX1_addOil_16 rfl ?_
    obtain ⟨o3, h⟩ := h
    obtain ⟨o4, h⟩ := h
    refine w_iast dX1_addOil_17 rfl o3 o4 ?_
    refine w_aload_n dX1_addOil_18 rfl ?_
    refine w_dup dX1_addOil_19 rfl ?_
    refine w_getI (x := (M 5 13)) dX1_addOil_20 fX1_78 rfl rfl rfl (fun g5 => ?_)
    have h := h g5
    refine w_iconst dX1_addOil_23 ?_
    refine w_iadd dX1_addOil_24 ?_
    obtain ⟨o6, h⟩ := h
    refine w_putI dX1_addOil_25 (Or.inl ⟨rfl, fX1_78⟩) rfl rfl o6 ?_
    exact k_vret dX1_addOil_28 rfl h
theorem vX1_oiled_0 {E : Scr} {f : Int → Mem → Prop} {M : Mem} (x1 : Int) (h : (KW E mX1_oiled (qI f) M 2 [(0, pR 21), (1, pI x1), (2, pI 0)] [])) : CI E mX1_oiled [pR 21, pI x1] M f := by
  refine (show KW E mX1_oiled (qI f) M 0 [(0, pR 21), (1, pI x1)] [] from ?_)
  refine w_iconst dX1_oiled_0 ?_
  refine w_istore_n dX1_oiled_1 (by decide) ?_
  exact k_pick [1, 2, 0] rfl h
theorem vX1_oiled_2 {E : Scr} {f : Int → Mem → Prop} {M : Mem} (x1 x2 : Int) (h : ((iR (M 21 13)) → (iR x2) ∧ ((x2 ≥ (M 21 13) → f 0 M) ∧ (x2 < (M 21 13) → (iR x2) ∧ ((x2 ≥ 4 → f 0 M) ∧ (x2 < 4 → (0 ≤ x2 ∧ x2 < 4) ∧ ((iR (M 29 x2.toNat)) → (iR x1) ∧ (((M 29 x2.toNat) ≠ x1 → (KW E mX1_oiled (qI f) M 2 [(0, pR 21), (1, pI x1), (2, pI (x2 + 1))] [])) ∧ ((M 29 x2.toNat) = x1 → f 1 M))))))))) : KW E mX1_oiled (qI f) M 2 [(0, pR 21), (1, pI x1), (2, pI x2)] [] := by
  refine w_iload_n dX1_oiled_2 rfl ?_
  refine w_aload_n dX1_oiled_3 rfl ?_
  refine w_getI (x := (M 21 13)) dX1_oiled_4 fX1_78 rfl rfl rfl (fun g1 => ?_)
  have h := h g1
  obtain ⟨o2, h⟩ := h
  refine w_icmp_ge dX1_oiled_7 rfl ⟨o2, g1⟩ (fun c => ?_) (fun c => ?_)
  · have h := h.1 c
    refine w_iconst dX1_oiled_33 ?_
    exact k_zret dX1_oiled_34 rfl (by decide) h
  · have h := h.2 c
    refine w_iload_n dX1_oiled_10 rfl ?_
    refine w_iconst dX1_oiled_11 ?_
    obtain ⟨o3, h⟩ := h
    refine w_icmp_ge dX1_oiled_12 rfl ⟨o3, (by decide)⟩ (fun c => ?_) (fun c => ?_)
    · have h := h.1 c
      refine w_iconst dX1_oiled_33 ?_
      exact k_zret dX1_oiled_34 rfl (by decide) h
    · have h := h.2 c
      refine w_aload_n dX1_oiled_15 rfl ?_
      refine w_getR dX1_oiled_16 fX1_33 rfl rfl rfl ?_
      refine w_iload_n dX1_oiled_19 rfl ?_
      obtain ⟨o4, h⟩ := h
      refine w_iald (x := (M 29 x2.toNat)) dX1_oiled_20 rfl o4 rfl (fun g5 => ?_)
      have h := h g5
      refine w_iload_n dX1_oiled_21 rfl ?_
      obtain ⟨o6, h⟩ := h
      refine w_icmp_ne dX1_oiled_22 rfl ⟨g5, o6⟩ (fun c => ?_) (fun c => ?_)
      · have h := h.1 c
        refine w_iinc dX1_oiled_27 rfl (by decide) ?_
        refine w_goto dX1_oiled_30 rfl ?_
        exact k_pick [1, 2, 0] rfl h
      · have h := h.2 c
        refine w_iconst dX1_oiled_25 ?_
        exact k_zret dX1_oiled_26 rfl (by decide) h
theorem vX1_hasLaw_0 {E : Scr} {f : Int → Mem → Prop} {M : Mem} (x1 : Int) {dd : Nat} (hd : dd = 5 ∨ dd = 21) (h : (iR x1) ∧ ((x1 < 0 → f 0 M) ∧ (x1 ≥ 0 → (iR x1) ∧ ((x1 ≥ 3 → f 0 M) ∧ (x1 < 3 → (0 ≤ ((2 * x1) + 1) ∧ ((2 * x1) + 1) < 6) ∧ ((iR (M (dd + 9) (((2 * x1) + 1).toNat))) → (0 ≤ (2 * x1) ∧ (2 * x1) < 6) ∧ ((iR (M (dd + 9) ((2 * x1).toNat))) → (((M (dd + 9) (((2 * x1) + 1).toNat)) ≤ (M (dd + 9) ((2 * x1).toNat)) → f 0 M) ∧ ((M (dd + 9) (((2 * x1) + 1).toNat)) > (M (dd + 9) ((2 * x1).toNat)) → f 1 M))))))))) : CI E mX1_hasLaw [pR dd, pI x1] M f := by
  rcases hd with rfl | rfl
  · refine (show KW E mX1_hasLaw (qI f) M 0 [(0, pR 5), (1, pI x1)] [] from ?_)
    refine w_iload_n dX1_hasLaw_0 rfl ?_
    obtain ⟨o1, h⟩ := h
    refine w_if_lt dX1_hasLaw_1 rfl o1 (fun c => ?_) (fun c => ?_)
    · have h := h.1 c
      refine w_iconst dX1_hasLaw_34 ?_
      exact k_zret dX1_hasLaw_35 rfl (by decide) h
    · have h := h.2 c
      refine w_iload_n dX1_hasLaw_4 rfl ?_
      refine w_iconst dX1_hasLaw_5 ?_
      obtain ⟨o2, h⟩ := h
      refine w_icmp_ge dX1_hasLaw_6 rfl ⟨o2, (by decide)⟩ (fun c => ?_) (fun c => ?_)
      · have h := h.1 c
        refine w_iconst dX1_hasLaw_34 ?_
        exact k_zret dX1_hasLaw_35 rfl (by decide) h
      · have h := h.2 c
        refine w_aload_n dX1_hasLaw_9 rfl ?_
        refine w_getR dX1_hasLaw_10 fX1_36 rfl rfl rfl ?_
        refine w_iconst dX1_hasLaw_13 ?_
        refine w_iload_n dX1_hasLaw_14 rfl ?_
        refine w_imul dX1_hasLaw_15 ?_
        refine w_iconst dX1_hasLaw_16 ?_
        refine w_iadd dX1_hasLaw_17 ?_
        obtain ⟨o3, h⟩ := h
        refine w_iald (x := (M (5 + 9) (((2 * x1) + 1).toNat))) dX1_hasLaw_18 rfl o3 rfl (fun g4 => ?_)
        have h := h g4
        refine w_aload_n dX1_hasLaw_19 rfl ?_
        refine w_getR dX1_hasLaw_20 fX1_36 rfl rfl rfl ?_
        refine w_iconst dX1_hasLaw_23 ?_
        refine w_iload_n dX1_hasLaw_24 rfl ?_
        refine w_imul dX1_hasLaw_25 ?_
        obtain ⟨o5, h⟩ := h
        refine w_iald (x := (M (5 + 9) ((2 * x1).toNat))) dX1_hasLaw_26 rfl o5 rfl (fun g6 => ?_)
        have h := h g6
        refine w_icmp_le dX1_hasLaw_27 rfl ⟨g4, g6⟩ (fun c => ?_) (fun c => ?_)
        · have h := h.1 c
          refine w_iconst dX1_hasLaw_34 ?_
          exact k_zret dX1_hasLaw_35 rfl (by decide) h
        · have h := h.2 c
          refine w_iconst dX1_hasLaw_30 ?_
          refine w_goto dX1_hasLaw_31 rfl ?_
          exact k_zret dX1_hasLaw_35 rfl (by decide) h
  · refine (show KW E mX1_hasLaw (qI f) M 0 [(0, pR 21), (1, pI x1)] [] from ?_)
    refine w_iload_n dX1_hasLaw_0 rfl ?_
    obtain ⟨o1, h⟩ := h
    refine w_if_lt dX1_hasLaw_1 rfl o1 (fun c => ?_) (fun c => ?_)
    · have h := h.1 c
      refine w_iconst dX1_hasLaw_34 ?_
      exact k_zret dX1_hasLaw_35 rfl (by decide) h
    · have h := h.2 c
      refine w_iload_n dX1_hasLaw_4 rfl ?_
      refine w_iconst dX1_hasLaw_5 ?_
      obtain ⟨o2, h⟩ := h
      refine w_icmp_ge dX1_hasLaw_6 rfl ⟨o2, (by decide)⟩ (fun c => ?_) (fun c => ?_)
      · have h := h.1 c
        refine w_iconst dX1_hasLaw_34 ?_
        exact k_zret dX1_hasLaw_35 rfl (by decide) h
      · have h := h.2 c
        refine w_aload_n dX1_hasLaw_9 rfl ?_
        refine w_getR dX1_hasLaw_10 fX1_36 rfl rfl rfl ?_
        refine w_iconst dX1_hasLaw_13 ?_
        refine w_iload_n dX1_hasLaw_14 rfl ?_
        refine w_imul dX1_hasLaw_15 ?_
        refine w_iconst dX1_hasLaw_16 ?_
        refine w_iadd dX1_hasLaw_17 ?_
        obtain ⟨o3, h⟩ := h
        refine w_iald (x := (M (21 + 9) (((2 * x1) + 1).toNat))) dX1_hasLaw_18 rfl o3 rfl (fun g4 => ?_)
        have h := h g4
        refine w_aload_n dX1_hasLaw_19 rfl ?_
        refine w_getR dX1_hasLaw_20 fX1_36 rfl rfl rfl ?_
        refine w_iconst dX1_hasLaw_23 ?_
        refine w_iload_n dX1_hasLaw_24 rfl ?_
        refine w_imul dX1_hasLaw_25 ?_
        obtain ⟨o5, h⟩ := h
        refine w_iald (x := (M (21 + 9) ((2 * x1).toNat))) dX1_hasLaw_26 rfl o5 rfl (fun g6 => ?_)
        have h := h g6
        refine w_icmp_le dX1_hasLaw_27 rfl ⟨g4, g6⟩ (fun c => ?_) (fun c => ?_)
        · have h := h.1 c
          refine w_iconst dX1_hasLaw_34 ?_
          exact k_zret dX1_hasLaw_35 rfl (by decide) h
        · have h := h.2 c
          refine w_iconst dX1_hasLaw_30 ?_
          refine w_goto dX1_hasLaw_31 rfl ?_
          exact k_zret dX1_hasLaw_35 rfl (by decide) h
theorem vX1_addLaw_0 {E : Scr} {f : Mem → Prop} {M : Mem} (x1 x2 : Int) (h : (iR x1) ∧ ((x1 < 0 → f M) ∧ (x1 ≥ 0 → (iR x1) ∧ ((x1 ≥ 3 → f M) ∧ (x1 < 3 → (0 ≤ (2 * x1) ∧ (2 * x1) < 6) ∧ (iR x2) ∧ ((iR (M 15 3)) → (0 ≤ ((2 * x1) + 1) ∧ ((2 * x1) + 1) < 6) ∧ f (upM (upM M 14 ((2 * x1).toNat) x2) 14 (((2 * x1) + 1).toNat) (M 15 3)))))))) : CV E mX1_addLaw [pR 5, pI x1, pI x2] M f := by
  refine (show KW E mX1_addLaw (qV f) M 0 [(0, pR 5), (1, pI x1), (2, pI x2)] [] from ?_)
  refine w_iload_n dX1_addLaw_0 rfl ?_
  obtain ⟨o1, h⟩ := h
  refine w_if_lt dX1_addLaw_1 rfl o1 (fun c => ?_) (fun c => ?_)
  · have h := h.1 c
    exact k_vret dX1_addLaw_35 rfl h
  · have h := h.2 c
    refine w_iload_n dX1_addLaw_4 rfl ?_
    refine w_iconst dX1_addLaw_5 ?_
    obtain ⟨o2, h⟩ := h
    refine w_icmp_ge dX1_addLaw_6 rfl ⟨o2, (by decide)⟩ (fun c => ?_) (fun c => ?_)
    · have h := h.1 c
      exact k_vret dX1_addLaw_35 rfl h
    · have h := h.2 c
      refine w_aload_n dX1_addLaw_9 rfl ?_
      refine w_getR dX1_addLaw_10 fX1_36 rfl rfl rfl ?_
      refine w_iconst dX1_addLaw_13 ?_
      refine w_iload_n dX1_addLaw_14 rfl ?_
      refine w_imul dX1_addLaw_15 ?_
      refine w_iload_n dX1_addLaw_16 rfl ?_
      obtain ⟨o3, h⟩ := h
      obtain ⟨o4, h⟩ := h
      refine w_iast dX1_addLaw_17 rfl o3 o4 ?_
      refine w_aload_n dX1_addLaw_18 rfl ?_
      refine w_getR dX1_addLaw_19 fX1_36 rfl rfl rfl ?_
      refine w_iconst dX1_addLaw_22 ?_
      refine w_iload_n dX1_addLaw_23 rfl ?_
      refine w_imul dX1_addLaw_24 ?_
      refine w_iconst dX1_addLaw_25 ?_
      refine w_iadd dX1_addLaw_26 ?_
      refine w_aload_n dX1_addLaw_27 rfl ?_
      refine w_getR dX1_addLaw_28 fX1_42 rfl rfl rfl ?_
      refine w_getI (x := (M 15 3)) dX1_addLaw_31 fX1_87 rfl rfl rfl (fun g5 => ?_)
      have h := h g5
      obtain ⟨o6, h⟩ := h
      refine w_iast dX1_addLaw_34 rfl o6 g5 ?_
      exact k_vret dX1_addLaw_35 rfl h
theorem vX1_all_0 {E : Scr} {f : Int → Mem → Prop} {M : Mem} {dd : Nat} (hd : dd = 5 ∨ dd = 21) (h : ((iR (M dd 1)) → f ((bShl 1 (M dd 1)) - 1) M)) : CI E mX1_all [pR dd] M f := by
  rcases hd with rfl | rfl
  · refine (show KW E mX1_all (qI f) M 0 [(0, pR 5)] [] from ?_)
    refine w_iconst dX1_all_0 ?_
    refine w_aload_n dX1_all_1 rfl ?_
    refine w_getI (x := (M 5 1)) dX1_all_2 fX1_57 rfl rfl rfl (fun g1 => ?_)
    have h := h g1
    refine w_ishl dX1_all_5 ?_
    refine w_iconst dX1_all_6 ?_
    refine w_isub dX1_all_7 ?_
    exact k_iret dX1_all_8 rfl h
  · refine (show KW E mX1_all (qI f) M 0 [(0, pR 21)] [] from ?_)
    refine w_iconst dX1_all_0 ?_
    refine w_aload_n dX1_all_1 rfl ?_
    refine w_getI (x := (M 21 1)) dX1_all_2 fX1_57 rfl rfl rfl (fun g1 => ?_)
    have h := h g1
    refine w_ishl dX1_all_5 ?_
    refine w_iconst dX1_all_6 ?_
    refine w_isub dX1_all_7 ?_
    exact k_iret dX1_all_8 rfl h
theorem vX1_settle_0 {E : Scr} {f : Mem → Prop} {M : Mem} (h : (KW E mX1_settle (qV f) M 2 [(0, pR 5), (1, pI 0)] [])) : CV E mX1_settle [pR 5] M f := by
  refine (show KW E mX1_settle (qV f) M 0 [(0, pR 5)] [] from ?_)
  refine w_iconst dX1_settle_0 ?_
  refine w_istore_n dX1_settle_1 (by decide) ?_
  exact k_pick [1, 0] rfl h
theorem vX1_settle_2 {E : Scr} {f : Mem → Prop} {M : Mem} (x1 : Int) (h : ((iR (M 5 1)) → (iR x1) ∧ ((x1 ≥ (bShl 1 (M 5 1)) → f M) ∧ (x1 < (bShl 1 (M 5 1)) → (iR x1) ∧ ((x1 ≥ 256 → f M) ∧ (x1 < 256 → (CI E mJ6_bitCount_0f7a4 [pI x1] M (fun r4 M5 => (CI E mX1_openBy [pR 5, pI x1, pI r4] M5 (fun r6 M7 => (CI E mX1_openBy [pR 5, pI x1, pI (r4 - 1)] M7 (fun r8 M9 => (0 ≤ x1 ∧ x1 < 256) ∧ (KW E mX1_settle (qV f) (upM M9 10 x1.toNat (bOr (bAnd r6 (bXor x1 (-1))) (bAnd r8 x1))) 2 [(0, pR 5), (1, pI (x1 + 1))] []))))))))))))) : KW E mX1_settle (qV f) M 2 [(0, pR 5), (1, pI x1)] [] := by
  refine w_iload_n dX1_settle_2 rfl ?_
  refine w_iconst dX1_settle_3 ?_
  refine w_aload_n dX1_settle_4 rfl ?_
  refine w_getI (x := (M 5 1)) dX1_settle_5 fX1_57 rfl rfl rfl (fun g1 => ?_)
  have h := h g1
  refine w_ishl dX1_settle_8 ?_
  obtain ⟨o2, h⟩ := h
  refine w_icmp_ge dX1_settle_9 rfl ⟨o2, (bShl_r _ _)⟩ (fun c => ?_) (fun c => ?_)
  · have h := h.1 c
    exact k_vret dX1_settle_57 rfl h
  · have h := h.2 c
    refine w_iload_n dX1_settle_12 rfl ?_
    refine w_sipush dX1_settle_13 (by decide) ?_
    obtain ⟨o3, h⟩ := h
    refine w_icmp_ge dX1_settle_16 rfl ⟨o3, (by decide)⟩ (fun c => ?_) (fun c => ?_)
    · have h := h.1 c
      exact k_vret dX1_settle_57 rfl h
    · have h := h.2 c
      refine w_iload_n dX1_settle_19 rfl ?_
      refine k_sI (as := [pI x1]) dX1_settle_20 kX1_94 ⟨⟨Nat.le_of_ble_eq_true rfl, rfl, rfl⟩, Nat.le_of_ble_eq_true rfl⟩ rfl (Nat.le_of_ble_eq_true rfl) h ?_
      intro r4 M5 h
      refine w_istore_n dX1_settle_23 (by decide) ?_
      refine w_aload_n dX1_settle_24 rfl ?_
      refine w_getR dX1_settle_25 fX1_24 rfl rfl rfl ?_
      refine w_iload_n dX1_settle_28 rfl ?_
      refine w_aload_n dX1_settle_29 rfl ?_
      refine w_iload_n dX1_settle_30 rfl ?_
      refine w_iload_n dX1_settle_31 rfl ?_
      refine k_vI (as := [pI x1, pI r4]) dX1_settle_32 kX1_100 ⟨⟨Nat.le_of_ble_eq_true rfl, rfl, rfl⟩, Nat.le_of_ble_eq_true rfl⟩ rfl (by decide) rfl (Nat.le_of_ble_eq_true rfl) h ?_
      intro r6 M7 h
      refine w_iload_n dX1_settle_35 rfl ?_
      refine w_iconst dX1_settle_36 ?_
      refine w_ixor dX1_settle_37 ?_
      refine w_iand dX1_settle_38 ?_
      refine w_aload_n dX1_settle_39 rfl ?_
      refine w_iload_n dX1_settle_40 rfl ?_
      refine w_iload_n dX1_settle_41 rfl ?_
      refine w_iconst dX1_settle_42 ?_
      refine w_isub dX1_settle_43 ?_
      refine k_vI (as := [pI x1, pI (r4 - 1)]) dX1_settle_44 kX1_100 ⟨⟨Nat.le_of_ble_eq_true rfl, rfl, rfl⟩, Nat.le_of_ble_eq_true rfl⟩ rfl (by decide) rfl (Nat.le_of_ble_eq_true rfl) h ?_
      intro r8 M9 h
      refine w_iload_n dX1_settle_47 rfl ?_
      refine w_iand dX1_settle_48 ?_
      refine w_ior dX1_settle_49 ?_
      obtain ⟨o10, h⟩ := h
      refine w_iast dX1_settle_50 rfl o10 (bOr_r _ _) ?_
      refine w_iinc dX1_settle_51 rfl (by decide) ?_
      refine w_goto dX1_settle_54 rfl ?_
      exact k_pick [2, 0] rfl h
theorem vX1_openBy_0 {E : Scr} {f : Int → Mem → Prop} {M : Mem} (x1 x2 : Int) (h : (iR x1) ∧ (iR x2) ∧ (CI E mX1_all [pR 5] (upM (upM M 19 0 x1) 19 2 x2) (fun r3 M4 => ((iR (M4 5 5)) → (KW E mX1_openBy (qI f) (upM M4 19 3 (bAnd r3 (bXor (M4 5 5) (-1)))) 36 [(0, pR 5), (3, pI 0)] []))))) : CI E mX1_openBy [pR 5, pI x1, pI x2] M f := by
  refine (show KW E mX1_openBy (qI f) M 0 [(0, pR 5), (1, pI x1), (2, pI x2)] [] from ?_)
  refine w_aload_n dX1_openBy_0 rfl ?_
  refine w_getR dX1_openBy_1 fX1_49 rfl rfl rfl ?_
  refine w_iload_n dX1_openBy_4 rfl ?_
  obtain ⟨o1, h⟩ := h
  refine w_putI dX1_openBy_5 (Or.inl ⟨rfl, fX1_104⟩) rfl rfl o1 ?_
  refine w_aload_n dX1_openBy_8 rfl ?_
  refine w_getR dX1_openBy_9 fX1_49 rfl rfl rfl ?_
  refine w_iload_n dX1_openBy_12 rfl ?_
  obtain ⟨o2, h⟩ := h
  refine w_putI dX1_openBy_13 (Or.inl ⟨rfl, fX1_107⟩) rfl rfl o2 ?_
  refine w_aload_n dX1_openBy_16 rfl ?_
  refine w_getR dX1_openBy_17 fX1_49 rfl rfl rfl ?_
  refine w_aload_n dX1_openBy_20 rfl ?_
  refine k_vI (as := []) dX1_openBy_21 kX1_110 ⟨⟨Nat.le_of_ble_eq_true rfl, rfl, rfl⟩, Nat.le_of_ble_eq_true rfl⟩ rfl (by decide) rfl (Nat.le_of_ble_eq_true rfl) h ?_
  intro r3 M4 h
  refine w_aload_n dX1_openBy_24 rfl ?_
  refine w_getI (x := (M4 5 5)) dX1_openBy_25 fX1_66 rfl rfl rfl (fun g5 => ?_)
  have h := h g5
  refine w_iconst dX1_openBy_28 ?_
  refine w_ixor dX1_openBy_29 ?_
  refine w_iand dX1_openBy_30 ?_
  refine w_putI dX1_openBy_31 (Or.inl ⟨rfl, fX1_114⟩) rfl rfl (bAnd_r _ _) ?_
  refine w_iconst dX1_openBy_34 ?_
  refine w_istore_n dX1_openBy_35 (by decide) ?_
  exact k_pick [1, 0] rfl h
theorem vX1_openBy_36 {E : Scr} {f : Int → Mem → Prop} {M : Mem} (x3 : Int) (h : ((iR (M 5 4)) → (iR x3) ∧ ((x3 ≥ (M 5 4) → ((iR (M 19 3)) → f (M 19 3) M)) ∧ (x3 < (M 5 4) → (iR x3) ∧ ((x3 ≥ 8 → ((iR (M 19 3)) → f (M 19 3) M)) ∧ (x3 < 8 → (0 ≤ x3 ∧ x3 < 8) ∧ ((iR (M 7 x3.toNat)) → (CI E mX1_has [pR 5, pI (M 7 x3.toNat)] M (fun r8 M9 => (iR r8) ∧ ((r8 = 0 → (KW E mX1_openBy (qI f) M9 36 [(0, pR 5), (3, pI (x3 + 1))] [])) ∧ (r8 ≠ 0 → (0 ≤ (2 * (M 7 x3.toNat)) ∧ (2 * (M 7 x3.toNat)) < 16) ∧ ((iR (M9 8 ((2 * (M 7 x3.toNat)).toNat))) → (0 ≤ ((2 * (M 7 x3.toNat)) + 1) ∧ ((2 * (M 7 x3.toNat)) + 1) < 16) ∧ ((iR (M9 8 (((2 * (M 7 x3.toNat)) + 1).toNat))) → (CL E mX2_worth [pR 15, pI (M9 8 ((2 * (M 7 x3.toNat)).toNat)), pI (M9 8 (((2 * (M 7 x3.toNat)) + 1).toNat)), pR 19] M9 (fun r15 M16 => (lR r15) ∧ ((r15 = 0 → (KW E mX1_openBy (qI f) M16 36 [(0, pR 5), (3, pI (x3 + 1))] [])) ∧ (r15 ≠ 0 → ((iR (M16 19 3)) → (KW E mX1_openBy (qI f) (upM M16 19 3 (bOr (M16 19 3) (bShl 1 (M 7 x3.toNat)))) 36 [(0, pR 5), (3, pI (x3 + 1))] []))))))))))))))))))) : KW E mX1_openBy (qI f) M 36 [(0, pR 5), (3, pI x3)] [] := by
  refine w_iload_n dX1_openBy_36 rfl ?_
  refine w_aload_n dX1_openBy_37 rfl ?_
  refine w_getI (x := (M 5 4)) dX1_openBy_38 fX1_63 rfl rfl rfl (fun g1 => ?_)
  have h := h g1
  obtain ⟨o2, h⟩ := h
  refine w_icmp_ge dX1_openBy_41 rfl ⟨o2, g1⟩ (fun c => ?_) (fun c => ?_)
  · have h := h.1 c
    refine w_aload_n dX1_openBy_125 rfl ?_
    refine w_getR dX1_openBy_126 fX1_49 rfl rfl rfl ?_
    refine w_getI (x := (M 19 3)) dX1_openBy_129 fX1_114 rfl rfl rfl (fun g3 => ?_)
    have h := h g3
    exact k_iret dX1_openBy_132 rfl h
  · have h := h.2 c
    refine w_iload_n dX1_openBy_44 rfl ?_
    refine w_bipush dX1_openBy_45 (by decide) ?_
    obtain ⟨o4, h⟩ := h
    refine w_icmp_ge dX1_openBy_47 rfl ⟨o4, (by decide)⟩ (fun c => ?_) (fun c => ?_)
    · have h := h.1 c
      refine w_aload_n dX1_openBy_125 rfl ?_
      refine w_getR dX1_openBy_126 fX1_49 rfl rfl rfl ?_
      refine w_getI (x := (M 19 3)) dX1_openBy_129 fX1_114 rfl rfl rfl (fun g5 => ?_)
      have h := h g5
      exact k_iret dX1_openBy_132 rfl h
    · have h := h.2 c
      refine w_aload_n dX1_openBy_50 rfl ?_
      refine w_getR dX1_openBy_51 fX1_15 rfl rfl rfl ?_
      refine w_iload_n dX1_openBy_54 rfl ?_
      obtain ⟨o6, h⟩ := h
      refine w_iald (x := (M 7 x3.toNat)) dX1_openBy_55 rfl o6 rfl (fun g7 => ?_)
      have h := h g7
      refine w_istore dX1_openBy_56 (by decide) ?_
      refine w_aload_n dX1_openBy_58 rfl ?_
      refine w_iload dX1_openBy_59 rfl ?_
      refine k_vI (as := [pI (M 7 x3.toNat)]) dX1_openBy_61 kX1_90 ⟨⟨Nat.le_of_ble_eq_true rfl, rfl, rfl⟩, Nat.le_of_ble_eq_true rfl⟩ rfl (by decide) rfl (Nat.le_of_ble_eq_true rfl) h ?_
      intro r8 M9 h
      obtain ⟨o10, h⟩ := h
      refine w_if_eq dX1_openBy_64 rfl o10 (fun c => ?_) (fun c => ?_)
      · have h := h.1 c
        refine w_iinc dX1_openBy_119 rfl (by decide) ?_
        refine w_goto dX1_openBy_122 rfl ?_
        exact k_pick [2, 0] rfl h
      · have h := h.2 c
        refine w_aload_n dX1_openBy_67 rfl ?_
        refine w_getR dX1_openBy_68 fX1_42 rfl rfl rfl ?_
        refine w_aload_n dX1_openBy_71 rfl ?_
        refine w_getR dX1_openBy_72 fX1_18 rfl rfl rfl ?_
        refine w_iconst dX1_openBy_75 ?_
        refine w_iload dX1_openBy_76 rfl ?_
        refine w_imul dX1_openBy_78 ?_
        obtain ⟨o11, h⟩ := h
        refine w_iald (x := (M9 8 ((2 * (M 7 x3.toNat)).toNat))) dX1_openBy_79 rfl o11 rfl (fun g12 => ?_)
        have h := h g12
        refine w_aload_n dX1_openBy_80 rfl ?_
        refine w_getR dX1_openBy_81 fX1_18 rfl rfl rfl ?_
        refine w_iconst dX1_openBy_84 ?_
        refine w_iload dX1_openBy_85 rfl ?_
        refine w_imul dX1_openBy_87 ?_
        refine w_iconst dX1_openBy_88 ?_
        refine w_iadd dX1_openBy_89 ?_
        obtain ⟨o13, h⟩ := h
        refine w_iald (x := (M9 8 (((2 * (M 7 x3.toNat)) + 1).toNat))) dX1_openBy_90 rfl o13 rfl (fun g14 => ?_)
        have h := h g14
        refine w_aload_n dX1_openBy_91 rfl ?_
        refine w_getR dX1_openBy_92 fX1_49 rfl rfl rfl ?_
        refine k_vL (as := [pI (M9 8 ((2 * (M 7 x3.toNat)).toNat)), pI (M9 8 (((2 * (M 7 x3.toNat)) + 1).toNat)), pR 19]) dX1_openBy_95 kX1_116 ⟨⟨Nat.le_of_ble_eq_true rfl, rfl, rfl⟩, Nat.le_of_ble_eq_true rfl⟩ rfl (by decide) rfl (Nat.le_of_ble_eq_true rfl) h ?_
        intro r15 M16 h
        refine w_lconst (x := 0) dX1_openBy_98 rfl ?_
        obtain ⟨o17, h⟩ := h
        refine w_lcmp_eq dX1_openBy_99 dX1_openBy_100 rfl ⟨o17, (by decide)⟩ (fun c => ?_) (fun c => ?_)
        · have h := h.1 c
          refine w_iinc dX1_openBy_119 rfl (by decide) ?_
          refine w_goto dX1_openBy_122 rfl ?_
          exact k_pick [2, 0] rfl h
        · have h := h.2 c
          refine w_aload_n dX1_openBy_103 rfl ?_
          refine w_getR dX1_openBy_104 fX1_49 rfl rfl rfl ?_
          refine w_dup dX1_openBy_107 rfl ?_
          refine w_getI (x := (M16 19 3)) dX1_openBy_108 fX1_114 rfl rfl rfl (fun g18 => ?_)
          have h := h g18
          refine w_iconst dX1_openBy_111 ?_
          refine w_iload dX1_openBy_112 rfl ?_
          refine w_ishl dX1_openBy_114 ?_
          refine w_ior dX1_openBy_115 ?_
          refine w_putI dX1_openBy_116 (Or.inl ⟨rfl, fX1_114⟩) rfl rfl (bOr_r _ _) ?_
          refine w_iinc dX1_openBy_119 rfl (by decide) ?_
          refine w_goto dX1_openBy_122 rfl ?_
          exact k_pick [2, 0] rfl h
theorem vX1_movable_0 {E : Scr} {f : Int → Mem → Prop} {M : Mem} (x1 x2 : Int) (h : (CI E mX1_hasRow [pR 21, pI x1] M (fun r1 M2 => (iR r1) ∧ ((r1 = 0 → f 0 M2) ∧ (r1 ≠ 0 → (0 ≤ x1 ∧ x1 < 256) ∧ ((iR (M2 26 x1.toNat)) → f (bAnd (M2 26 x1.toNat) (bXor x2 (-1))) M2)))))) : CI E mX1_movable [pR 21, pI x1, pI x2] M f := by
  refine (show KW E mX1_movable (qI f) M 0 [(0, pR 21), (1, pI x1), (2, pI x2)] [] from ?_)
  refine w_aload_n dX1_movable_0 rfl ?_
  refine w_iload_n dX1_movable_1 rfl ?_
  refine k_vI (as := [pI x1]) dX1_movable_2 kX1_120 ⟨⟨Nat.le_of_ble_eq_true rfl, rfl, rfl⟩, Nat.le_of_ble_eq_true rfl⟩ rfl (by decide) rfl (Nat.le_of_ble_eq_true rfl) h ?_
  intro r1 M2 h
  obtain ⟨o3, h⟩ := h
  refine w_if_eq dX1_movable_5 rfl o3 (fun c => ?_) (fun c => ?_)
  · have h := h.1 c
    refine w_iconst dX1_movable_21 ?_
    exact k_iret dX1_movable_22 rfl h
  · have h := h.2 c
    refine w_aload_n dX1_movable_8 rfl ?_
    refine w_getR dX1_movable_9 fX1_24 rfl rfl rfl ?_
    refine w_iload_n dX1_movable_12 rfl ?_
    obtain ⟨o4, h⟩ := h
    refine w_iald (x := (M2 26 x1.toNat)) dX1_movable_13 rfl o4 rfl (fun g5 => ?_)
    have h := h g5
    refine w_iload_n dX1_movable_14 rfl ?_
    refine w_iconst dX1_movable_15 ?_
    refine w_ixor dX1_movable_16 ?_
    refine w_iand dX1_movable_17 ?_
    refine w_goto dX1_movable_18 rfl ?_
    exact k_iret dX1_movable_22 rfl h
theorem vX2_add_0 {E : Scr} {f : Mem → Prop} {M : Mem} (x1 x2 : Int) (h : ((iR (M 15 3)) → (((M 15 3) ≥ 64 → f M) ∧ ((M 15 3) < 64 → ((iR (M 15 3)) → (0 ≤ (M 15 3) ∧ (M 15 3) < 64) ∧ (iR x1) ∧ ((iR (M 15 3)) → (0 ≤ (M 15 3) ∧ (M 15 3) < 64) ∧ (iR x2) ∧ ((iR (M 15 3)) → (iR ((M 15 3) + 1)) ∧ f (upM (upM (upM M 16 ((M 15 3).toNat) x1) 17 ((M 15 3).toNat) x2) 15 3 ((M 15 3) + 1))))))))) : CV E mX2_add [pR 15, pI x1, pI x2] M f := by
  refine (show KW E mX2_add (qV f) M 0 [(0, pR 15), (1, pI x1), (2, pI x2)] [] from ?_)
  refine w_aload_n dX2_add_0 rfl ?_
  refine w_getI (x := (M 15 3)) dX2_add_1 fX2_22 rfl rfl rfl (fun g1 => ?_)
  have h := h g1
  refine w_bipush dX2_add_4 (by decide) ?_
  refine w_icmp_ge dX2_add_6 rfl ⟨g1, (by decide)⟩ (fun c => ?_) (fun c => ?_)
  · have h := h.1 c
    exact k_vret dX2_add_39 rfl h
  · have h := h.2 c
    refine w_aload_n dX2_add_9 rfl ?_
    refine w_getR dX2_add_10 fX2_9 rfl rfl rfl ?_
    refine w_aload_n dX2_add_13 rfl ?_
    refine w_getI (x := (M 15 3)) dX2_add_14 fX2_22 rfl rfl rfl (fun g2 => ?_)
    have h := h g2
    refine w_iload_n dX2_add_17 rfl ?_
    obtain ⟨o3, h⟩ := h
    obtain ⟨o4, h⟩ := h
    refine w_iast dX2_add_18 rfl o3 o4 ?_
    refine w_aload_n dX2_add_19 rfl ?_
    refine w_getR dX2_add_20 fX2_15 rfl rfl rfl ?_
    refine w_aload_n dX2_add_23 rfl ?_
    refine w_getI (x := (M 15 3)) dX2_add_24 fX2_22 rfl rfl rfl (fun g5 => ?_)
    have h := h g5
    refine w_iload_n dX2_add_27 rfl ?_
    obtain ⟨o6, h⟩ := h
    obtain ⟨o7, h⟩ := h
    refine w_iast dX2_add_28 rfl o6 o7 ?_
    refine w_aload_n dX2_add_29 rfl ?_
    refine w_dup dX2_add_30 rfl ?_
    refine w_getI (x := (M 15 3)) dX2_add_31 fX2_22 rfl rfl rfl (fun g8 => ?_)
    have h := h g8
    refine w_iconst dX2_add_34 ?_
    refine w_iadd dX2_add_35 ?_
    obtain ⟨o9, h⟩ := h
    refine w_putI dX2_add_36 (Or.inl ⟨rfl, fX2_22⟩) rfl rfl o9 ?_
    exact k_vret dX2_add_39 rfl h
theorem vX2_worth_0 {E : Scr} {f : Int → Mem → Prop} {M : Mem} (x1 x2 : Int) {dd sc : Nat} (hd : (dd = 15 ∧ sc = 19) ∨ (dd = 31 ∧ sc = 43)) (h : (iR x1) ∧ ((x1 ≥ 0 → (KW E mX2_worth (qL f) M 14 [(0, pR dd), (2, pI x2), (3, pR sc), (4, pI 0), (5, pI x1)] [])) ∧ (x1 < 0 → f (-9223372036854775808) M))) : CL E mX2_worth [pR dd, pI x1, pI x2, pR sc] M f := by
  rcases hd with ⟨rfl, rfl⟩ | ⟨rfl, rfl⟩
  · refine (show KW E mX2_worth (qL f) M 0 [(0, pR 15), (1, pI x1), (2, pI x2), (3, pR 19)] [] from ?_)
    refine w_iload_n dX2_worth_0 rfl ?_
    obtain ⟨o1, h⟩ := h
    refine w_if_ge dX2_worth_1 rfl o1 (fun c => ?_) (fun c => ?_)
    · have h := h.1 c
      refine w_iconst dX2_worth_8 ?_
      refine w_istore dX2_worth_9 (by decide) ?_
      refine w_iload_n dX2_worth_11 rfl ?_
      refine w_istore dX2_worth_12 (by decide) ?_
      exact k_pick [2, 4, 5, 1, 0] rfl h
    · have h := h.2 c
      refine w_ldc2 dX2_worth_4 qX2_26 ?_
      exact k_lret dX2_worth_7 rfl h
  · refine (show KW E mX2_worth (qL f) M 0 [(0, pR 31), (1, pI x1), (2, pI x2), (3, pR 43)] [] from ?_)
    refine w_iload_n dX2_worth_0 rfl ?_
    obtain ⟨o1, h⟩ := h
    refine w_if_ge dX2_worth_1 rfl o1 (fun c => ?_) (fun c => ?_)
    · have h := h.1 c
      refine w_iconst dX2_worth_8 ?_
      refine w_istore dX2_worth_9 (by decide) ?_
      refine w_iload_n dX2_worth_11 rfl ?_
      refine w_istore dX2_worth_12 (by decide) ?_
      exact k_pick [2, 4, 5, 1, 0] rfl h
    · have h := h.2 c
      refine w_ldc2 dX2_worth_4 qX2_26 ?_
      exact k_lret dX2_worth_7 rfl h
theorem vX2_worth_14 {E : Scr} {f : Int → Mem → Prop} {M : Mem} (x2 x4 x5 : Int) {dd sc : Nat} (hd : (dd = 15 ∧ sc = 19) ∨ (dd = 31 ∧ sc = 43)) (h : (iR x5) ∧ (iR x2) ∧ ((x5 ≥ x2 → (iR x4) ∧ ((x4 ≠ 1 → f (-9223372036854775808) M) ∧ (x4 = 1 → ((lR (M (dd + 3) 0)) → f (M (dd + 3) 0) M)))) ∧ (x5 < x2 → (iR x5) ∧ ((x5 ≥ 64 → (iR x4) ∧ ((x4 ≠ 1 → f (-9223372036854775808) M) ∧ (x4 = 1 → ((lR (M (dd + 3) 0)) → f (M (dd + 3) 0) M)))) ∧ (x5 < 64 → (0 ≤ x5 ∧ x5 < 64) ∧ ((iR (M (dd + 1) x5.toNat)) → (CI E mX2_sidesOf [pI (M (dd + 1) x5.toNat)] M (fun r10 M11 => (iR x4) ∧ (iR r10) ∧ ((x4 < r10 → f (-9223372036854775808) M11) ∧ (x4 ≥ r10 → (iR x4) ∧ ((x4 < 64 → (iR r10) ∧ ((r10 ≠ 0 → (iR r10) ∧ ((r10 ≠ 1 → (iR ((x4 - r10) + 1)) ∧ ((((x4 - r10) + 1) ≥ 64 → (KW E mX2_worth (qL f) M11 173 [(0, pR dd), (2, pI x2), (3, pR sc), (4, pI (x4 - r10)), (5, pI x5)] [])) ∧ (((x4 - r10) + 1) < 64 → (0 ≤ x5 ∧ x5 < 64) ∧ ((iR (M11 (dd + 1) x5.toNat)) → (0 ≤ (x4 - r10) ∧ (x4 - r10) < 64) ∧ ((lR (M11 (dd + 3) ((x4 - r10).toNat))) → (0 ≤ ((x4 - r10) + 1) ∧ ((x4 - r10) + 1) < 64) ∧ ((lR (M11 (dd + 3) (((x4 - r10) + 1).toNat))) → (CL E mX2_joined [pI (M11 (dd + 1) x5.toNat), pL (M11 (dd + 3) ((x4 - r10).toNat)), pL (M11 (dd + 3) (((x4 - r10) + 1).toNat))] M11 (fun r24 M25 => (0 ≤ (x4 - r10) ∧ (x4 - r10) < 64) ∧ (lR r24) ∧ (KW E mX2_worth (qL f) (upM M25 (dd + 3) ((x4 - r10).toNat) r24) 173 [(0, pR dd), (2, pI x2), (3, pR sc), (4, pI (x4 - r10)), (5, pI x5)] []))))))))) ∧ (r10 = 1 → (0 ≤ (x4 - r10) ∧ (x4 - r10) < 64) ∧ ((lR (M11 (dd + 3) ((x4 - r10).toNat))) → (((M11 (dd + 3) ((x4 - r10).toNat)) ≠ 0 → (0 ≤ (x4 - r10) ∧ (x4 - r10) < 64) ∧ (KW E mX2_worth (qL f) (upM M11 (dd + 3) ((x4 - r10).toNat) 0) 173 [(0, pR dd), (2, pI x2), (3, pR sc), (4, pI (x4 - r10)), (5, pI x5)] [])) ∧ ((M11 (dd + 3) ((x4 - r10).toNat)) = 0 → (0 ≤ (x4 - r10) ∧ (x4 - r10) < 64) ∧ (KW E mX2_worth (qL f) (upM M11 (dd + 3) ((x4 - r10).toNat) 1) 173 [(0, pR dd), (2, pI x2), (3, pR sc), (4, pI (x4 - r10)), (5, pI x5)] []))))))) ∧ (r10 = 0 → (0 ≤ x5 ∧ x5 < 64) ∧ ((iR (M11 (dd + 1) x5.toNat)) → (0 ≤ x5 ∧ x5 < 64) ∧ ((iR (M11 (dd + 2) x5.toNat)) → (CI E mX6_leaf [pR sc, pI (M11 (dd + 1) x5.toNat), pI (M11 (dd + 2) x5.toNat)] M11 (fun r36 M37 => (iR r36) ∧ (0 ≤ (x4 - r10) ∧ (x4 - r10) < 64) ∧ (KW E mX2_worth (qL f) (upM M37 (dd + 3) ((x4 - r10).toNat) r36) 173 [(0, pR dd), (2, pI x2), (3, pR sc), (4, pI (x4 - r10)), (5, pI x5)] [])))))))) ∧ (x4 ≥ 64 → f (-9223372036854775808) M11)))))))))))) : KW E mX2_worth (qL f) M 14 [(0, pR dd), (2, pI x2), (3, pR sc), (4, pI x4), (5, pI x5)] [] := by
  rcases hd with ⟨rfl, rfl⟩ | ⟨rfl, rfl⟩
  · refine w_iload dX2_worth_14 rfl ?_
    refine w_iload_n dX2_worth_16 rfl ?_
    obtain ⟨o1, h⟩ := h
    obtain ⟨o2, h⟩ := h
    refine w_icmp_ge dX2_worth_17 rfl ⟨o1, o2⟩ (fun c => ?_) (fun c => ?_)
    · have h := h.1 c
      refine w_iload dX2_worth_200 rfl ?_
      refine w_iconst dX2_worth_202 ?_
      obtain ⟨o3, h⟩ := h
      refine w_icmp_ne dX2_worth_203 rfl ⟨o3, (by decide)⟩ (fun c => ?_) (fun c => ?_)
      · have h := h.1 c
        refine w_ldc2 dX2_worth_215 qX2_26 ?_
        exact k_lret dX2_worth_218 rfl h
      · have h := h.2 c
        refine w_aload_n dX2_worth_206 rfl ?_
        refine w_getR dX2_worth_207 fX2_18 rfl rfl rfl ?_
        refine w_iconst dX2_worth_210 ?_
        refine w_lald (x := (M (15 + 3) 0)) dX2_worth_211 rfl (by decide) rfl (fun g4 => ?_)
        have h := h g4
        refine w_goto dX2_worth_212 rfl ?_
        exact k_lret dX2_worth_218 rfl h
    · have h := h.2 c
      refine w_iload dX2_worth_20 rfl ?_
      refine w_bipush dX2_worth_22 (by decide) ?_
      obtain ⟨o5, h⟩ := h
      refine w_icmp_ge dX2_worth_24 rfl ⟨o5, (by decide)⟩ (fun c => ?_) (fun c => ?_)
      · have h := h.1 c
        refine w_iload dX2_worth_200 rfl ?_
        refine w_iconst dX2_worth_202 ?_
        obtain ⟨o6, h⟩ := h
        refine w_icmp_ne dX2_worth_203 rfl ⟨o6, (by decide)⟩ (fun c => ?_) (fun c => ?_)
        · have h := h.1 c
          refine w_ldc2 dX2_worth_215 qX2_26 ?_
          exact k_lret dX2_worth_218 rfl h
        · have h := h.2 c
          refine w_aload_n dX2_worth_206 rfl ?_
          refine w_getR dX2_worth_207 fX2_18 rfl rfl rfl ?_
          refine w_iconst dX2_worth_210 ?_
          refine w_lald (x := (M (15 + 3) 0)) dX2_worth_211 rfl (by decide) rfl (fun g7 => ?_)
          have h := h g7
          refine w_goto dX2_worth_212 rfl ?_
          exact k_lret dX2_worth_218 rfl h
      · have h := h.2 c
        refine w_aload_n dX2_worth_27 rfl ?_
        refine w_getR dX2_worth_28 fX2_9 rfl rfl rfl ?_
        refine w_iload dX2_worth_31 rfl ?_
        obtain ⟨o8, h⟩ := h
        refine w_iald (x := (M (15 + 1) x5.toNat)) dX2_worth_33 rfl o8 rfl (fun g9 => ?_)
        have h := h g9
        refine k_sI (as := [pI (M (15 + 1) x5.toNat)]) dX2_worth_34 kX2_28 ⟨⟨Nat.le_of_ble_eq_true rfl, rfl, rfl⟩, Nat.le_of_ble_eq_true rfl⟩ rfl (Nat.le_of_ble_eq_true rfl) h ?_
        intro r10 M11 h
        refine w_istore dX2_worth_37 (by decide) ?_
        refine w_iload dX2_worth_39 rfl ?_
        refine w_iload dX2_worth_41 rfl ?_
        obtain ⟨o12, h⟩ := h
        obtain ⟨o13, h⟩ := h
        refine w_icmp_lt dX2_worth_43 rfl ⟨o12, o13⟩ (fun c => ?_) (fun c => ?_)
        · have h := h.1 c
          refine w_ldc2 dX2_worth_53 qX2_26 ?_
          exact k_lret dX2_worth_56 rfl h
        · have h := h.2 c
          refine w_iload dX2_worth_46 rfl ?_
          refine w_bipush dX2_worth_48 (by decide) ?_
          obtain ⟨o14, h⟩ := h
          refine w_icmp_lt dX2_worth_50 rfl ⟨o14, (by decide)⟩ (fun c => ?_) (fun c => ?_)
          · have h := h.1 c
            refine w_iload dX2_worth_57 rfl ?_
            refine w_iload dX2_worth_59 rfl ?_
            refine w_isub dX2_worth_61 ?_
            refine w_istore dX2_worth_62 (by decide) ?_
            refine w_iload dX2_worth_64 rfl ?_
            obtain ⟨o15, h⟩ := h
            refine w_if_ne dX2_worth_66 rfl o15 (fun c => ?_) (fun c => ?_)
            · have h := h.1 c
              refine w_iload dX2_worth_98 rfl ?_
              refine w_iconst dX2_worth_100 ?_
              obtain ⟨o16, h⟩ := h
              refine w_icmp_ne dX2_worth_101 rfl ⟨o16, (by decide)⟩ (fun c => ?_) (fun c => ?_)
              · have h := h.1 c
                refine w_iload dX2_worth_131 rfl ?_
                refine w_iconst dX2_worth_133 ?_
                refine w_iadd dX2_worth_134 ?_
                refine w_bipush dX2_worth_135 (by decide) ?_
                obtain ⟨o17, h⟩ := h
                refine w_icmp_ge dX2_worth_137 rfl ⟨o17, (by decide)⟩ (fun c => ?_) (fun c => ?_)
                · have h := h.1 c
                  exact k_pick [2, 3, 4, 0, 5] rfl h
                · have h := h.2 c
                  refine w_aload_n dX2_worth_140 rfl ?_
                  refine w_getR dX2_worth_141 fX2_18 rfl rfl rfl ?_
                  refine w_iload dX2_worth_144 rfl ?_
                  refine w_aload_n dX2_worth_146 rfl ?_
                  refine w_getR dX2_worth_147 fX2_9 rfl rfl rfl ?_
                  refine w_iload dX2_worth_150 rfl ?_
                  obtain ⟨o18, h⟩ := h
                  refine w_iald (x := (M11 (15 + 1) x5.toNat)) dX2_worth_152 rfl o18 rfl (fun g19 => ?_)
                  have h := h g19
                  refine w_aload_n dX2_worth_153 rfl ?_
                  refine w_getR dX2_worth_154 fX2_18 rfl rfl rfl ?_
                  refine w_iload dX2_worth_157 rfl ?_
                  obtain ⟨o20, h⟩ := h
                  refine w_lald (x := (M11 (15 + 3) ((x4 - r10).toNat))) dX2_worth_159 rfl o20 rfl (fun g21 => ?_)
                  have h := h g21
                  refine w_aload_n dX2_worth_160 rfl ?_
                  refine w_getR dX2_worth_161 fX2_18 rfl rfl rfl ?_
                  refine w_iload dX2_worth_164 rfl ?_
                  refine w_iconst dX2_worth_166 ?_
                  refine w_iadd dX2_worth_167 ?_
                  obtain ⟨o22, h⟩ := h
                  refine w_lald (x := (M11 (15 + 3) (((x4 - r10) + 1).toNat))) dX2_worth_168 rfl o22 rfl (fun g23 => ?_)
                  have h := h g23
                  refine k_sL (as := [pI (M11 (15 + 1) x5.toNat), pL (M11 (15 + 3) ((x4 - r10).toNat)), pL (M11 (15 + 3) (((x4 - r10) + 1).toNat))]) dX2_worth_169 kX2_38 ⟨⟨Nat.le_of_ble_eq_true rfl, rfl, rfl⟩, Nat.le_of_ble_eq_true rfl⟩ rfl (Nat.le_of_ble_eq_true rfl) h ?_
                  intro r24 M25 h
                  obtain ⟨o26, h⟩ := h
                  obtain ⟨o27, h⟩ := h
                  refine w_last dX2_worth_172 rfl o26 o27 ?_
                  exact k_pick [2, 3, 4, 0, 5] rfl h
              · have h := h.2 c
                refine w_aload_n dX2_worth_104 rfl ?_
                refine w_getR dX2_worth_105 fX2_18 rfl rfl rfl ?_
                refine w_iload dX2_worth_108 rfl ?_
                refine w_aload_n dX2_worth_110 rfl ?_
                refine w_getR dX2_worth_111 fX2_18 rfl rfl rfl ?_
                refine w_iload dX2_worth_114 rfl ?_
                obtain ⟨o28, h⟩ := h
                refine w_lald (x := (M11 (15 + 3) ((x4 - r10).toNat))) dX2_worth_116 rfl o28 rfl (fun g29 => ?_)
                have h := h g29
                refine w_lconst (x := 0) dX2_worth_117 rfl ?_
                refine w_lcmp_ne dX2_worth_118 dX2_worth_119 rfl ⟨g29, (by decide)⟩ (fun c => ?_) (fun c => ?_)
                · have h := h.1 c
                  refine w_lconst (x := 0) dX2_worth_126 rfl ?_
                  obtain ⟨o30, h⟩ := h
                  refine w_last dX2_worth_127 rfl o30 (by decide) ?_
                  refine w_goto dX2_worth_128 rfl ?_
                  exact k_pick [2, 3, 4, 0, 5] rfl h
                · have h := h.2 c
                  refine w_lconst (x := 1) dX2_worth_122 rfl ?_
                  refine w_goto dX2_worth_123 rfl ?_
                  obtain ⟨o31, h⟩ := h
                  refine w_last dX2_worth_127 rfl o31 (by decide) ?_
                  refine w_goto dX2_worth_128 rfl ?_
                  exact k_pick [2, 3, 4, 0, 5] rfl h
            · have h := h.2 c
              refine w_aload_n dX2_worth_69 rfl ?_
              refine w_getR dX2_worth_70 fX2_18 rfl rfl rfl ?_
              refine w_iload dX2_worth_73 rfl ?_
              refine w_aload_n dX2_worth_75 rfl ?_
              refine w_aload_n dX2_worth_76 rfl ?_
              refine w_getR dX2_worth_77 fX2_9 rfl rfl rfl ?_
              refine w_iload dX2_worth_80 rfl ?_
              obtain ⟨o32, h⟩ := h
              refine w_iald (x := (M11 (15 + 1) x5.toNat)) dX2_worth_82 rfl o32 rfl (fun g33 => ?_)
              have h := h g33
              refine w_aload_n dX2_worth_83 rfl ?_
              refine w_getR dX2_worth_84 fX2_15 rfl rfl rfl ?_
              refine w_iload dX2_worth_87 rfl ?_
              obtain ⟨o34, h⟩ := h
              refine w_iald (x := (M11 (15 + 2) x5.toNat)) dX2_worth_89 rfl o34 rfl (fun g35 => ?_)
              have h := h g35
              refine k_vI (as := [pI (M11 (15 + 1) x5.toNat), pI (M11 (15 + 2) x5.toNat)]) dX2_worth_90 kX2_32 ⟨⟨Nat.le_of_ble_eq_true rfl, rfl, rfl⟩, Nat.le_of_ble_eq_true rfl⟩ rfl (by decide) rfl (Nat.le_of_ble_eq_true rfl) h ?_
              intro r36 M37 h
              obtain ⟨o38, h⟩ := h
              refine w_i2l dX2_worth_93 o38 ?_
              obtain ⟨o39, h⟩ := h
              refine w_last dX2_worth_94 rfl o39 (i2l_r o38) ?_
              refine w_goto dX2_worth_95 rfl ?_
              exact k_pick [2, 3, 4, 0, 5] rfl h
          · have h := h.2 c
            refine w_ldc2 dX2_worth_53 qX2_26 ?_
            exact k_lret dX2_worth_56 rfl h
  · refine w_iload dX2_worth_14 rfl ?_
    refine w_iload_n dX2_worth_16 rfl ?_
    obtain ⟨o1, h⟩ := h
    obtain ⟨o2, h⟩ := h
    refine w_icmp_ge dX2_worth_17 rfl ⟨o1, o2⟩ (fun c => ?_) (fun c => ?_)
    · have h := h.1 c
      refine w_iload dX2_worth_200 rfl ?_
      refine w_iconst dX2_worth_202 ?_
      obtain ⟨o3, h⟩ := h
      refine w_icmp_ne dX2_worth_203 rfl ⟨o3, (by decide)⟩ (fun c => ?_) (fun c => ?_)
      · have h := h.1 c
        refine w_ldc2 dX2_worth_215 qX2_26 ?_
        exact k_lret dX2_worth_218 rfl h
      · have h := h.2 c
        refine w_aload_n dX2_worth_206 rfl ?_
        refine w_getR dX2_worth_207 fX2_18 rfl rfl rfl ?_
        refine w_iconst dX2_worth_210 ?_
        refine w_lald (x := (M (31 + 3) 0)) dX2_worth_211 rfl (by decide) rfl (fun g4 => ?_)
        have h := h g4
        refine w_goto dX2_worth_212 rfl ?_
        exact k_lret dX2_worth_218 rfl h
    · have h := h.2 c
      refine w_iload dX2_worth_20 rfl ?_
      refine w_bipush dX2_worth_22 (by decide) ?_
      obtain ⟨o5, h⟩ := h
      refine w_icmp_ge dX2_worth_24 rfl ⟨o5, (by decide)⟩ (fun c => ?_) (fun c => ?_)
      · have h := h.1 c
        refine w_iload dX2_worth_200 rfl ?_
        refine w_iconst dX2_worth_202 ?_
        obtain ⟨o6, h⟩ := h
        refine w_icmp_ne dX2_worth_203 rfl ⟨o6, (by decide)⟩ (fun c => ?_) (fun c => ?_)
        · have h := h.1 c
          refine w_ldc2 dX2_worth_215 qX2_26 ?_
          exact k_lret dX2_worth_218 rfl h
        · have h := h.2 c
          refine w_aload_n dX2_worth_206 rfl ?_
          refine w_getR dX2_worth_207 fX2_18 rfl rfl rfl ?_
          refine w_iconst dX2_worth_210 ?_
          refine w_lald (x := (M (31 + 3) 0)) dX2_worth_211 rfl (by decide) rfl (fun g7 => ?_)
          have h := h g7
          refine w_goto dX2_worth_212 rfl ?_
          exact k_lret dX2_worth_218 rfl h
      · have h := h.2 c
        refine w_aload_n dX2_worth_27 rfl ?_
        refine w_getR dX2_worth_28 fX2_9 rfl rfl rfl ?_
        refine w_iload dX2_worth_31 rfl ?_
        obtain ⟨o8, h⟩ := h
        refine w_iald (x := (M (31 + 1) x5.toNat)) dX2_worth_33 rfl o8 rfl (fun g9 => ?_)
        have h := h g9
        refine k_sI (as := [pI (M (31 + 1) x5.toNat)]) dX2_worth_34 kX2_28 ⟨⟨Nat.le_of_ble_eq_true rfl, rfl, rfl⟩, Nat.le_of_ble_eq_true rfl⟩ rfl (Nat.le_of_ble_eq_true rfl) h ?_
        intro r10 M11 h
        refine w_istore dX2_worth_37 (by decide) ?_
        refine w_iload dX2_worth_39 rfl ?_
        refine w_iload dX2_worth_41 rfl ?_
        obtain ⟨o12, h⟩ := h
        obtain ⟨o13, h⟩ := h
        refine w_icmp_lt dX2_worth_43 rfl ⟨o12, o13⟩ (fun c => ?_) (fun c => ?_)
        · have h := h.1 c
          refine w_ldc2 dX2_worth_53 qX2_26 ?_
          exact k_lret dX2_worth_56 rfl h
        · have h := h.2 c
          refine w_iload dX2_worth_46 rfl ?_
          refine w_bipush dX2_worth_48 (by decide) ?_
          obtain ⟨o14, h⟩ := h
          refine w_icmp_lt dX2_worth_50 rfl ⟨o14, (by decide)⟩ (fun c => ?_) (fun c => ?_)
          · have h := h.1 c
            refine w_iload dX2_worth_57 rfl ?_
            refine w_iload dX2_worth_59 rfl ?_
            refine w_isub dX2_worth_61 ?_
            refine w_istore dX2_worth_62 (by decide) ?_
            refine w_iload dX2_worth_64 rfl ?_
            obtain ⟨o15, h⟩ := h
            refine w_if_ne dX2_worth_66 rfl o15 (fun c => ?_) (fun c => ?_)
            · have h := h.1 c
              refine w_iload dX2_worth_98 rfl ?_
              refine w_iconst dX2_worth_100 ?_
              obtain ⟨o16, h⟩ := h
              refine w_icmp_ne dX2_worth_101 rfl ⟨o16, (by decide)⟩ (fun c => ?_) (fun c => ?_)
              · have h := h.1 c
                refine w_iload dX2_worth_131 rfl ?_
                refine w_iconst dX2_worth_133 ?_
                refine w_iadd dX2_worth_134 ?_
                refine w_bipush dX2_worth_135 (by decide) ?_
                obtain ⟨o17, h⟩ := h
                refine w_icmp_ge dX2_worth_137 rfl ⟨o17, (by decide)⟩ (fun c => ?_) (fun c => ?_)
                · have h := h.1 c
                  exact k_pick [2, 3, 4, 0, 5] rfl h
                · have h := h.2 c
                  refine w_aload_n dX2_worth_140 rfl ?_
                  refine w_getR dX2_worth_141 fX2_18 rfl rfl rfl ?_
                  refine w_iload dX2_worth_144 rfl ?_
                  refine w_aload_n dX2_worth_146 rfl ?_
                  refine w_getR dX2_worth_147 fX2_9 rfl rfl rfl ?_
                  refine w_iload dX2_worth_150 rfl ?_
                  obtain ⟨o18, h⟩ := h
                  refine w_iald (x := (M11 (31 + 1) x5.toNat)) dX2_worth_152 rfl o18 rfl (fun g19 => ?_)
                  have h := h g19
                  refine w_aload_n dX2_worth_153 rfl ?_
                  refine w_getR dX2_worth_154 fX2_18 rfl rfl rfl ?_
                  refine w_iload dX2_worth_157 rfl ?_
                  obtain ⟨o20, h⟩ := h
                  refine w_lald (x := (M11 (31 + 3) ((x4 - r10).toNat))) dX2_worth_159 rfl o20 rfl (fun g21 => ?_)
                  have h := h g21
                  refine w_aload_n dX2_worth_160 rfl ?_
                  refine w_getR dX2_worth_161 fX2_18 rfl rfl rfl ?_
                  refine w_iload dX2_worth_164 rfl ?_
                  refine w_iconst dX2_worth_166 ?_
                  refine w_iadd dX2_worth_167 ?_
                  obtain ⟨o22, h⟩ := h
                  refine w_lald (x := (M11 (31 + 3) (((x4 - r10) + 1).toNat))) dX2_worth_168 rfl o22 rfl (fun g23 => ?_)
                  have h := h g23
                  refine k_sL (as := [pI (M11 (31 + 1) x5.toNat), pL (M11 (31 + 3) ((x4 - r10).toNat)), pL (M11 (31 + 3) (((x4 - r10) + 1).toNat))]) dX2_worth_169 kX2_38 ⟨⟨Nat.le_of_ble_eq_true rfl, rfl, rfl⟩, Nat.le_of_ble_eq_true rfl⟩ rfl (Nat.le_of_ble_eq_true rfl) h ?_
                  intro r24 M25 h
                  obtain ⟨o26, h⟩ := h
                  obtain ⟨o27, h⟩ := h
                  refine w_last dX2_worth_172 rfl o26 o27 ?_
                  exact k_pick [2, 3, 4, 0, 5] rfl h
              · have h := h.2 c
                refine w_aload_n dX2_worth_104 rfl ?_
                refine w_getR dX2_worth_105 fX2_18 rfl rfl rfl ?_
                refine w_iload dX2_worth_108 rfl ?_
                refine w_aload_n dX2_worth_110 rfl ?_
                refine w_getR dX2_worth_111 fX2_18 rfl rfl rfl ?_
                refine w_iload dX2_worth_114 rfl ?_
                obtain ⟨o28, h⟩ := h
                refine w_lald (x := (M11 (31 + 3) ((x4 - r10).toNat))) dX2_worth_116 rfl o28 rfl (fun g29 => ?_)
                have h := h g29
                refine w_lconst (x := 0) dX2_worth_117 rfl ?_
                refine w_lcmp_ne dX2_worth_118 dX2_worth_119 rfl ⟨g29, (by decide)⟩ (fun c => ?_) (fun c => ?_)
                · have h := h.1 c
                  refine w_lconst (x := 0) dX2_worth_126 rfl ?_
                  obtain ⟨o30, h⟩ := h
                  refine w_last dX2_worth_127 rfl o30 (by decide) ?_
                  refine w_goto dX2_worth_128 rfl ?_
                  exact k_pick [2, 3, 4, 0, 5] rfl h
                · have h := h.2 c
                  refine w_lconst (x := 1) dX2_worth_122 rfl ?_
                  refine w_goto dX2_worth_123 rfl ?_
                  obtain ⟨o31, h⟩ := h
                  refine w_last dX2_worth_127 rfl o31 (by decide) ?_
                  refine w_goto dX2_worth_128 rfl ?_
                  exact k_pick [2, 3, 4, 0, 5] rfl h
            · have h := h.2 c
              refine w_aload_n dX2_worth_69 rfl ?_
              refine w_getR dX2_worth_70 fX2_18 rfl rfl rfl ?_
              refine w_iload dX2_worth_73 rfl ?_
              refine w_aload_n dX2_worth_75 rfl ?_
              refine w_aload_n dX2_worth_76 rfl ?_
              refine w_getR dX2_worth_77 fX2_9 rfl rfl rfl ?_
              refine w_iload dX2_worth_80 rfl ?_
              obtain ⟨o32, h⟩ := h
              refine w_iald (x := (M11 (31 + 1) x5.toNat)) dX2_worth_82 rfl o32 rfl (fun g33 => ?_)
              have h := h g33
              refine w_aload_n dX2_worth_83 rfl ?_
              refine w_getR dX2_worth_84 fX2_15 rfl rfl rfl ?_
              refine w_iload dX2_worth_87 rfl ?_
              obtain ⟨o34, h⟩ := h
              refine w_iald (x := (M11 (31 + 2) x5.toNat)) dX2_worth_89 rfl o34 rfl (fun g35 => ?_)
              have h := h g35
              refine k_vI (as := [pI (M11 (31 + 1) x5.toNat), pI (M11 (31 + 2) x5.toNat)]) dX2_worth_90 kX2_32 ⟨⟨Nat.le_of_ble_eq_true rfl, rfl, rfl⟩, Nat.le_of_ble_eq_true rfl⟩ rfl (by decide) rfl (Nat.le_of_ble_eq_true rfl) h ?_
              intro r36 M37 h
              obtain ⟨o38, h⟩ := h
              refine w_i2l dX2_worth_93 o38 ?_
              obtain ⟨o39, h⟩ := h
              refine w_last dX2_worth_94 rfl o39 (i2l_r o38) ?_
              refine w_goto dX2_worth_95 rfl ?_
              exact k_pick [2, 3, 4, 0, 5] rfl h
          · have h := h.2 c
            refine w_ldc2 dX2_worth_53 qX2_26 ?_
            exact k_lret dX2_worth_56 rfl h
theorem vX2_worth_173 {E : Scr} {f : Int → Mem → Prop} {M : Mem} (x2 x4 x5 : Int) {dd sc : Nat} (hd : (dd = 15 ∧ sc = 19) ∨ (dd = 31 ∧ sc = 43)) (h : (0 ≤ x4 ∧ x4 < 64) ∧ ((lR (M (dd + 3) x4.toNat)) → (((M (dd + 3) x4.toNat) ≠ (-9223372036854775808) → (KW E mX2_worth (qL f) M 14 [(0, pR dd), (2, pI x2), (3, pR sc), (4, pI (x4 + 1)), (5, pI (x5 + 1))] [])) ∧ ((M (dd + 3) x4.toNat) = (-9223372036854775808) → f (-9223372036854775808) M)))) : KW E mX2_worth (qL f) M 173 [(0, pR dd), (2, pI x2), (3, pR sc), (4, pI x4), (5, pI x5)] [] := by
  rcases hd with ⟨rfl, rfl⟩ | ⟨rfl, rfl⟩
  · refine w_aload_n dX2_worth_173 rfl ?_
    refine w_getR dX2_worth_174 fX2_18 rfl rfl rfl ?_
    refine w_iload dX2_worth_177 rfl ?_
    obtain ⟨o1, h⟩ := h
    refine w_lald (x := (M (15 + 3) x4.toNat)) dX2_worth_179 rfl o1 rfl (fun g2 => ?_)
    have h := h g2
    refine w_ldc2 dX2_worth_180 qX2_26 ?_
    refine w_lcmp_ne dX2_worth_183 dX2_worth_184 rfl ⟨g2, (by decide)⟩ (fun c => ?_) (fun c => ?_)
    · have h := h.1 c
      refine w_iinc dX2_worth_191 rfl (by decide) ?_
      refine w_iinc dX2_worth_194 rfl (by decide) ?_
      refine w_goto dX2_worth_197 rfl ?_
      exact k_pick [2, 3, 4, 1, 0] rfl h
    · have h := h.2 c
      refine w_ldc2 dX2_worth_187 qX2_26 ?_
      exact k_lret dX2_worth_190 rfl h
  · refine w_aload_n dX2_worth_173 rfl ?_
    refine w_getR dX2_worth_174 fX2_18 rfl rfl rfl ?_
    refine w_iload dX2_worth_177 rfl ?_
    obtain ⟨o1, h⟩ := h
    refine w_lald (x := (M (31 + 3) x4.toNat)) dX2_worth_179 rfl o1 rfl (fun g2 => ?_)
    have h := h g2
    refine w_ldc2 dX2_worth_180 qX2_26 ?_
    refine w_lcmp_ne dX2_worth_183 dX2_worth_184 rfl ⟨g2, (by decide)⟩ (fun c => ?_) (fun c => ?_)
    · have h := h.1 c
      refine w_iinc dX2_worth_191 rfl (by decide) ?_
      refine w_iinc dX2_worth_194 rfl (by decide) ?_
      refine w_goto dX2_worth_197 rfl ?_
      exact k_pick [2, 3, 4, 1, 0] rfl h
    · have h := h.2 c
      refine w_ldc2 dX2_worth_187 qX2_26 ?_
      exact k_lret dX2_worth_190 rfl h
theorem vX2_sidesOf_0 {E : Scr} {f : Int → Mem → Prop} {M : Mem} (x0 : Int) (h : (iR x0) ∧ ((x0 ≠ 12 → (CI E mX10_rank [pI x0] M (fun r2 M3 => (iR r2) ∧ ((r2 ≠ 0 → f 2 M3) ∧ (r2 = 0 → f 0 M3))))) ∧ (x0 = 12 → f 1 M))) : CI E mX2_sidesOf [pI x0] M f := by
  refine (show KW E mX2_sidesOf (qI f) M 0 [(0, pI x0)] [] from ?_)
  refine w_iload_n dX2_sidesOf_0 rfl ?_
  refine w_bipush dX2_sidesOf_1 (by decide) ?_
  obtain ⟨o1, h⟩ := h
  refine w_icmp_ne dX2_sidesOf_3 rfl ⟨o1, (by decide)⟩ (fun c => ?_) (fun c => ?_)
  · have h := h.1 c
    refine w_iload_n dX2_sidesOf_8 rfl ?_
    refine k_sI (as := [pI x0]) dX2_sidesOf_9 kX2_42 ⟨⟨Nat.le_of_ble_eq_true rfl, rfl, rfl⟩, Nat.le_of_ble_eq_true rfl⟩ rfl (Nat.le_of_ble_eq_true rfl) h ?_
    intro r2 M3 h
    obtain ⟨o4, h⟩ := h
    refine w_if_ne dX2_sidesOf_12 rfl o4 (fun c => ?_) (fun c => ?_)
    · have h := h.1 c
      refine w_iconst dX2_sidesOf_19 ?_
      exact k_iret dX2_sidesOf_20 rfl h
    · have h := h.2 c
      refine w_iconst dX2_sidesOf_15 ?_
      refine w_goto dX2_sidesOf_16 rfl ?_
      exact k_iret dX2_sidesOf_20 rfl h
  · have h := h.2 c
    refine w_iconst dX2_sidesOf_6 ?_
    exact k_iret dX2_sidesOf_7 rfl h
theorem vX2_joined_0 {E : Scr} {f : Int → Mem → Prop} {M : Mem} (x0 x1 x3 : Int) (h : (iR x0) ∧ ((x0 = 10 → (lR x1) ∧ ((x1 ≠ 0 → f 1 M) ∧ (x1 = 0 → (lR x3) ∧ ((x3 = 0 → f 0 M) ∧ (x3 ≠ 0 → f 1 M))))) ∧ (x0 = 11 → (lR x1) ∧ ((x1 = 0 → f 0 M) ∧ (x1 ≠ 0 → (lR x3) ∧ ((x3 = 0 → f 0 M) ∧ (x3 ≠ 0 → f 1 M))))) ∧ (x0 = 12 → (KW E mX2_joined (qL f) M 268 [] [])) ∧ (x0 = 13 → (KW E mX2_joined (qL f) M 268 [] [])) ∧ (x0 = 14 → (KW E mX2_joined (qL f) M 268 [] [])) ∧ (x0 = 15 → (KW E mX2_joined (qL f) M 268 [] [])) ∧ (x0 = 16 → (KW E mX2_joined (qL f) M 268 [] [])) ∧ (x0 = 17 → (KW E mX2_joined (qL f) M 268 [] [])) ∧ (x0 = 18 → (KW E mX2_joined (qL f) M 268 [] [])) ∧ (x0 = 19 → (KW E mX2_joined (qL f) M 268 [] [])) ∧ (x0 = 20 → (KW E mX2_joined (qL f) M 268 [] [])) ∧ (x0 = 21 → (KW E mX2_joined (qL f) M 268 [] [])) ∧ (x0 = 22 → (KW E mX2_joined (qL f) M 268 [] [])) ∧ (x0 = 23 → (KW E mX2_joined (qL f) M 268 [] [])) ∧ (x0 = 24 → (KW E mX2_joined (qL f) M 268 [] [])) ∧ (x0 = 25 → (KW E mX2_joined (qL f) M 268 [] [])) ∧ (x0 = 26 → (KW E mX2_joined (qL f) M 268 [] [])) ∧ (x0 = 27 → (lR x1) ∧ (lR x3) ∧ ((x1 ≥ x3 → f 0 M) ∧ (x1 < x3 → f 1 M))) ∧ (x0 = 28 → (lR x1) ∧ (lR x3) ∧ ((x1 ≠ x3 → f 0 M) ∧ (x1 = x3 → f 1 M))) ∧ (x0 = 29 → (lR x1) ∧ (lR x3) ∧ ((x1 ≤ x3 → f 0 M) ∧ (x1 > x3 → f 1 M))) ∧ (x0 = 30 → (CL E mX2_within [pL (x1 + x3)] M (fun r12 M13 => f r12 M13))) ∧ (x0 = 31 → (CL E mX2_within [pL (x1 - x3)] M (fun r14 M15 => f r14 M15))) ∧ (x0 = 32 → (CL E mX2_product [pL x1, pL x3] M (fun r16 M17 => f r16 M17))) ∧ (x0 = 33 → (lR x3) ∧ ((x3 ≠ 0 → (lR x1) ∧ (lR x3) ∧ (x3 ≠ 0) ∧ f (Int.tdiv x1 x3) M) ∧ (x3 = 0 → f (-9223372036854775808) M))) ∧ (x0 = 34 → (lR x1) ∧ (lR x3) ∧ ((x1 > x3 → f 0 M) ∧ (x1 ≤ x3 → f 1 M))) ∧ (x0 = 35 → (lR x1) ∧ (lR x3) ∧ ((x1 = x3 → f 0 M) ∧ (x1 ≠ x3 → f 1 M))) ∧ (x0 = 36 → (lR x1) ∧ (lR x3) ∧ ((x1 < x3 → f 0 M) ∧ (x1 ≥ x3 → f 1 M))) ∧ (x0 < 10 ∨ 36 < x0 → (KW E mX2_joined (qL f) M 268 [] [])))) : CL E mX2_joined [pI x0, pL x1, pL x3] M f := by
  refine (show KW E mX2_joined (qL f) M 0 [(0, pI x0), (1, pL x1), (3, pL x3)] [] from ?_)
  refine w_iload_n dX2_joined_0 rfl ?_
  obtain ⟨o1, h⟩ := h
  refine w_tsw (tgs := [124, 142, 268, 268, 268, 268, 268, 268, 268, 268, 268, 268, 268, 268, 268, 268, 268, 160, 184, 220, 232, 239, 246, 252, 172, 196, 208]) (td := 268) dX2_joined_1 o1 rfl (by decide) rfl ?_ ?_
  · intro j hj hx
    match j, hj, hx with
    | 0, _, hx =>
      have h := h.1 (by simpa using hx)
      clear hx
      refine w_lload_n dX2_joined_124 rfl ?_
      refine w_lconst (x := 0) dX2_joined_125 rfl ?_
      obtain ⟨o2, h⟩ := h
      refine w_lcmp_ne dX2_joined_126 dX2_joined_127 rfl ⟨o2, (by decide)⟩ (fun c => ?_) (fun c => ?_)
      · have h := h.1 c
        refine w_lconst (x := 1) dX2_joined_136 rfl ?_
        refine w_goto dX2_joined_137 rfl ?_
        exact k_lret dX2_joined_141 rfl h
      · have h := h.2 c
        refine w_lload_n dX2_joined_130 rfl ?_
        refine w_lconst (x := 0) dX2_joined_131 rfl ?_
        obtain ⟨o3, h⟩ := h
        refine w_lcmp_eq dX2_joined_132 dX2_joined_133 rfl ⟨o3, (by decide)⟩ (fun c => ?_) (fun c => ?_)
        · have h := h.1 c
          refine w_lconst (x := 0) dX2_joined_140 rfl ?_
          exact k_lret dX2_joined_141 rfl h
        · have h := h.2 c
          refine w_lconst (x := 1) dX2_joined_136 rfl ?_
          refine w_goto dX2_joined_137 rfl ?_
          exact k_lret dX2_joined_141 rfl h
    | 1, _, hx =>
      have h := h.2.1 (by simpa using hx)
      clear hx
      refine w_lload_n dX2_joined_142 rfl ?_
      refine w_lconst (x := 0) dX2_joined_143 rfl ?_
      obtain ⟨o4, h⟩ := h
      refine w_lcmp_eq dX2_joined_144 dX2_joined_145 rfl ⟨o4, (by decide)⟩ (fun c => ?_) (fun c => ?_)
      · have h := h.1 c
        refine w_lconst (x := 0) dX2_joined_158 rfl ?_
        exact k_lret dX2_joined_159 rfl h
      · have h := h.2 c
        refine w_lload_n dX2_joined_148 rfl ?_
        refine w_lconst (x := 0) dX2_joined_149 rfl ?_
        obtain ⟨o5, h⟩ := h
        refine w_lcmp_eq dX2_joined_150 dX2_joined_151 rfl ⟨o5, (by decide)⟩ (fun c => ?_) (fun c => ?_)
        · have h := h.1 c
          refine w_lconst (x := 0) dX2_joined_158 rfl ?_
          exact k_lret dX2_joined_159 rfl h
        · have h := h.2 c
          refine w_lconst (x := 1) dX2_joined_154 rfl ?_
          refine w_goto dX2_joined_155 rfl ?_
          exact k_lret dX2_joined_159 rfl h
    | 2, _, hx =>
      have h := h.2.2.1 (by simpa using hx)
      clear hx
      exact k_pick [] rfl h
    | 3, _, hx =>
      have h := h.2.2.2.1 (by simpa using hx)
      clear hx
      exact k_pick [] rfl h
    | 4, _, hx =>
      have h := h.2.2.2.2.1 (by simpa using hx)
      clear hx
      exact k_pick [] rfl h
    | 5, _, hx =>
      have h := h.2.2.2.2.2.1 (by simpa using hx)
      clear hx
      exact k_pick [] rfl h
    | 6, _, hx =>
      have h := h.2.2.2.2.2.2.1 (by simpa using hx)
      clear hx
      exact k_pick [] rfl h
    | 7, _, hx =>
      have h := h.2.2.2.2.2.2.2.1 (by simpa using hx)
      clear hx
      exact k_pick [] rfl h
    | 8, _, hx =>
      have h := h.2.2.2.2.2.2.2.2.1 (by simpa using hx)
      clear hx
      exact k_pick [] rfl h
    | 9, _, hx =>
      have h := h.2.2.2.2.2.2.2.2.2.1 (by simpa using hx)
      clear hx
      exact k_pick [] rfl h
    | 10, _, hx =>
      have h := h.2.2.2.2.2.2.2.2.2.2.1 (by simpa using hx)
      clear hx
      exact k_pick [] rfl h
    | 11, _, hx =>
      have h := h.2.2.2.2.2.2.2.2.2.2.2.1 (by simpa using hx)
      clear hx
      exact k_pick [] rfl h
    | 12, _, hx =>
      have h := h.2.2.2.2.2.2.2.2.2.2.2.2.1 (by simpa using hx)
      clear hx
      exact k_pick [] rfl h
    | 13, _, hx =>
      have h := h.2.2.2.2.2.2.2.2.2.2.2.2.2.1 (by simpa using hx)
      clear hx
      exact k_pick [] rfl h
    | 14, _, hx =>
      have h := h.2.2.2.2.2.2.2.2.2.2.2.2.2.2.1 (by simpa using hx)
      clear hx
      exact k_pick [] rfl h
    | 15, _, hx =>
      have h := h.2.2.2.2.2.2.2.2.2.2.2.2.2.2.2.1 (by simpa using hx)
      clear hx
      exact k_pick [] rfl h
    | 16, _, hx =>
      have h := h.2.2.2.2.2.2.2.2.2.2.2.2.2.2.2.2.1 (by simpa using hx)
      clear hx
      exact k_pick [] rfl h
    | 17, _, hx =>
      have h := h.2.2.2.2.2.2.2.2.2.2.2.2.2.2.2.2.2.1 (by simpa using hx)
      clear hx
      refine w_lload_n dX2_joined_160 rfl ?_
      refine w_lload_n dX2_joined_161 rfl ?_
      obtain ⟨o6, h⟩ := h
      obtain ⟨o7, h⟩ := h
      refine w_lcmp_ge dX2_joined_162 dX2_joined_163 rfl ⟨o6, o7⟩ (fun c => ?_) (fun c => ?_)
      · have h := h.1 c
        refine w_lconst (x := 0) dX2_joined_170 rfl ?_
        exact k_lret dX2_joined_171 rfl h
      · have h := h.2 c
        refine w_lconst (x := 1) dX2_joined_166 rfl ?_
        refine w_goto dX2_joined_167 rfl ?_
        exact k_lret dX2_joined_171 rfl h
    | 18, _, hx =>
      have h := h.2.2.2.2.2.2.2.2.2.2.2.2.2.2.2.2.2.2.1 (by simpa using hx)
      clear hx
      refine w_lload_n dX2_joined_184 rfl ?_
      refine w_lload_n dX2_joined_185 rfl ?_
      obtain ⟨o8, h⟩ := h
      obtain ⟨o9, h⟩ := h
      refine w_lcmp_ne dX2_joined_186 dX2_joined_187 rfl ⟨o8, o9⟩ (fun c => ?_) (fun c => ?_)
      · have h := h.1 c
        refine w_lconst (x := 0) dX2_joined_194 rfl ?_
        exact k_lret dX2_joined_195 rfl h
      · have h := h.2 c
        refine w_lconst (x := 1) dX2_joined_190 rfl ?_
        refine w_goto dX2_joined_191 rfl ?_
        exact k_lret dX2_joined_195 rfl h
    | 19, _, hx =>
      have h := h.2.2.2.2.2.2.2.2.2.2.2.2.2.2.2.2.2.2.2.1 (by simpa using hx)
      clear hx
      refine w_lload_n dX2_joined_220 rfl ?_
      refine w_lload_n dX2_joined_221 rfl ?_
      obtain ⟨o10, h⟩ := h
      obtain ⟨o11, h⟩ := h
      refine w_lcmp_le dX2_joined_222 dX2_joined_223 rfl ⟨o10, o11⟩ (fun c => ?_) (fun c => ?_)
      · have h := h.1 c
        refine w_lconst (x := 0) dX2_joined_230 rfl ?_
        exact k_lret dX2_joined_231 rfl h
      · have h := h.2 c
        refine w_lconst (x := 1) dX2_joined_226 rfl ?_
        refine w_goto dX2_joined_227 rfl ?_
        exact k_lret dX2_joined_231 rfl h
    | 20, _, hx =>
      have h := h.2.2.2.2.2.2.2.2.2.2.2.2.2.2.2.2.2.2.2.2.1 (by simpa using hx)
      clear hx
      refine w_lload_n dX2_joined_232 rfl ?_
      refine w_lload_n dX2_joined_233 rfl ?_
      refine w_ladd dX2_joined_234 ?_
      refine k_sL (as := [pL (x1 + x3)]) dX2_joined_235 kX2_45 ⟨⟨Nat.le_of_ble_eq_true rfl, rfl, rfl⟩, Nat.le_of_ble_eq_true rfl⟩ rfl (Nat.le_of_ble_eq_true rfl) h ?_
      intro r12 M13 h
      exact k_lret dX2_joined_238 rfl h
    | 21, _, hx =>
      have h := h.2.2.2.2.2.2.2.2.2.2.2.2.2.2.2.2.2.2.2.2.2.1 (by simpa using hx)
      clear hx
      refine w_lload_n dX2_joined_239 rfl ?_
      refine w_lload_n dX2_joined_240 rfl ?_
      refine w_lsub dX2_joined_241 ?_
      refine k_sL (as := [pL (x1 - x3)]) dX2_joined_242 kX2_45 ⟨⟨Nat.le_of_ble_eq_true rfl, rfl, rfl⟩, Nat.le_of_ble_eq_true rfl⟩ rfl (Nat.le_of_ble_eq_true rfl) h ?_
      intro r14 M15 h
      exact k_lret dX2_joined_245 rfl h
    | 22, _, hx =>
      have h := h.2.2.2.2.2.2.2.2.2.2.2.2.2.2.2.2.2.2.2.2.2.2.1 (by simpa using hx)
      clear hx
      refine w_lload_n dX2_joined_246 rfl ?_
      refine w_lload_n dX2_joined_247 rfl ?_
      refine k_sL (as := [pL x1, pL x3]) dX2_joined_248 kX2_49 ⟨⟨Nat.le_of_ble_eq_true rfl, rfl, rfl⟩, Nat.le_of_ble_eq_true rfl⟩ rfl (Nat.le_of_ble_eq_true rfl) h ?_
      intro r16 M17 h
      exact k_lret dX2_joined_251 rfl h
    | 23, _, hx =>
      have h := h.2.2.2.2.2.2.2.2.2.2.2.2.2.2.2.2.2.2.2.2.2.2.2.1 (by simpa using hx)
      clear hx
      refine w_lload_n dX2_joined_252 rfl ?_
      refine w_lconst (x := 0) dX2_joined_253 rfl ?_
      obtain ⟨o18, h⟩ := h
      refine w_lcmp_ne dX2_joined_254 dX2_joined_255 rfl ⟨o18, (by decide)⟩ (fun c => ?_) (fun c => ?_)
      · have h := h.1 c
        refine w_lload_n dX2_joined_264 rfl ?_
        refine w_lload_n dX2_joined_265 rfl ?_
        obtain ⟨o19, h⟩ := h
        obtain ⟨o20, h⟩ := h
        obtain ⟨o21, h⟩ := h
        refine w_ldiv dX2_joined_266 ⟨o19, o20, o21⟩ ?_
        exact k_lret dX2_joined_267 rfl h
      · have h := h.2 c
        refine w_ldc2 dX2_joined_258 qX2_26 ?_
        refine w_goto dX2_joined_261 rfl ?_
        exact k_lret dX2_joined_267 rfl h
    | 24, _, hx =>
      have h := h.2.2.2.2.2.2.2.2.2.2.2.2.2.2.2.2.2.2.2.2.2.2.2.2.1 (by simpa using hx)
      clear hx
      refine w_lload_n dX2_joined_172 rfl ?_
      refine w_lload_n dX2_joined_173 rfl ?_
      obtain ⟨o22, h⟩ := h
      obtain ⟨o23, h⟩ := h
      refine w_lcmp_gt dX2_joined_174 dX2_joined_175 rfl ⟨o22, o23⟩ (fun c => ?_) (fun c => ?_)
      · have h := h.1 c
        refine w_lconst (x := 0) dX2_joined_182 rfl ?_
        exact k_lret dX2_joined_183 rfl h
      · have h := h.2 c
        refine w_lconst (x := 1) dX2_joined_178 rfl ?_
        refine w_goto dX2_joined_179 rfl ?_
        exact k_lret dX2_joined_183 rfl h
    | 25, _, hx =>
      have h := h.2.2.2.2.2.2.2.2.2.2.2.2.2.2.2.2.2.2.2.2.2.2.2.2.2.1 (by simpa using hx)
      clear hx
      refine w_lload_n dX2_joined_196 rfl ?_
      refine w_lload_n dX2_joined_197 rfl ?_
      obtain ⟨o24, h⟩ := h
      obtain ⟨o25, h⟩ := h
      refine w_lcmp_eq dX2_joined_198 dX2_joined_199 rfl ⟨o24, o25⟩ (fun c => ?_) (fun c => ?_)
      · have h := h.1 c
        refine w_lconst (x := 0) dX2_joined_206 rfl ?_
        exact k_lret dX2_joined_207 rfl h
      · have h := h.2 c
        refine w_lconst (x := 1) dX2_joined_202 rfl ?_
        refine w_goto dX2_joined_203 rfl ?_
        exact k_lret dX2_joined_207 rfl h
    | 26, _, hx =>
      have h := h.2.2.2.2.2.2.2.2.2.2.2.2.2.2.2.2.2.2.2.2.2.2.2.2.2.2.1 (by simpa using hx)
      clear hx
      refine w_lload_n dX2_joined_208 rfl ?_
      refine w_lload_n dX2_joined_209 rfl ?_
      obtain ⟨o26, h⟩ := h
      obtain ⟨o27, h⟩ := h
      refine w_lcmp_lt dX2_joined_210 dX2_joined_211 rfl ⟨o26, o27⟩ (fun c => ?_) (fun c => ?_)
      · have h := h.1 c
        refine w_lconst (x := 0) dX2_joined_218 rfl ?_
        exact k_lret dX2_joined_219 rfl h
      · have h := h.2 c
        refine w_lconst (x := 1) dX2_joined_214 rfl ?_
        refine w_goto dX2_joined_215 rfl ?_
        exact k_lret dX2_joined_219 rfl h
    | _ + 27, hj, _ => exact absurd hj (by simp)
  · intro c
    have h := h.2.2.2.2.2.2.2.2.2.2.2.2.2.2.2.2.2.2.2.2.2.2.2.2.2.2.2 c
    exact k_pick [] rfl h
theorem vX2_joined_268 {E : Scr} {f : Int → Mem → Prop} {M : Mem} (h : f (-9223372036854775808) M) : KW E mX2_joined (qL f) M 268 [] [] := by
  refine w_ldc2 dX2_joined_268 qX2_26 ?_
  exact k_lret dX2_joined_271 rfl h
theorem vX2_within_0 {E : Scr} {f : Int → Mem → Prop} {M : Mem} (x0 : Int) (h : (lR x0) ∧ ((x0 > 1000000000000 → f (-9223372036854775808) M) ∧ (x0 ≤ 1000000000000 → (lR x0) ∧ ((x0 ≥ (-1000000000000) → f x0 M) ∧ (x0 < (-1000000000000) → f (-9223372036854775808) M))))) : CL E mX2_within [pL x0] M f := by
  refine (show KW E mX2_within (qL f) M 0 [(0, pL x0)] [] from ?_)
  refine w_lload_n dX2_within_0 rfl ?_
  refine w_ldc2 dX2_within_1 qX2_53 ?_
  obtain ⟨o1, h⟩ := h
  refine w_lcmp_gt dX2_within_4 dX2_within_5 rfl ⟨o1, (by decide)⟩ (fun c => ?_) (fun c => ?_)
  · have h := h.1 c
    refine w_ldc2 dX2_within_16 qX2_26 ?_
    refine w_goto dX2_within_19 rfl ?_
    exact k_lret dX2_within_23 rfl h
  · have h := h.2 c
    refine w_lload_n dX2_within_8 rfl ?_
    refine w_ldc2 dX2_within_9 qX2_55 ?_
    obtain ⟨o2, h⟩ := h
    refine w_lcmp_ge dX2_within_12 dX2_within_13 rfl ⟨o2, (by decide)⟩ (fun c => ?_) (fun c => ?_)
    · have h := h.1 c
      refine w_lload_n dX2_within_22 rfl ?_
      exact k_lret dX2_within_23 rfl h
    · have h := h.2 c
      refine w_ldc2 dX2_within_16 qX2_26 ?_
      refine w_goto dX2_within_19 rfl ?_
      exact k_lret dX2_within_23 rfl h
theorem vX2_product_0 {E : Scr} {f : Int → Mem → Prop} {M : Mem} (x0 x2 : Int) (h : (lR x0) ∧ ((x0 ≥ 0 → (lR x2) ∧ ((x2 ≥ 0 → (KW E mX2_product (qL f) M 26 [(0, pL x0), (2, pL x2), (4, pL x0)] [pL x2])) ∧ (x2 < 0 → (KW E mX2_product (qL f) M 26 [(0, pL x0), (2, pL x2), (4, pL x0)] [pL (-x2)])))) ∧ (x0 < 0 → (lR x2) ∧ ((x2 ≥ 0 → (KW E mX2_product (qL f) M 26 [(0, pL x0), (2, pL x2), (4, pL (-x0))] [pL x2])) ∧ (x2 < 0 → (KW E mX2_product (qL f) M 26 [(0, pL x0), (2, pL x2), (4, pL (-x0))] [pL (-x2)])))))) : CL E mX2_product [pL x0, pL x2] M f := by
  refine (show KW E mX2_product (qL f) M 0 [(0, pL x0), (2, pL x2)] [] from ?_)
  refine w_lload_n dX2_product_0 rfl ?_
  refine w_lconst (x := 0) dX2_product_1 rfl ?_
  obtain ⟨o1, h⟩ := h
  refine w_lcmp_ge dX2_product_2 dX2_product_3 rfl ⟨o1, (by decide)⟩ (fun c => ?_) (fun c => ?_)
  · have h := h.1 c
    refine w_lload_n dX2_product_11 rfl ?_
    refine w_lstore dX2_product_12 (by decide) ?_
    refine w_lload_n dX2_product_14 rfl ?_
    refine w_lconst (x := 0) dX2_product_15 rfl ?_
    obtain ⟨o2, h⟩ := h
    refine w_lcmp_ge dX2_product_16 dX2_product_17 rfl ⟨o2, (by decide)⟩ (fun c => ?_) (fun c => ?_)
    · have h := h.1 c
      refine w_lload_n dX2_product_25 rfl ?_
      exact k_pick [1, 2, 0] rfl h
    · have h := h.2 c
      refine w_lload_n dX2_product_20 rfl ?_
      refine w_lneg dX2_product_21 ?_
      refine w_goto dX2_product_22 rfl ?_
      exact k_pick [1, 2, 0] rfl h
  · have h := h.2 c
    refine w_lload_n dX2_product_6 rfl ?_
    refine w_lneg dX2_product_7 ?_
    refine w_goto dX2_product_8 rfl ?_
    refine w_lstore dX2_product_12 (by decide) ?_
    refine w_lload_n dX2_product_14 rfl ?_
    refine w_lconst (x := 0) dX2_product_15 rfl ?_
    obtain ⟨o3, h⟩ := h
    refine w_lcmp_ge dX2_product_16 dX2_product_17 rfl ⟨o3, (by decide)⟩ (fun c => ?_) (fun c => ?_)
    · have h := h.1 c
      refine w_lload_n dX2_product_25 rfl ?_
      exact k_pick [1, 2, 0] rfl h
    · have h := h.2 c
      refine w_lload_n dX2_product_20 rfl ?_
      refine w_lneg dX2_product_21 ?_
      refine w_goto dX2_product_22 rfl ?_
      exact k_pick [1, 2, 0] rfl h
theorem vX2_product_26 {E : Scr} {f : Int → Mem → Prop} {M : Mem} (x0 x2 x4 s0 : Int) (h : (lR x4) ∧ ((x4 = 0 → f (x0 * x2) M) ∧ (x4 ≠ 0 → (lR x4) ∧ (x4 ≠ 0) ∧ (lR s0) ∧ (lR (Int.tdiv 1000000000000 x4)) ∧ ((s0 ≤ (Int.tdiv 1000000000000 x4) → f (x0 * x2) M) ∧ (s0 > (Int.tdiv 1000000000000 x4) → f (-9223372036854775808) M))))) : KW E mX2_product (qL f) M 26 [(0, pL x0), (2, pL x2), (4, pL x4)] [pL s0] := by
  refine w_lstore dX2_product_26 (by decide) ?_
  refine w_lload dX2_product_28 rfl ?_
  refine w_lconst (x := 0) dX2_product_30 rfl ?_
  obtain ⟨o1, h⟩ := h
  refine w_lcmp_eq dX2_product_31 dX2_product_32 rfl ⟨o1, (by decide)⟩ (fun c => ?_) (fun c => ?_)
  · have h := h.1 c
    refine w_lload_n dX2_product_53 rfl ?_
    refine w_lload_n dX2_product_54 rfl ?_
    refine w_lmul dX2_product_55 ?_
    exact k_lret dX2_product_56 rfl h
  · have h := h.2 c
    refine w_lload dX2_product_35 rfl ?_
    refine w_ldc2 dX2_product_37 qX2_53 ?_
    refine w_lload dX2_product_40 rfl ?_
    obtain ⟨o2, h⟩ := h
    obtain ⟨o3, h⟩ := h
    refine w_ldiv dX2_product_42 ⟨(by decide), o2, o3⟩ ?_
    obtain ⟨o4, h⟩ := h
    obtain ⟨o5, h⟩ := h
    refine w_lcmp_le dX2_product_43 dX2_product_44 rfl ⟨o4, o5⟩ (fun c => ?_) (fun c => ?_)
    · have h := h.1 c
      refine w_lload_n dX2_product_53 rfl ?_
      refine w_lload_n dX2_product_54 rfl ?_
      refine w_lmul dX2_product_55 ?_
      exact k_lret dX2_product_56 rfl h
    · have h := h.2 c
      refine w_ldc2 dX2_product_47 qX2_26 ?_
      refine w_goto dX2_product_50 rfl ?_
      exact k_lret dX2_product_56 rfl h
