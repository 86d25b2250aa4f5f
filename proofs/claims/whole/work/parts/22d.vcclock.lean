theorem vX0_asItGoes_0 {E : Scr} {f : Mem → Prop} {M : Mem} (h : f (upM (upM (upM M 42 1 0) 42 2 (-1)) 42 3 (-1))) : CV E mX0_asItGoes [pR 42] M f := by
  refine (show KW E mX0_asItGoes (qV f) M 0 [(0, pR 42)] [] from ?_)
  refine w_aload_n dX0_asItGoes_0 rfl ?_
  refine w_iconst dX0_asItGoes_1 ?_
  refine w_putZ dX0_asItGoes_2 (Or.inl ⟨rfl, fX0_25⟩) rfl rfl (by decide) ?_
  refine w_aload_n dX0_asItGoes_5 rfl ?_
  refine w_iconst dX0_asItGoes_6 ?_
  refine w_putI dX0_asItGoes_7 (Or.inl ⟨rfl, fX0_18⟩) rfl rfl (by decide) ?_
  refine w_aload_n dX0_asItGoes_10 rfl ?_
  refine w_iconst dX0_asItGoes_11 ?_
  refine w_putI dX0_asItGoes_12 (Or.inl ⟨rfl, fX0_22⟩) rfl rfl (by decide) ?_
  exact k_vret dX0_asItGoes_15 rfl h
theorem vX0_drawn_0 {E : Scr} {f : Mem → Prop} {M : Mem} (h : (CV E mX0_asItGoes [pR 42] M (fun M2 => f (upM M2 42 1 1)))) : CV E mX0_drawn [pR 42] M f := by
  refine (show KW E mX0_drawn (qV f) M 0 [(0, pR 42)] [] from ?_)
  refine w_aload_n dX0_drawn_0 rfl ?_
  refine k_vV (as := []) dX0_drawn_1 kX0_29 ⟨⟨Nat.le_of_ble_eq_true rfl, rfl, rfl⟩, Nat.le_of_ble_eq_true rfl⟩ rfl (by decide) rfl (Nat.le_of_ble_eq_true rfl) h ?_
  intro M2 h
  refine w_aload_n dX0_drawn_4 rfl ?_
  refine w_iconst dX0_drawn_5 ?_
  refine w_putZ dX0_drawn_6 (Or.inl ⟨rfl, fX0_25⟩) rfl rfl (by decide) ?_
  exact k_vret dX0_drawn_9 rfl h
theorem vX0_otherwise_0 {E : Scr} {f : Mem → Prop} {M : Mem} (x1 x2 : Int) (h : (CV E mX0_asItGoes [pR 42] M (fun M2 => (iR x1) ∧ (iR x1) ∧ ((x1 ≠ 2 → f (upM (upM M2 42 2 x1) 42 3 (-1))) ∧ (x1 = 2 → (iR x2) ∧ f (upM (upM M2 42 2 x1) 42 3 x2)))))) : CV E mX0_otherwise [pR 42, pI x1, pI x2] M f := by
  refine (show KW E mX0_otherwise (qV f) M 0 [(0, pR 42), (1, pI x1), (2, pI x2)] [] from ?_)
  refine w_aload_n dX0_otherwise_0 rfl ?_
  refine k_vV (as := []) dX0_otherwise_1 kX0_29 ⟨⟨Nat.le_of_ble_eq_true rfl, rfl, rfl⟩, Nat.le_of_ble_eq_true rfl⟩ rfl (by decide) rfl (Nat.le_of_ble_eq_true rfl) h ?_
  intro M2 h
  refine w_aload_n dX0_otherwise_4 rfl ?_
  refine w_iload_n dX0_otherwise_5 rfl ?_
  obtain ⟨o3, h⟩ := h
  refine w_putI dX0_otherwise_6 (Or.inl ⟨rfl, fX0_18⟩) rfl rfl o3 ?_
  refine w_aload_n dX0_otherwise_9 rfl ?_
  refine w_iload_n dX0_otherwise_10 rfl ?_
  refine w_iconst dX0_otherwise_11 ?_
  obtain ⟨o4, h⟩ := h
  refine w_icmp_ne dX0_otherwise_12 rfl ⟨o4, (by decide)⟩ (fun c => ?_) (fun c => ?_)
  · have h := h.1 c
    refine w_iconst dX0_otherwise_19 ?_
    refine w_putI dX0_otherwise_20 (Or.inl ⟨rfl, fX0_22⟩) rfl rfl (by decide) ?_
    exact k_vret dX0_otherwise_23 rfl h
  · have h := h.2 c
    refine w_iload_n dX0_otherwise_15 rfl ?_
    refine w_goto dX0_otherwise_16 rfl ?_
    obtain ⟨o5, h⟩ := h
    refine w_putI dX0_otherwise_20 (Or.inl ⟨rfl, fX0_22⟩) rfl rfl o5 ?_
    exact k_vret dX0_otherwise_23 rfl h
theorem vX0_pass_0 {E : Scr} {f : Mem → Prop} {M : Mem} (x3 : Int) {ss : Nat} (hs : ss = 36 ∨ ss = 38) (h : (KW E mX0_pass (qV f) M 3 [(0, pR 42), (1, pR 21), (2, pR ss), (3, pI x3), (4, pI 0)] [])) : CV E mX0_pass [pR 42, pR 21, pR ss, pI x3] M f := by
  rcases hs with rfl | rfl
  · refine (show KW E mX0_pass (qV f) M 0 [(0, pR 42), (1, pR 21), (2, pR 36), (3, pI x3)] [] from ?_)
    refine w_iconst dX0_pass_0 ?_
    refine w_istore dX0_pass_1 (by decide) ?_
    exact k_pick [1, 2, 3, 4, 0] rfl h
  · refine (show KW E mX0_pass (qV f) M 0 [(0, pR 42), (1, pR 21), (2, pR 38), (3, pI x3)] [] from ?_)
    refine w_iconst dX0_pass_0 ?_
    refine w_istore dX0_pass_1 (by decide) ?_
    exact k_pick [1, 2, 3, 4, 0] rfl h
theorem vX0_pass_3 {E : Scr} {f : Mem → Prop} {M : Mem} (x3 x4 : Int) {ss : Nat} (hs : ss = 36 ∨ ss = 38) (h : (iR x4) ∧ (iR x3) ∧ ((x4 ≥ x3 → f M) ∧ (x4 < x3 → ((iR (M ss 0)) → (((M ss 0) > 99 → ((iR (M ss 0)) → (iR ((M ss 0) + 1)) ∧ (KW E mX0_pass (qV f) (upM M ss 0 ((M ss 0) + 1)) 3 [(0, pR 42), (1, pR 21), (2, pR ss), (3, pI x3), (4, pI (x4 + 1))] []))) ∧ ((M ss 0) ≤ 99 → (CV E mX0_passOne [pR 42, pR 21, pR ss] M (fun M7 => ((iR (M7 ss 0)) → (iR ((M7 ss 0) + 1)) ∧ (KW E mX0_pass (qV f) (upM M7 ss 0 ((M7 ss 0) + 1)) 3 [(0, pR 42), (1, pR 21), (2, pR ss), (3, pI x3), (4, pI (x4 + 1))] [])))))))))) : KW E mX0_pass (qV f) M 3 [(0, pR 42), (1, pR 21), (2, pR ss), (3, pI x3), (4, pI x4)] [] := by
  rcases hs with rfl | rfl
  · refine w_iload dX0_pass_3 rfl ?_
    refine w_iload_n dX0_pass_5 rfl ?_
    obtain ⟨o1, h⟩ := h
    obtain ⟨o2, h⟩ := h
    refine w_icmp_ge dX0_pass_6 rfl ⟨o1, o2⟩ (fun c => ?_) (fun c => ?_)
    · have h := h.1 c
      exact k_vret dX0_pass_40 rfl h
    · have h := h.2 c
      refine w_aload_n dX0_pass_9 rfl ?_
      refine w_getI (x := (M 36 0)) dX0_pass_10 fX0_32 rfl rfl rfl (fun g3 => ?_)
      have h := h g3
      refine w_bipush dX0_pass_13 (by decide) ?_
      refine w_icmp_gt dX0_pass_15 rfl ⟨g3, (by decide)⟩ (fun c => ?_) (fun c => ?_)
      · have h := h.1 c
        refine w_aload_n dX0_pass_24 rfl ?_
        refine w_dup dX0_pass_25 rfl ?_
        refine w_getI (x := (M 36 0)) dX0_pass_26 fX0_32 rfl rfl rfl (fun g4 => ?_)
        have h := h g4
        refine w_iconst dX0_pass_29 ?_
        refine w_iadd dX0_pass_30 ?_
        obtain ⟨o5, h⟩ := h
        refine w_putI dX0_pass_31 (Or.inl ⟨rfl, fX0_32⟩) rfl rfl o5 ?_
        refine w_iinc dX0_pass_34 rfl (by decide) ?_
        refine w_goto dX0_pass_37 rfl ?_
        exact k_pick [1, 2, 3, 4, 0] rfl h
      · have h := h.2 c
        refine w_aload_n dX0_pass_18 rfl ?_
        refine w_aload_n dX0_pass_19 rfl ?_
        refine w_aload_n dX0_pass_20 rfl ?_
        refine k_vV (as := [pR 21, pR 36]) dX0_pass_21 kX0_37 ⟨⟨Nat.le_of_ble_eq_true rfl, rfl, rfl⟩, Nat.le_of_ble_eq_true rfl⟩ rfl (by decide) rfl (Nat.le_of_ble_eq_true rfl) h ?_
        intro M7 h
        refine w_aload_n dX0_pass_24 rfl ?_
        refine w_dup dX0_pass_25 rfl ?_
        refine w_getI (x := (M7 36 0)) dX0_pass_26 fX0_32 rfl rfl rfl (fun g8 => ?_)
        have h := h g8
        refine w_iconst dX0_pass_29 ?_
        refine w_iadd dX0_pass_30 ?_
        obtain ⟨o9, h⟩ := h
        refine w_putI dX0_pass_31 (Or.inl ⟨rfl, fX0_32⟩) rfl rfl o9 ?_
        refine w_iinc dX0_pass_34 rfl (by decide) ?_
        refine w_goto dX0_pass_37 rfl ?_
        exact k_pick [1, 2, 3, 4, 0] rfl h
  · refine w_iload dX0_pass_3 rfl ?_
    refine w_iload_n dX0_pass_5 rfl ?_
    obtain ⟨o1, h⟩ := h
    obtain ⟨o2, h⟩ := h
    refine w_icmp_ge dX0_pass_6 rfl ⟨o1, o2⟩ (fun c => ?_) (fun c => ?_)
    · have h := h.1 c
      exact k_vret dX0_pass_40 rfl h
    · have h := h.2 c
      refine w_aload_n dX0_pass_9 rfl ?_
      refine w_getI (x := (M 38 0)) dX0_pass_10 fX0_32 rfl rfl rfl (fun g3 => ?_)
      have h := h g3
      refine w_bipush dX0_pass_13 (by decide) ?_
      refine w_icmp_gt dX0_pass_15 rfl ⟨g3, (by decide)⟩ (fun c => ?_) (fun c => ?_)
      · have h := h.1 c
        refine w_aload_n dX0_pass_24 rfl ?_
        refine w_dup dX0_pass_25 rfl ?_
        refine w_getI (x := (M 38 0)) dX0_pass_26 fX0_32 rfl rfl rfl (fun g4 => ?_)
        have h := h g4
        refine w_iconst dX0_pass_29 ?_
        refine w_iadd dX0_pass_30 ?_
        obtain ⟨o5, h⟩ := h
        refine w_putI dX0_pass_31 (Or.inl ⟨rfl, fX0_32⟩) rfl rfl o5 ?_
        refine w_iinc dX0_pass_34 rfl (by decide) ?_
        refine w_goto dX0_pass_37 rfl ?_
        exact k_pick [1, 2, 3, 4, 0] rfl h
      · have h := h.2 c
        refine w_aload_n dX0_pass_18 rfl ?_
        refine w_aload_n dX0_pass_19 rfl ?_
        refine w_aload_n dX0_pass_20 rfl ?_
        refine k_vV (as := [pR 21, pR 38]) dX0_pass_21 kX0_37 ⟨⟨Nat.le_of_ble_eq_true rfl, rfl, rfl⟩, Nat.le_of_ble_eq_true rfl⟩ rfl (by decide) rfl (Nat.le_of_ble_eq_true rfl) h ?_
        intro M7 h
        refine w_aload_n dX0_pass_24 rfl ?_
        refine w_dup dX0_pass_25 rfl ?_
        refine w_getI (x := (M7 38 0)) dX0_pass_26 fX0_32 rfl rfl rfl (fun g8 => ?_)
        have h := h g8
        refine w_iconst dX0_pass_29 ?_
        refine w_iadd dX0_pass_30 ?_
        obtain ⟨o9, h⟩ := h
        refine w_putI dX0_pass_31 (Or.inl ⟨rfl, fX0_32⟩) rfl rfl o9 ?_
        refine w_iinc dX0_pass_34 rfl (by decide) ?_
        refine w_goto dX0_pass_37 rfl ?_
        exact k_pick [1, 2, 3, 4, 0] rfl h
theorem vX0_passOne_0 {E : Scr} {f : Mem → Prop} {M : Mem} {ss : Nat} (hs : ss = 36 ∨ ss = 38) (h : ((iR (M 42 2)) → (((M 42 2) = 3 → (KW E mX0_passOne (qV f) M 24 [(0, pR 42), (1, pR 21), (2, pR ss)] [])) ∧ ((M 42 2) ≠ 3 → ((iR (M ss 0)) → (CI E mX1_oiled [pR 21, pI (M ss 0)] M (fun r3 M4 => (iR r3) ∧ ((r3 = 0 → (KW E mX0_passOne (qV f) M4 24 [(0, pR 42), (1, pR 21), (2, pR ss)] [])) ∧ (r3 ≠ 0 → (KW E mX0_passOne (qV f) (upM M4 ss 2 0) 24 [(0, pR 42), (1, pR 21), (2, pR ss)] [])))))))))) : CV E mX0_passOne [pR 42, pR 21, pR ss] M f := by
  rcases hs with rfl | rfl
  · refine (show KW E mX0_passOne (qV f) M 0 [(0, pR 42), (1, pR 21), (2, pR 36)] [] from ?_)
    refine w_aload_n dX0_passOne_0 rfl ?_
    refine w_getI (x := (M 42 2)) dX0_passOne_1 fX0_18 rfl rfl rfl (fun g1 => ?_)
    have h := h g1
    refine w_iconst dX0_passOne_4 ?_
    refine w_icmp_eq dX0_passOne_5 rfl ⟨g1, (by decide)⟩ (fun c => ?_) (fun c => ?_)
    · have h := h.1 c
      exact k_pick [0, 1, 2] rfl h
    · have h := h.2 c
      refine w_aload_n dX0_passOne_8 rfl ?_
      refine w_aload_n dX0_passOne_9 rfl ?_
      refine w_getI (x := (M 36 0)) dX0_passOne_10 fX0_32 rfl rfl rfl (fun g2 => ?_)
      have h := h g2
      refine k_vI (as := [pI (M 36 0)]) dX0_passOne_13 kX0_41 ⟨⟨Nat.le_of_ble_eq_true rfl, rfl, rfl⟩, Nat.le_of_ble_eq_true rfl⟩ rfl (by decide) rfl (Nat.le_of_ble_eq_true rfl) h ?_
      intro r3 M4 h
      obtain ⟨o5, h⟩ := h
      refine w_if_eq dX0_passOne_16 rfl o5 (fun c => ?_) (fun c => ?_)
      · have h := h.1 c
        exact k_pick [0, 1, 2] rfl h
      · have h := h.2 c
        refine w_aload_n dX0_passOne_19 rfl ?_
        refine w_iconst dX0_passOne_20 ?_
        refine w_putI dX0_passOne_21 (Or.inl ⟨rfl, fX0_47⟩) rfl rfl (by decide) ?_
        exact k_pick [0, 1, 2] rfl h
  · refine (show KW E mX0_passOne (qV f) M 0 [(0, pR 42), (1, pR 21), (2, pR 38)] [] from ?_)
    refine w_aload_n dX0_passOne_0 rfl ?_
    refine w_getI (x := (M 42 2)) dX0_passOne_1 fX0_18 rfl rfl rfl (fun g1 => ?_)
    have h := h g1
    refine w_iconst dX0_passOne_4 ?_
    refine w_icmp_eq dX0_passOne_5 rfl ⟨g1, (by decide)⟩ (fun c => ?_) (fun c => ?_)
    · have h := h.1 c
      exact k_pick [0, 1, 2] rfl h
    · have h := h.2 c
      refine w_aload_n dX0_passOne_8 rfl ?_
      refine w_aload_n dX0_passOne_9 rfl ?_
      refine w_getI (x := (M 38 0)) dX0_passOne_10 fX0_32 rfl rfl rfl (fun g2 => ?_)
      have h := h g2
      refine k_vI (as := [pI (M 38 0)]) dX0_passOne_13 kX0_41 ⟨⟨Nat.le_of_ble_eq_true rfl, rfl, rfl⟩, Nat.le_of_ble_eq_true rfl⟩ rfl (by decide) rfl (Nat.le_of_ble_eq_true rfl) h ?_
      intro r3 M4 h
      obtain ⟨o5, h⟩ := h
      refine w_if_eq dX0_passOne_16 rfl o5 (fun c => ?_) (fun c => ?_)
      · have h := h.1 c
        exact k_pick [0, 1, 2] rfl h
      · have h := h.2 c
        refine w_aload_n dX0_passOne_19 rfl ?_
        refine w_iconst dX0_passOne_20 ?_
        refine w_putI dX0_passOne_21 (Or.inl ⟨rfl, fX0_47⟩) rfl rfl (by decide) ?_
        exact k_pick [0, 1, 2] rfl h
theorem vX0_passOne_24 {E : Scr} {f : Mem → Prop} {M : Mem} {ss : Nat} (hs : ss = 36 ∨ ss = 38) (h : ((iR (M 42 2)) → (((M 42 2) ≠ 4 → (KW E mX0_passOne (qV f) M 41 [(0, pR 42), (1, pR 21), (2, pR ss), (3, pI 1), (4, pI 0)] [])) ∧ ((M 42 2) = 4 → (KW E mX0_passOne (qV f) M 41 [(0, pR 42), (1, pR 21), (2, pR ss), (3, pI 2), (4, pI 0)] []))))) : KW E mX0_passOne (qV f) M 24 [(0, pR 42), (1, pR 21), (2, pR ss)] [] := by
  rcases hs with rfl | rfl
  · refine w_aload_n dX0_passOne_24 rfl ?_
    refine w_getI (x := (M 42 2)) dX0_passOne_25 fX0_18 rfl rfl rfl (fun g1 => ?_)
    have h := h g1
    refine w_iconst dX0_passOne_28 ?_
    refine w_icmp_ne dX0_passOne_29 rfl ⟨g1, (by decide)⟩ (fun c => ?_) (fun c => ?_)
    · have h := h.1 c
      refine w_iconst dX0_passOne_36 ?_
      refine w_istore_n dX0_passOne_37 (by decide) ?_
      refine w_iconst dX0_passOne_38 ?_
      refine w_istore dX0_passOne_39 (by decide) ?_
      exact k_pick [2, 3, 4, 1, 0] rfl h
    · have h := h.2 c
      refine w_iconst dX0_passOne_32 ?_
      refine w_goto dX0_passOne_33 rfl ?_
      refine w_istore_n dX0_passOne_37 (by decide) ?_
      refine w_iconst dX0_passOne_38 ?_
      refine w_istore dX0_passOne_39 (by decide) ?_
      exact k_pick [2, 3, 4, 1, 0] rfl h
  · refine w_aload_n dX0_passOne_24 rfl ?_
    refine w_getI (x := (M 42 2)) dX0_passOne_25 fX0_18 rfl rfl rfl (fun g1 => ?_)
    have h := h g1
    refine w_iconst dX0_passOne_28 ?_
    refine w_icmp_ne dX0_passOne_29 rfl ⟨g1, (by decide)⟩ (fun c => ?_) (fun c => ?_)
    · have h := h.1 c
      refine w_iconst dX0_passOne_36 ?_
      refine w_istore_n dX0_passOne_37 (by decide) ?_
      refine w_iconst dX0_passOne_38 ?_
      refine w_istore dX0_passOne_39 (by decide) ?_
      exact k_pick [2, 3, 4, 1, 0] rfl h
    · have h := h.2 c
      refine w_iconst dX0_passOne_32 ?_
      refine w_goto dX0_passOne_33 rfl ?_
      refine w_istore_n dX0_passOne_37 (by decide) ?_
      refine w_iconst dX0_passOne_38 ?_
      refine w_istore dX0_passOne_39 (by decide) ?_
      exact k_pick [2, 3, 4, 1, 0] rfl h
theorem vX0_passOne_41 {E : Scr} {f : Mem → Prop} {M : Mem} (x3 x4 : Int) {ss : Nat} (hs : ss = 36 ∨ ss = 38) (h : ((iR (M 21 10)) → (iR x4) ∧ ((x4 ≥ (M 21 10) → f M) ∧ (x4 < (M 21 10) → (iR x4) ∧ ((x4 ≥ 16 → f M) ∧ (x4 < 16 → (0 ≤ x4 ∧ x4 < 16) ∧ ((iR (M 27 x4.toNat)) → (0 ≤ x4 ∧ x4 < 16) ∧ ((iR (M 28 x4.toNat)) → ((iR (M ss 0)) → (((M 28 x4.toNat) ≠ (M ss 0) → (KW E mX0_passOne (qV f) M 41 [(0, pR 42), (1, pR 21), (2, pR ss), (3, pI x3), (4, pI (x4 + 1))] [])) ∧ ((M 28 x4.toNat) = (M ss 0) → ((iR (M 42 3)) → (((M 27 x4.toNat) ≠ (M 42 3) → (KW E mX0_passOne (qV f) M 95 [(0, pR 42), (1, pR 21), (2, pR ss), (3, pI x3), (4, pI x4), (5, pI (M 27 x4.toNat)), (6, pI 0)] [])) ∧ ((M 27 x4.toNat) = (M 42 3) → (KW E mX0_passOne (qV f) M 41 [(0, pR 42), (1, pR 21), (2, pR ss), (3, pI x3), (4, pI (x4 + 1))] []))))))))))))))) : KW E mX0_passOne (qV f) M 41 [(0, pR 42), (1, pR 21), (2, pR ss), (3, pI x3), (4, pI x4)] [] := by
  rcases hs with rfl | rfl
  · refine w_iload dX0_passOne_41 rfl ?_
    refine w_aload_n dX0_passOne_43 rfl ?_
    refine w_getI (x := (M 21 10)) dX0_passOne_44 fX0_50 rfl rfl rfl (fun g1 => ?_)
    have h := h g1
    obtain ⟨o2, h⟩ := h
    refine w_icmp_ge dX0_passOne_47 rfl ⟨o2, g1⟩ (fun c => ?_) (fun c => ?_)
    · have h := h.1 c
      exact k_vret dX0_passOne_134 rfl h
    · have h := h.2 c
      refine w_iload dX0_passOne_50 rfl ?_
      refine w_bipush dX0_passOne_52 (by decide) ?_
      obtain ⟨o3, h⟩ := h
      refine w_icmp_ge dX0_passOne_54 rfl ⟨o3, (by decide)⟩ (fun c => ?_) (fun c => ?_)
      · have h := h.1 c
        exact k_vret dX0_passOne_134 rfl h
      · have h := h.2 c
        refine w_aload_n dX0_passOne_57 rfl ?_
        refine w_getR dX0_passOne_58 fX0_53 rfl rfl rfl ?_
        refine w_iload dX0_passOne_61 rfl ?_
        obtain ⟨o4, h⟩ := h
        refine w_iald (x := (M 27 x4.toNat)) dX0_passOne_63 rfl o4 rfl (fun g5 => ?_)
        have h := h g5
        refine w_istore dX0_passOne_64 (by decide) ?_
        refine w_aload_n dX0_passOne_66 rfl ?_
        refine w_getR dX0_passOne_67 fX0_57 rfl rfl rfl ?_
        refine w_iload dX0_passOne_70 rfl ?_
        obtain ⟨o6, h⟩ := h
        refine w_iald (x := (M 28 x4.toNat)) dX0_passOne_72 rfl o6 rfl (fun g7 => ?_)
        have h := h g7
        refine w_aload_n dX0_passOne_73 rfl ?_
        refine w_getI (x := (M 36 0)) dX0_passOne_74 fX0_32 rfl rfl rfl (fun g8 => ?_)
        have h := h g8
        refine w_icmp_ne dX0_passOne_77 rfl ⟨g7, g8⟩ (fun c => ?_) (fun c => ?_)
        · have h := h.1 c
          refine w_iinc dX0_passOne_128 rfl (by decide) ?_
          refine w_goto dX0_passOne_131 rfl ?_
          exact k_pick [2, 3, 4, 5, 0] rfl h
        · have h := h.2 c
          refine w_iload dX0_passOne_80 rfl ?_
          refine w_aload_n dX0_passOne_82 rfl ?_
          refine w_getI (x := (M 42 3)) dX0_passOne_83 fX0_22 rfl rfl rfl (fun g9 => ?_)
          have h := h g9
          refine w_icmp_ne dX0_passOne_86 rfl ⟨g5, g9⟩ (fun c => ?_) (fun c => ?_)
          · have h := h.1 c
            refine w_iconst dX0_passOne_92 ?_
            refine w_istore dX0_passOne_93 (by decide) ?_
            exact k_pick [2, 3, 4, 5, 6, 1, 0] rfl h
          · have h := h.2 c
            refine w_goto dX0_passOne_89 rfl ?_
            refine w_iinc dX0_passOne_128 rfl (by decide) ?_
            refine w_goto dX0_passOne_131 rfl ?_
            exact k_pick [2, 3, 4, 5, 0] rfl h
  · refine w_iload dX0_passOne_41 rfl ?_
    refine w_aload_n dX0_passOne_43 rfl ?_
    refine w_getI (x := (M 21 10)) dX0_passOne_44 fX0_50 rfl rfl rfl (fun g1 => ?_)
    have h := h g1
    obtain ⟨o2, h⟩ := h
    refine w_icmp_ge dX0_passOne_47 rfl ⟨o2, g1⟩ (fun c => ?_) (fun c => ?_)
    · have h := h.1 c
      exact k_vret dX0_passOne_134 rfl h
    · have h := h.2 c
      refine w_iload dX0_passOne_50 rfl ?_
      refine w_bipush dX0_passOne_52 (by decide) ?_
      obtain ⟨o3, h⟩ := h
      refine w_icmp_ge dX0_passOne_54 rfl ⟨o3, (by decide)⟩ (fun c => ?_) (fun c => ?_)
      · have h := h.1 c
        exact k_vret dX0_passOne_134 rfl h
      · have h := h.2 c
        refine w_aload_n dX0_passOne_57 rfl ?_
        refine w_getR dX0_passOne_58 fX0_53 rfl rfl rfl ?_
        refine w_iload dX0_passOne_61 rfl ?_
        obtain ⟨o4, h⟩ := h
        refine w_iald (x := (M 27 x4.toNat)) dX0_passOne_63 rfl o4 rfl (fun g5 => ?_)
        have h := h g5
        refine w_istore dX0_passOne_64 (by decide) ?_
        refine w_aload_n dX0_passOne_66 rfl ?_
        refine w_getR dX0_passOne_67 fX0_57 rfl rfl rfl ?_
        refine w_iload dX0_passOne_70 rfl ?_
        obtain ⟨o6, h⟩ := h
        refine w_iald (x := (M 28 x4.toNat)) dX0_passOne_72 rfl o6 rfl (fun g7 => ?_)
        have h := h g7
        refine w_aload_n dX0_passOne_73 rfl ?_
        refine w_getI (x := (M 38 0)) dX0_passOne_74 fX0_32 rfl rfl rfl (fun g8 => ?_)
        have h := h g8
        refine w_icmp_ne dX0_passOne_77 rfl ⟨g7, g8⟩ (fun c => ?_) (fun c => ?_)
        · have h := h.1 c
          refine w_iinc dX0_passOne_128 rfl (by decide) ?_
          refine w_goto dX0_passOne_131 rfl ?_
          exact k_pick [2, 3, 4, 5, 0] rfl h
        · have h := h.2 c
          refine w_iload dX0_passOne_80 rfl ?_
          refine w_aload_n dX0_passOne_82 rfl ?_
          refine w_getI (x := (M 42 3)) dX0_passOne_83 fX0_22 rfl rfl rfl (fun g9 => ?_)
          have h := h g9
          refine w_icmp_ne dX0_passOne_86 rfl ⟨g5, g9⟩ (fun c => ?_) (fun c => ?_)
          · have h := h.1 c
            refine w_iconst dX0_passOne_92 ?_
            refine w_istore dX0_passOne_93 (by decide) ?_
            exact k_pick [2, 3, 4, 5, 6, 1, 0] rfl h
          · have h := h.2 c
            refine w_goto dX0_passOne_89 rfl ?_
            refine w_iinc dX0_passOne_128 rfl (by decide) ?_
            refine w_goto dX0_passOne_131 rfl ?_
            exact k_pick [2, 3, 4, 5, 0] rfl h
theorem vX0_passOne_95 {E : Scr} {f : Mem → Prop} {M : Mem} (x3 x4 x5 x6 : Int) {ss : Nat} (hs : ss = 36 ∨ ss = 38) (h : (iR x6) ∧ (iR x3) ∧ ((x6 ≥ x3 → (KW E mX0_passOne (qV f) M 41 [(0, pR 42), (1, pR 21), (2, pR ss), (3, pI x3), (4, pI (x4 + 1))] [])) ∧ (x6 < x3 → (CI E mX0_pushes [pR 42, pR 21, pR ss, pI x5] M (fun r3 M4 => (iR r3) ∧ ((r3 ≠ 0 → (KW E mX0_passOne (qV f) M4 95 [(0, pR 42), (1, pR 21), (2, pR ss), (3, pI x3), (4, pI x4), (5, pI x5), (6, pI (x6 + 1))] [])) ∧ (r3 = 0 → ((iR (M4 ss 4)) → (iR ((M4 ss 4) + 1)) ∧ (KW E mX0_passOne (qV f) (upM M4 ss 4 ((M4 ss 4) + 1)) 95 [(0, pR 42), (1, pR 21), (2, pR ss), (3, pI x3), (4, pI x4), (5, pI x5), (6, pI (x6 + 1))] []))))))))) : KW E mX0_passOne (qV f) M 95 [(0, pR 42), (1, pR 21), (2, pR ss), (3, pI x3), (4, pI x4), (5, pI x5), (6, pI x6)] [] := by
  rcases hs with rfl | rfl
  · refine w_iload dX0_passOne_95 rfl ?_
    refine w_iload_n dX0_passOne_97 rfl ?_
    obtain ⟨o1, h⟩ := h
    obtain ⟨o2, h⟩ := h
    refine w_icmp_ge dX0_passOne_98 rfl ⟨o1, o2⟩ (fun c => ?_) (fun c => ?_)
    · have h := h.1 c
      refine w_iinc dX0_passOne_128 rfl (by decide) ?_
      refine w_goto dX0_passOne_131 rfl ?_
      exact k_pick [1, 2, 3, 4, 0] rfl h
    · have h := h.2 c
      refine w_aload_n dX0_passOne_101 rfl ?_
      refine w_aload_n dX0_passOne_102 rfl ?_
      refine w_aload_n dX0_passOne_103 rfl ?_
      refine w_iload dX0_passOne_104 rfl ?_
      refine k_vI (as := [pR 21, pR 36, pI x5]) dX0_passOne_106 kX0_60 ⟨⟨Nat.le_of_ble_eq_true rfl, rfl, rfl⟩, Nat.le_of_ble_eq_true rfl⟩ rfl (by decide) rfl (Nat.le_of_ble_eq_true rfl) h ?_
      intro r3 M4 h
      obtain ⟨o5, h⟩ := h
      refine w_if_ne dX0_passOne_109 rfl o5 (fun c => ?_) (fun c => ?_)
      · have h := h.1 c
        refine w_iinc dX0_passOne_122 rfl (by decide) ?_
        refine w_goto dX0_passOne_125 rfl ?_
        exact k_pick [1, 2, 3, 4, 5, 6, 0] rfl h
      · have h := h.2 c
        refine w_aload_n dX0_passOne_112 rfl ?_
        refine w_dup dX0_passOne_113 rfl ?_
        refine w_getI (x := (M4 36 4)) dX0_passOne_114 fX0_63 rfl rfl rfl (fun g6 => ?_)
        have h := h g6
        refine w_iconst dX0_passOne_117 ?_
        refine w_iadd dX0_passOne_118 ?_
        obtain ⟨o7, h⟩ := h
        refine w_putI dX0_passOne_119 (Or.inl ⟨rfl, fX0_63⟩) rfl rfl o7 ?_
        refine w_iinc dX0_passOne_122 rfl (by decide) ?_
        refine w_goto dX0_passOne_125 rfl ?_
        exact k_pick [1, 2, 3, 4, 5, 6, 0] rfl h
  · refine w_iload dX0_passOne_95 rfl ?_
    refine w_iload_n dX0_passOne_97 rfl ?_
    obtain ⟨o1, h⟩ := h
    obtain ⟨o2, h⟩ := h
    refine w_icmp_ge dX0_passOne_98 rfl ⟨o1, o2⟩ (fun c => ?_) (fun c => ?_)
    · have h := h.1 c
      refine w_iinc dX0_passOne_128 rfl (by decide) ?_
      refine w_goto dX0_passOne_131 rfl ?_
      exact k_pick [1, 2, 3, 4, 0] rfl h
    · have h := h.2 c
      refine w_aload_n dX0_passOne_101 rfl ?_
      refine w_aload_n dX0_passOne_102 rfl ?_
      refine w_aload_n dX0_passOne_103 rfl ?_
      refine w_iload dX0_passOne_104 rfl ?_
      refine k_vI (as := [pR 21, pR 38, pI x5]) dX0_passOne_106 kX0_60 ⟨⟨Nat.le_of_ble_eq_true rfl, rfl, rfl⟩, Nat.le_of_ble_eq_true rfl⟩ rfl (by decide) rfl (Nat.le_of_ble_eq_true rfl) h ?_
      intro r3 M4 h
      obtain ⟨o5, h⟩ := h
      refine w_if_ne dX0_passOne_109 rfl o5 (fun c => ?_) (fun c => ?_)
      · have h := h.1 c
        refine w_iinc dX0_passOne_122 rfl (by decide) ?_
        refine w_goto dX0_passOne_125 rfl ?_
        exact k_pick [1, 2, 3, 4, 5, 6, 0] rfl h
      · have h := h.2 c
        refine w_aload_n dX0_passOne_112 rfl ?_
        refine w_dup dX0_passOne_113 rfl ?_
        refine w_getI (x := (M4 38 4)) dX0_passOne_114 fX0_63 rfl rfl rfl (fun g6 => ?_)
        have h := h g6
        refine w_iconst dX0_passOne_117 ?_
        refine w_iadd dX0_passOne_118 ?_
        obtain ⟨o7, h⟩ := h
        refine w_putI dX0_passOne_119 (Or.inl ⟨rfl, fX0_63⟩) rfl rfl o7 ?_
        refine w_iinc dX0_passOne_122 rfl (by decide) ?_
        refine w_goto dX0_passOne_125 rfl ?_
        exact k_pick [1, 2, 3, 4, 5, 6, 0] rfl h
theorem vX0_pushes_0 {E : Scr} {f : Int → Mem → Prop} {M : Mem} (x3 : Int) {ss : Nat} (hs : ss = 36 ∨ ss = 38) (h : ((iR (M 42 2)) → (((M 42 2) ≠ 1 → ((iR (M ss 1)) → ((iR (M ss 2)) → (CI E mX1_movable [pR 21, pI (M ss 1), pI (M ss 2)] M (fun r4 M5 => (KW E mX0_pushes (qI f) M5 34 [(0, pR 42), (1, pR 21), (2, pR ss), (3, pI x3)] [pI r4])))))) ∧ ((M 42 2) = 1 → (CI E mX1_all [pR 21] M (fun r6 M7 => ((iR (M7 ss 2)) → (KW E mX0_pushes (qI f) M7 34 [(0, pR 42), (1, pR 21), (2, pR ss), (3, pI x3)] [pI (bAnd r6 (bXor (M7 ss 2) (-1)))])))))))) : CI E mX0_pushes [pR 42, pR 21, pR ss, pI x3] M f := by
  rcases hs with rfl | rfl
  · refine (show KW E mX0_pushes (qI f) M 0 [(0, pR 42), (1, pR 21), (2, pR 36), (3, pI x3)] [] from ?_)
    refine w_aload_n dX0_pushes_0 rfl ?_
    refine w_getI (x := (M 42 2)) dX0_pushes_1 fX0_18 rfl rfl rfl (fun g1 => ?_)
    have h := h g1
    refine w_iconst dX0_pushes_4 ?_
    refine w_icmp_ne dX0_pushes_5 rfl ⟨g1, (by decide)⟩ (fun c => ?_) (fun c => ?_)
    · have h := h.1 c
      refine w_aload_n dX0_pushes_22 rfl ?_
      refine w_aload_n dX0_pushes_23 rfl ?_
      refine w_getI (x := (M 36 1)) dX0_pushes_24 fX0_70 rfl rfl rfl (fun g2 => ?_)
      have h := h g2
      refine w_aload_n dX0_pushes_27 rfl ?_
      refine w_getI (x := (M 36 2)) dX0_pushes_28 fX0_47 rfl rfl rfl (fun g3 => ?_)
      have h := h g3
      refine k_vI (as := [pI (M 36 1), pI (M 36 2)]) dX0_pushes_31 kX0_73 ⟨⟨Nat.le_of_ble_eq_true rfl, rfl, rfl⟩, Nat.le_of_ble_eq_true rfl⟩ rfl (by decide) rfl (Nat.le_of_ble_eq_true rfl) h ?_
      intro r4 M5 h
      exact k_pick [0, 1, 2, 3] rfl h
    · have h := h.2 c
      refine w_aload_n dX0_pushes_8 rfl ?_
      refine k_vI (as := []) dX0_pushes_9 kX0_66 ⟨⟨Nat.le_of_ble_eq_true rfl, rfl, rfl⟩, Nat.le_of_ble_eq_true rfl⟩ rfl (by decide) rfl (Nat.le_of_ble_eq_true rfl) h ?_
      intro r6 M7 h
      refine w_aload_n dX0_pushes_12 rfl ?_
      refine w_getI (x := (M7 36 2)) dX0_pushes_13 fX0_47 rfl rfl rfl (fun g8 => ?_)
      have h := h g8
      refine w_iconst dX0_pushes_16 ?_
      refine w_ixor dX0_pushes_17 ?_
      refine w_iand dX0_pushes_18 ?_
      refine w_goto dX0_pushes_19 rfl ?_
      exact k_pick [0, 1, 2, 3] rfl h
  · refine (show KW E mX0_pushes (qI f) M 0 [(0, pR 42), (1, pR 21), (2, pR 38), (3, pI x3)] [] from ?_)
    refine w_aload_n dX0_pushes_0 rfl ?_
    refine w_getI (x := (M 42 2)) dX0_pushes_1 fX0_18 rfl rfl rfl (fun g1 => ?_)
    have h := h g1
    refine w_iconst dX0_pushes_4 ?_
    refine w_icmp_ne dX0_pushes_5 rfl ⟨g1, (by decide)⟩ (fun c => ?_) (fun c => ?_)
    · have h := h.1 c
      refine w_aload_n dX0_pushes_22 rfl ?_
      refine w_aload_n dX0_pushes_23 rfl ?_
      refine w_getI (x := (M 38 1)) dX0_pushes_24 fX0_70 rfl rfl rfl (fun g2 => ?_)
      have h := h g2
      refine w_aload_n dX0_pushes_27 rfl ?_
      refine w_getI (x := (M 38 2)) dX0_pushes_28 fX0_47 rfl rfl rfl (fun g3 => ?_)
      have h := h g3
      refine k_vI (as := [pI (M 38 1), pI (M 38 2)]) dX0_pushes_31 kX0_73 ⟨⟨Nat.le_of_ble_eq_true rfl, rfl, rfl⟩, Nat.le_of_ble_eq_true rfl⟩ rfl (by decide) rfl (Nat.le_of_ble_eq_true rfl) h ?_
      intro r4 M5 h
      exact k_pick [0, 1, 2, 3] rfl h
    · have h := h.2 c
      refine w_aload_n dX0_pushes_8 rfl ?_
      refine k_vI (as := []) dX0_pushes_9 kX0_66 ⟨⟨Nat.le_of_ble_eq_true rfl, rfl, rfl⟩, Nat.le_of_ble_eq_true rfl⟩ rfl (by decide) rfl (Nat.le_of_ble_eq_true rfl) h ?_
      intro r6 M7 h
      refine w_aload_n dX0_pushes_12 rfl ?_
      refine w_getI (x := (M7 38 2)) dX0_pushes_13 fX0_47 rfl rfl rfl (fun g8 => ?_)
      have h := h g8
      refine w_iconst dX0_pushes_16 ?_
      refine w_ixor dX0_pushes_17 ?_
      refine w_iand dX0_pushes_18 ?_
      refine w_goto dX0_pushes_19 rfl ?_
      exact k_pick [0, 1, 2, 3] rfl h
theorem vX0_pushes_34 {E : Scr} {f : Int → Mem → Prop} {M : Mem} (x3 s0 : Int) {ss : Nat} (hs : ss = 36 ∨ ss = 38) (h : (CI E mX1_has [pR 21, pI x3] M (fun r1 M2 => (iR r1) ∧ ((r1 = 0 → f 0 M2) ∧ (r1 ≠ 0 → (((bAnd (bShr s0 x3) 1) ≠ 0 → (CL E mX0_worthOf [pR 42, pR 21, pR ss, pI 0, pI x3] M2 (fun r4 M5 => (CL E mX0_limited [pL r4, pL 999, pL 1] M5 (fun r6 M7 => ((iR (M7 ss 1)) → ((iR (M7 ss 3)) → (lR ((M7 ss 3) + r6)) ∧ (iR (min 99999 ((M7 ss 3) + r6))) ∧ (CI E mX7_wornOf [pR ss, pI x3] (upM (upM M7 ss 1 (bXor (M7 ss 1) (bShl 1 x3))) ss 3 (min 99999 ((M7 ss 3) + r6))) (fun r12 M13 => (iR (r12 + 1)) ∧ (CV E mX7_wear [pR ss, pI x3, pI (min 999 (r12 + 1))] M13 (fun M16 => ((iR (M16 42 2)) → (((M16 42 2) = 0 → f 1 M16) ∧ ((M16 42 2) ≠ 0 → (CL E mX0_worthOf [pR 42, pR 21, pR ss, pI 1, pI x3] M16 (fun r18 M19 => (CL E mX0_worthOf [pR 42, pR 21, pR ss, pI 2, pI x3] M19 (fun r20 M21 => ((iR (M21 21 15)) → (CL E mX0_limited [pL r20, pL 100, pL (M21 21 15)] M21 (fun r23 M24 => (CI E mX0_rusts [pR 42, pR ss, pL r23] M24 (fun r25 M26 => (iR r25) ∧ ((r25 ≠ 0 → ((iR (M26 ss 2)) → f 1 (upM M26 ss 2 (bOr (M26 ss 2) (bShl 1 x3))))) ∧ (r25 = 0 → (lR r18) ∧ ((r18 = 0 → f 1 M26) ∧ (r18 ≠ 0 → (lR r18) ∧ ((r18 = (-9223372036854775808) → f 1 M26) ∧ (r18 ≠ (-9223372036854775808) → ((iR (M26 ss 2)) → f 1 (upM M26 ss 2 (bOr (M26 ss 2) (bShl 1 x3))))))))))))))))))))))))))))))))) ∧ ((bAnd (bShr s0 x3) 1) = 0 → f 0 M2))))))) : KW E mX0_pushes (qI f) M 34 [(0, pR 42), (1, pR 21), (2, pR ss), (3, pI x3)] [pI s0] := by
  rcases hs with rfl | rfl
  · refine w_istore dX0_pushes_34 (by decide) ?_
    refine w_aload_n dX0_pushes_36 rfl ?_
    refine w_iload_n dX0_pushes_37 rfl ?_
    refine k_vI (as := [pI x3]) dX0_pushes_38 kX0_77 ⟨⟨Nat.le_of_ble_eq_true rfl, rfl, rfl⟩, Nat.le_of_ble_eq_true rfl⟩ rfl (by decide) rfl (Nat.le_of_ble_eq_true rfl) h ?_
    intro r1 M2 h
    obtain ⟨o3, h⟩ := h
    refine w_if_eq dX0_pushes_41 rfl o3 (fun c => ?_) (fun c => ?_)
    · have h := h.1 c
      refine w_iconst dX0_pushes_53 ?_
      exact k_zret dX0_pushes_54 rfl (by decide) h
    · have h := h.2 c
      refine w_iload dX0_pushes_44 rfl ?_
      refine w_iload_n dX0_pushes_46 rfl ?_
      refine w_ishr dX0_pushes_47 ?_
      refine w_iconst dX0_pushes_48 ?_
      refine w_iand dX0_pushes_49 ?_
      refine w_if_ne dX0_pushes_50 rfl (bAnd_r _ _) (fun c => ?_) (fun c => ?_)
      · have h := h.1 c
        refine w_aload_n dX0_pushes_55 rfl ?_
        refine w_aload_n dX0_pushes_56 rfl ?_
        refine w_aload_n dX0_pushes_57 rfl ?_
        refine w_iconst dX0_pushes_58 ?_
        refine w_iload_n dX0_pushes_59 rfl ?_
        refine k_vL (as := [pR 21, pR 36, pI 0, pI x3]) dX0_pushes_60 kX0_80 ⟨⟨Nat.le_of_ble_eq_true rfl, rfl, rfl⟩, Nat.le_of_ble_eq_true rfl⟩ rfl (by decide) rfl (Nat.le_of_ble_eq_true rfl) h ?_
        intro r4 M5 h
        refine w_ldc2 dX0_pushes_63 qX0_84 ?_
        refine w_lconst (x := 1) dX0_pushes_66 rfl ?_
        refine k_sL (as := [pL r4, pL 999, pL 1]) dX0_pushes_67 kX0_86 ⟨⟨Nat.le_of_ble_eq_true rfl, rfl, rfl⟩, Nat.le_of_ble_eq_true rfl⟩ rfl (Nat.le_of_ble_eq_true rfl) h ?_
        intro r6 M7 h
        refine w_lstore dX0_pushes_70 (by decide) ?_
        refine w_aload_n dX0_pushes_72 rfl ?_
        refine w_dup dX0_pushes_73 rfl ?_
        refine w_getI (x := (M7 36 1)) dX0_pushes_74 fX0_70 rfl rfl rfl (fun g8 => ?_)
        have h := h g8
        refine w_iconst dX0_pushes_77 ?_
        refine w_iload_n dX0_pushes_78 rfl ?_
        refine w_ishl dX0_pushes_79 ?_
        refine w_ixor dX0_pushes_80 ?_
        refine w_putI dX0_pushes_81 (Or.inl ⟨rfl, fX0_70⟩) rfl rfl (bXor_r _ _) ?_
        refine w_aload_n dX0_pushes_84 rfl ?_
        refine w_ldc2 dX0_pushes_85 qX0_90 ?_
        refine w_aload_n dX0_pushes_88 rfl ?_
        refine w_getI (x := (M7 36 3)) dX0_pushes_89 fX0_92 rfl rfl rfl (fun g9 => ?_)
        have h := h g9
        refine w_i2l dX0_pushes_92 g9 ?_
        refine w_lload dX0_pushes_93 rfl ?_
        refine w_ladd dX0_pushes_95 ?_
        obtain ⟨o10, h⟩ := h
        refine w_lmin dX0_pushes_96 kX0_95 ⟨by decide, Nat.le_of_ble_eq_true rfl⟩ ⟨by decide, by decide⟩ ⟨(by decide), o10⟩ ?_
        refine w_l2i dX0_pushes_99 (minl_r (by decide) o10) ?_
        obtain ⟨o11, h⟩ := h
        refine w_putI dX0_pushes_100 (Or.inl ⟨rfl, fX0_92⟩) rfl rfl o11 ?_
        refine w_aload_n dX0_pushes_103 rfl ?_
        refine w_iload_n dX0_pushes_104 rfl ?_
        refine w_sipush dX0_pushes_105 (by decide) ?_
        refine w_aload_n dX0_pushes_108 rfl ?_
        refine w_iload_n dX0_pushes_109 rfl ?_
        refine k_vI (as := [pI x3]) dX0_pushes_110 kX0_101 ⟨⟨Nat.le_of_ble_eq_true rfl, rfl, rfl⟩, Nat.le_of_ble_eq_true rfl⟩ rfl (by decide) rfl (Nat.le_of_ble_eq_true rfl) h ?_
        intro r12 M13 h
        refine w_iconst dX0_pushes_113 ?_
        refine w_iadd dX0_pushes_114 ?_
        obtain ⟨o14, h⟩ := h
        refine w_imin dX0_pushes_115 kX0_105 ⟨by decide, Nat.le_of_ble_eq_true rfl⟩ ⟨by decide, by decide⟩ ⟨(by decide), o14⟩ ?_
        refine k_vV (as := [pI x3, pI (min 999 (r12 + 1))]) dX0_pushes_118 kX0_107 ⟨⟨Nat.le_of_ble_eq_true rfl, rfl, rfl⟩, Nat.le_of_ble_eq_true rfl⟩ rfl (by decide) rfl (Nat.le_of_ble_eq_true rfl) h ?_
        intro M16 h
        refine w_aload_n dX0_pushes_121 rfl ?_
        refine w_getI (x := (M16 42 2)) dX0_pushes_122 fX0_18 rfl rfl rfl (fun g17 => ?_)
        have h := h g17
        refine w_if_eq dX0_pushes_125 rfl g17 (fun c => ?_) (fun c => ?_)
        · have h := h.1 c
          refine w_iconst dX0_pushes_197 ?_
          exact k_zret dX0_pushes_198 rfl (by decide) h
        · have h := h.2 c
          refine w_aload_n dX0_pushes_128 rfl ?_
          refine w_aload_n dX0_pushes_129 rfl ?_
          refine w_aload_n dX0_pushes_130 rfl ?_
          refine w_iconst dX0_pushes_131 ?_
          refine w_iload_n dX0_pushes_132 rfl ?_
          refine k_vL (as := [pR 21, pR 36, pI 1, pI x3]) dX0_pushes_133 kX0_80 ⟨⟨Nat.le_of_ble_eq_true rfl, rfl, rfl⟩, Nat.le_of_ble_eq_true rfl⟩ rfl (by decide) rfl (Nat.le_of_ble_eq_true rfl) h ?_
          intro r18 M19 h
          refine w_lstore dX0_pushes_136 (by decide) ?_
          refine w_aload_n dX0_pushes_138 rfl ?_
          refine w_aload_n dX0_pushes_139 rfl ?_
          refine w_aload_n dX0_pushes_140 rfl ?_
          refine w_iconst dX0_pushes_141 ?_
          refine w_iload_n dX0_pushes_142 rfl ?_
          refine k_vL (as := [pR 21, pR 36, pI 2, pI x3]) dX0_pushes_143 kX0_80 ⟨⟨Nat.le_of_ble_eq_true rfl, rfl, rfl⟩, Nat.le_of_ble_eq_true rfl⟩ rfl (by decide) rfl (Nat.le_of_ble_eq_true rfl) h ?_
          intro r20 M21 h
          refine w_ldc2 dX0_pushes_146 qX0_111 ?_
          refine w_aload_n dX0_pushes_149 rfl ?_
          refine w_getI (x := (M21 21 15)) dX0_pushes_150 fX0_113 rfl rfl rfl (fun g22 => ?_)
          have h := h g22
          refine w_i2l dX0_pushes_153 g22 ?_
          refine k_sL (as := [pL r20, pL 100, pL (M21 21 15)]) dX0_pushes_154 kX0_86 ⟨⟨Nat.le_of_ble_eq_true rfl, rfl, rfl⟩, Nat.le_of_ble_eq_true rfl⟩ rfl (Nat.le_of_ble_eq_true rfl) h ?_
          intro r23 M24 h
          refine w_lstore dX0_pushes_157 (by decide) ?_
          refine w_aload_n dX0_pushes_159 rfl ?_
          refine w_aload_n dX0_pushes_160 rfl ?_
          refine w_lload dX0_pushes_161 rfl ?_
          refine k_vI (as := [pR 36, pL r23]) dX0_pushes_163 kX0_116 ⟨⟨Nat.le_of_ble_eq_true rfl, rfl, rfl⟩, Nat.le_of_ble_eq_true rfl⟩ rfl (by decide) rfl (Nat.le_of_ble_eq_true rfl) h ?_
          intro r25 M26 h
          obtain ⟨o27, h⟩ := h
          refine w_if_ne dX0_pushes_166 rfl o27 (fun c => ?_) (fun c => ?_)
          · have h := h.1 c
            refine w_aload_n dX0_pushes_185 rfl ?_
            refine w_dup dX0_pushes_186 rfl ?_
            refine w_getI (x := (M26 36 2)) dX0_pushes_187 fX0_47 rfl rfl rfl (fun g28 => ?_)
            have h := h g28
            refine w_iconst dX0_pushes_190 ?_
            refine w_iload_n dX0_pushes_191 rfl ?_
            refine w_ishl dX0_pushes_192 ?_
            refine w_ior dX0_pushes_193 ?_
            refine w_putI dX0_pushes_194 (Or.inl ⟨rfl, fX0_47⟩) rfl rfl (bOr_r _ _) ?_
            refine w_iconst dX0_pushes_197 ?_
            exact k_zret dX0_pushes_198 rfl (by decide) h
          · have h := h.2 c
            refine w_lload dX0_pushes_169 rfl ?_
            refine w_lconst (x := 0) dX0_pushes_171 rfl ?_
            obtain ⟨o29, h⟩ := h
            refine w_lcmp_eq dX0_pushes_172 dX0_pushes_173 rfl ⟨o29, (by decide)⟩ (fun c => ?_) (fun c => ?_)
            · have h := h.1 c
              refine w_iconst dX0_pushes_197 ?_
              exact k_zret dX0_pushes_198 rfl (by decide) h
            · have h := h.2 c
              refine w_lload dX0_pushes_176 rfl ?_
              refine w_ldc2 dX0_pushes_178 qX0_120 ?_
              obtain ⟨o30, h⟩ := h
              refine w_lcmp_eq dX0_pushes_181 dX0_pushes_182 rfl ⟨o30, (by decide)⟩ (fun c => ?_) (fun c => ?_)
              · have h := h.1 c
                refine w_iconst dX0_pushes_197 ?_
                exact k_zret dX0_pushes_198 rfl (by decide) h
              · have h := h.2 c
                refine w_aload_n dX0_pushes_185 rfl ?_
                refine w_dup dX0_pushes_186 rfl ?_
                refine w_getI (x := (M26 36 2)) dX0_pushes_187 fX0_47 rfl rfl rfl (fun g31 => ?_)
                have h := h g31
                refine w_iconst dX0_pushes_190 ?_
                refine w_iload_n dX0_pushes_191 rfl ?_
                refine w_ishl dX0_pushes_192 ?_
                refine w_ior dX0_pushes_193 ?_
                refine w_putI dX0_pushes_194 (Or.inl ⟨rfl, fX0_47⟩) rfl rfl (bOr_r _ _) ?_
                refine w_iconst dX0_pushes_197 ?_
                exact k_zret dX0_pushes_198 rfl (by decide) h
      · have h := h.2 c
        refine w_iconst dX0_pushes_53 ?_
        exact k_zret dX0_pushes_54 rfl (by decide) h
  · refine w_istore dX0_pushes_34 (by decide) ?_
    refine w_aload_n dX0_pushes_36 rfl ?_
    refine w_iload_n dX0_pushes_37 rfl ?_
    refine k_vI (as := [pI x3]) dX0_pushes_38 kX0_77 ⟨⟨Nat.le_of_ble_eq_true rfl, rfl, rfl⟩, Nat.le_of_ble_eq_true rfl⟩ rfl (by decide) rfl (Nat.le_of_ble_eq_true rfl) h ?_
    intro r1 M2 h
    obtain ⟨o3, h⟩ := h
    refine w_if_eq dX0_pushes_41 rfl o3 (fun c => ?_) (fun c => ?_)
    · have h := h.1 c
      refine w_iconst dX0_pushes_53 ?_
      exact k_zret dX0_pushes_54 rfl (by decide) h
    · have h := h.2 c
      refine w_iload dX0_pushes_44 rfl ?_
      refine w_iload_n dX0_pushes_46 rfl ?_
      refine w_ishr dX0_pushes_47 ?_
      refine w_iconst dX0_pushes_48 ?_
      refine w_iand dX0_pushes_49 ?_
      refine w_if_ne dX0_pushes_50 rfl (bAnd_r _ _) (fun c => ?_) (fun c => ?_)
      · have h := h.1 c
        refine w_aload_n dX0_pushes_55 rfl ?_
        refine w_aload_n dX0_pushes_56 rfl ?_
        refine w_aload_n dX0_pushes_57 rfl ?_
        refine w_iconst dX0_pushes_58 ?_
        refine w_iload_n dX0_pushes_59 rfl ?_
        refine k_vL (as := [pR 21, pR 38, pI 0, pI x3]) dX0_pushes_60 kX0_80 ⟨⟨Nat.le_of_ble_eq_true rfl, rfl, rfl⟩, Nat.le_of_ble_eq_true rfl⟩ rfl (by decide) rfl (Nat.le_of_ble_eq_true rfl) h ?_
        intro r4 M5 h
        refine w_ldc2 dX0_pushes_63 qX0_84 ?_
        refine w_lconst (x := 1) dX0_pushes_66 rfl ?_
        refine k_sL (as := [pL r4, pL 999, pL 1]) dX0_pushes_67 kX0_86 ⟨⟨Nat.le_of_ble_eq_true rfl, rfl, rfl⟩, Nat.le_of_ble_eq_true rfl⟩ rfl (Nat.le_of_ble_eq_true rfl) h ?_
        intro r6 M7 h
        refine w_lstore dX0_pushes_70 (by decide) ?_
        refine w_aload_n dX0_pushes_72 rfl ?_
        refine w_dup dX0_pushes_73 rfl ?_
        refine w_getI (x := (M7 38 1)) dX0_pushes_74 fX0_70 rfl rfl rfl (fun g8 => ?_)
        have h := h g8
        refine w_iconst dX0_pushes_77 ?_
        refine w_iload_n dX0_pushes_78 rfl ?_
        refine w_ishl dX0_pushes_79 ?_
        refine w_ixor dX0_pushes_80 ?_
        refine w_putI dX0_pushes_81 (Or.inl ⟨rfl, fX0_70⟩) rfl rfl (bXor_r _ _) ?_
        refine w_aload_n dX0_pushes_84 rfl ?_
        refine w_ldc2 dX0_pushes_85 qX0_90 ?_
        refine w_aload_n dX0_pushes_88 rfl ?_
        refine w_getI (x := (M7 38 3)) dX0_pushes_89 fX0_92 rfl rfl rfl (fun g9 => ?_)
        have h := h g9
        refine w_i2l dX0_pushes_92 g9 ?_
        refine w_lload dX0_pushes_93 rfl ?_
        refine w_ladd dX0_pushes_95 ?_
        obtain ⟨o10, h⟩ := h
        refine w_lmin dX0_pushes_96 kX0_95 ⟨by decide, Nat.le_of_ble_eq_true rfl⟩ ⟨by decide, by decide⟩ ⟨(by decide), o10⟩ ?_
        refine w_l2i dX0_pushes_99 (minl_r (by decide) o10) ?_
        obtain ⟨o11, h⟩ := h
        refine w_putI dX0_pushes_100 (Or.inl ⟨rfl, fX0_92⟩) rfl rfl o11 ?_
        refine w_aload_n dX0_pushes_103 rfl ?_
        refine w_iload_n dX0_pushes_104 rfl ?_
        refine w_sipush dX0_pushes_105 (by decide) ?_
        refine w_aload_n dX0_pushes_108 rfl ?_
        refine w_iload_n dX0_pushes_109 rfl ?_
        refine k_vI (as := [pI x3]) dX0_pushes_110 kX0_101 ⟨⟨Nat.le_of_ble_eq_true rfl, rfl, rfl⟩, Nat.le_of_ble_eq_true rfl⟩ rfl (by decide) rfl (Nat.le_of_ble_eq_true rfl) h ?_
        intro r12 M13 h
        refine w_iconst dX0_pushes_113 ?_
        refine w_iadd dX0_pushes_114 ?_
        obtain ⟨o14, h⟩ := h
        refine w_imin dX0_pushes_115 kX0_105 ⟨by decide, Nat.le_of_ble_eq_true rfl⟩ ⟨by decide, by decide⟩ ⟨(by decide), o14⟩ ?_
        refine k_vV (as := [pI x3, pI (min 999 (r12 + 1))]) dX0_pushes_118 kX0_107 ⟨⟨Nat.le_of_ble_eq_true rfl, rfl, rfl⟩, Nat.le_of_ble_eq_true rfl⟩ rfl (by decide) rfl (Nat.le_of_ble_eq_true rfl) h ?_
        intro M16 h
        refine w_aload_n dX0_pushes_121 rfl ?_
        refine w_getI (x := (M16 42 2)) dX0_pushes_122 fX0_18 rfl rfl rfl (fun g17 => ?_)
        have h := h g17
        refine w_if_eq dX0_pushes_125 rfl g17 (fun c => ?_) (fun c => ?_)
        · have h := h.1 c
          refine w_iconst dX0_pushes_197 ?_
          exact k_zret dX0_pushes_198 rfl (by decide) h
        · have h := h.2 c
          refine w_aload_n dX0_pushes_128 rfl ?_
          refine w_aload_n dX0_pushes_129 rfl ?_
          refine w_aload_n dX0_pushes_130 rfl ?_
          refine w_iconst dX0_pushes_131 ?_
          refine w_iload_n dX0_pushes_132 rfl ?_
          refine k_vL (as := [pR 21, pR 38, pI 1, pI x3]) dX0_pushes_133 kX0_80 ⟨⟨Nat.le_of_ble_eq_true rfl, rfl, rfl⟩, Nat.le_of_ble_eq_true rfl⟩ rfl (by decide) rfl (Nat.le_of_ble_eq_true rfl) h ?_
          intro r18 M19 h
          refine w_lstore dX0_pushes_136 (by decide) ?_
          refine w_aload_n dX0_pushes_138 rfl ?_
          refine w_aload_n dX0_pushes_139 rfl ?_
          refine w_aload_n dX0_pushes_140 rfl ?_
          refine w_iconst dX0_pushes_141 ?_
          refine w_iload_n dX0_pushes_142 rfl ?_
          refine k_vL (as := [pR 21, pR 38, pI 2, pI x3]) dX0_pushes_143 kX0_80 ⟨⟨Nat.le_of_ble_eq_true rfl, rfl, rfl⟩, Nat.le_of_ble_eq_true rfl⟩ rfl (by decide) rfl (Nat.le_of_ble_eq_true rfl) h ?_
          intro r20 M21 h
          refine w_ldc2 dX0_pushes_146 qX0_111 ?_
          refine w_aload_n dX0_pushes_149 rfl ?_
          refine w_getI (x := (M21 21 15)) dX0_pushes_150 fX0_113 rfl rfl rfl (fun g22 => ?_)
          have h := h g22
          refine w_i2l dX0_pushes_153 g22 ?_
          refine k_sL (as := [pL r20, pL 100, pL (M21 21 15)]) dX0_pushes_154 kX0_86 ⟨⟨Nat.le_of_ble_eq_true rfl, rfl, rfl⟩, Nat.le_of_ble_eq_true rfl⟩ rfl (Nat.le_of_ble_eq_true rfl) h ?_
          intro r23 M24 h
          refine w_lstore dX0_pushes_157 (by decide) ?_
          refine w_aload_n dX0_pushes_159 rfl ?_
          refine w_aload_n dX0_pushes_160 rfl ?_
          refine w_lload dX0_pushes_161 rfl ?_
          refine k_vI (as := [pR 38, pL r23]) dX0_pushes_163 kX0_116 ⟨⟨Nat.le_of_ble_eq_true rfl, rfl, rfl⟩, Nat.le_of_ble_eq_true rfl⟩ rfl (by decide) rfl (Nat.le_of_ble_eq_true rfl) h ?_
          intro r25 M26 h
          obtain ⟨o27, h⟩ := h
          refine w_if_ne dX0_pushes_166 rfl o27 (fun c => ?_) (fun c => ?_)
          · have h := h.1 c
            refine w_aload_n dX0_pushes_185 rfl ?_
            refine w_dup dX0_pushes_186 rfl ?_
            refine w_getI (x := (M26 38 2)) dX0_pushes_187 fX0_47 rfl rfl rfl (fun g28 => ?_)
            have h := h g28
            refine w_iconst dX0_pushes_190 ?_
            refine w_iload_n dX0_pushes_191 rfl ?_
            refine w_ishl dX0_pushes_192 ?_
            refine w_ior dX0_pushes_193 ?_
            refine w_putI dX0_pushes_194 (Or.inl ⟨rfl, fX0_47⟩) rfl rfl (bOr_r _ _) ?_
            refine w_iconst dX0_pushes_197 ?_
            exact k_zret dX0_pushes_198 rfl (by decide) h
          · have h := h.2 c
            refine w_lload dX0_pushes_169 rfl ?_
            refine w_lconst (x := 0) dX0_pushes_171 rfl ?_
            obtain ⟨o29, h⟩ := h
            refine w_lcmp_eq dX0_pushes_172 dX0_pushes_173 rfl ⟨o29, (by decide)⟩ (fun c => ?_) (fun c => ?_)
            · have h := h.1 c
              refine w_iconst dX0_pushes_197 ?_
              exact k_zret dX0_pushes_198 rfl (by decide) h
            · have h := h.2 c
              refine w_lload dX0_pushes_176 rfl ?_
              refine w_ldc2 dX0_pushes_178 qX0_120 ?_
              obtain ⟨o30, h⟩ := h
              refine w_lcmp_eq dX0_pushes_181 dX0_pushes_182 rfl ⟨o30, (by decide)⟩ (fun c => ?_) (fun c => ?_)
              · have h := h.1 c
                refine w_iconst dX0_pushes_197 ?_
                exact k_zret dX0_pushes_198 rfl (by decide) h
              · have h := h.2 c
                refine w_aload_n dX0_pushes_185 rfl ?_
                refine w_dup dX0_pushes_186 rfl ?_
                refine w_getI (x := (M26 38 2)) dX0_pushes_187 fX0_47 rfl rfl rfl (fun g31 => ?_)
                have h := h g31
                refine w_iconst dX0_pushes_190 ?_
                refine w_iload_n dX0_pushes_191 rfl ?_
                refine w_ishl dX0_pushes_192 ?_
                refine w_ior dX0_pushes_193 ?_
                refine w_putI dX0_pushes_194 (Or.inl ⟨rfl, fX0_47⟩) rfl rfl (bOr_r _ _) ?_
                refine w_iconst dX0_pushes_197 ?_
                exact k_zret dX0_pushes_198 rfl (by decide) h
      · have h := h.2 c
        refine w_iconst dX0_pushes_53 ?_
        exact k_zret dX0_pushes_54 rfl (by decide) h
theorem vX0_rusts_0 {E : Scr} {f : Int → Mem → Prop} {M : Mem} (x2 : Int) {ss : Nat} (hs : ss = 36 ∨ ss = 38) (h : (lR x2) ∧ ((x2 ≤ 0 → (lR x2) ∧ ((x2 < 100 → f 0 M) ∧ (x2 ≥ 100 → f 1 M))) ∧ (x2 > 0 → (lR x2) ∧ ((x2 < 100 → ((zR (M 42 1)) → (((M 42 1) ≠ 0 → ((lR (M ss 5)) → ((lR (lAnd (((M ss 5) * 1103515245) + 12345) 2147483647)) → (lR (Int.tdiv (lAnd (((M ss 5) * 1103515245) + 12345) 2147483647) 65536)) ∧ (lR (Int.tmod (Int.tdiv (lAnd (((M ss 5) * 1103515245) + 12345) 2147483647) 65536) 100)) ∧ (lR x2) ∧ (((Int.tmod (Int.tdiv (lAnd (((M ss 5) * 1103515245) + 12345) 2147483647) 65536) 100) ≥ x2 → f 0 (upM M ss 5 (lAnd (((M ss 5) * 1103515245) + 12345) 2147483647))) ∧ ((Int.tmod (Int.tdiv (lAnd (((M ss 5) * 1103515245) + 12345) 2147483647) 65536) 100) < x2 → f 1 (upM M ss 5 (lAnd (((M ss 5) * 1103515245) + 12345) 2147483647))))))) ∧ ((M 42 1) = 0 → (lR x2) ∧ ((x2 < 50 → f 0 M) ∧ (x2 ≥ 50 → f 1 M)))))) ∧ (x2 ≥ 100 → (lR x2) ∧ ((x2 < 100 → f 0 M) ∧ (x2 ≥ 100 → f 1 M))))))) : CI E mX0_rusts [pR 42, pR ss, pL x2] M f := by
  rcases hs with rfl | rfl
  · refine (show KW E mX0_rusts (qI f) M 0 [(0, pR 42), (1, pR 36), (2, pL x2)] [] from ?_)
    refine w_lload_n dX0_rusts_0 rfl ?_
    refine w_lconst (x := 0) dX0_rusts_1 rfl ?_
    obtain ⟨o1, h⟩ := h
    refine w_lcmp_le dX0_rusts_2 dX0_rusts_3 rfl ⟨o1, (by decide)⟩ (fun c => ?_) (fun c => ?_)
    · have h := h.1 c
      refine w_lload_n dX0_rusts_14 rfl ?_
      refine w_ldc2 dX0_rusts_15 qX0_111 ?_
      obtain ⟨o2, h⟩ := h
      refine w_lcmp_lt dX0_rusts_18 dX0_rusts_19 rfl ⟨o2, (by decide)⟩ (fun c => ?_) (fun c => ?_)
      · have h := h.1 c
        refine w_iconst dX0_rusts_26 ?_
        exact k_zret dX0_rusts_27 rfl (by decide) h
      · have h := h.2 c
        refine w_iconst dX0_rusts_22 ?_
        refine w_goto dX0_rusts_23 rfl ?_
        exact k_zret dX0_rusts_27 rfl (by decide) h
    · have h := h.2 c
      refine w_lload_n dX0_rusts_6 rfl ?_
      refine w_ldc2 dX0_rusts_7 qX0_111 ?_
      obtain ⟨o3, h⟩ := h
      refine w_lcmp_lt dX0_rusts_10 dX0_rusts_11 rfl ⟨o3, (by decide)⟩ (fun c => ?_) (fun c => ?_)
      · have h := h.1 c
        refine w_aload_n dX0_rusts_28 rfl ?_
        refine w_getZ (x := (M 42 1)) dX0_rusts_29 fX0_25 rfl rfl rfl (fun g4 => ?_)
        have h := h g4
        refine w_if_ne dX0_rusts_32 rfl (z2i g4) (fun c => ?_) (fun c => ?_)
        · have h := h.1 c
          refine w_aload_n dX0_rusts_49 rfl ?_
          refine w_aload_n dX0_rusts_50 rfl ?_
          refine w_getL (x := (M 36 5)) dX0_rusts_51 fX0_124 rfl rfl rfl (fun g5 => ?_)
          have h := h g5
          refine w_ldc2 dX0_rusts_54 qX0_128 ?_
          refine w_lmul dX0_rusts_57 ?_
          refine w_ldc2 dX0_rusts_58 qX0_130 ?_
          refine w_ladd dX0_rusts_61 ?_
          refine w_ldc2 dX0_rusts_62 qX0_132 ?_
          refine w_land dX0_rusts_65 ?_
          refine w_putL dX0_rusts_66 (Or.inl ⟨rfl, fX0_124⟩) rfl rfl (lAnd_r _ _) ?_
          refine w_aload_n dX0_rusts_69 rfl ?_
          refine w_getL (x := (lAnd (((M 36 5) * 1103515245) + 12345) 2147483647)) dX0_rusts_70 fX0_124 rfl rfl rfl (fun g6 => ?_)
          have h := h g6
          refine w_ldc2 dX0_rusts_73 qX0_134 ?_
          refine w_ldiv dX0_rusts_76 ⟨g6, (by decide), (by decide)⟩ ?_
          refine w_ldc2 dX0_rusts_77 qX0_111 ?_
          obtain ⟨o7, h⟩ := h
          refine w_lrem dX0_rusts_80 ⟨o7, (by decide), (by decide)⟩ ?_
          refine w_lload_n dX0_rusts_81 rfl ?_
          obtain ⟨o8, h⟩ := h
          obtain ⟨o9, h⟩ := h
          refine w_lcmp_ge dX0_rusts_82 dX0_rusts_83 rfl ⟨o8, o9⟩ (fun c => ?_) (fun c => ?_)
          · have h := h.1 c
            refine w_iconst dX0_rusts_90 ?_
            exact k_zret dX0_rusts_91 rfl (by decide) h
          · have h := h.2 c
            refine w_iconst dX0_rusts_86 ?_
            refine w_goto dX0_rusts_87 rfl ?_
            exact k_zret dX0_rusts_91 rfl (by decide) h
        · have h := h.2 c
          refine w_lload_n dX0_rusts_35 rfl ?_
          refine w_ldc2 dX0_rusts_36 qX0_122 ?_
          obtain ⟨o10, h⟩ := h
          refine w_lcmp_lt dX0_rusts_39 dX0_rusts_40 rfl ⟨o10, (by decide)⟩ (fun c => ?_) (fun c => ?_)
          · have h := h.1 c
            refine w_iconst dX0_rusts_47 ?_
            exact k_zret dX0_rusts_48 rfl (by decide) h
          · have h := h.2 c
            refine w_iconst dX0_rusts_43 ?_
            refine w_goto dX0_rusts_44 rfl ?_
            exact k_zret dX0_rusts_48 rfl (by decide) h
      · have h := h.2 c
        refine w_lload_n dX0_rusts_14 rfl ?_
        refine w_ldc2 dX0_rusts_15 qX0_111 ?_
        obtain ⟨o11, h⟩ := h
        refine w_lcmp_lt dX0_rusts_18 dX0_rusts_19 rfl ⟨o11, (by decide)⟩ (fun c => ?_) (fun c => ?_)
        · have h := h.1 c
          refine w_iconst dX0_rusts_26 ?_
          exact k_zret dX0_rusts_27 rfl (by decide) h
        · have h := h.2 c
          refine w_iconst dX0_rusts_22 ?_
          refine w_goto dX0_rusts_23 rfl ?_
          exact k_zret dX0_rusts_27 rfl (by decide) h
  · refine (show KW E mX0_rusts (qI f) M 0 [(0, pR 42), (1, pR 38), (2, pL x2)] [] from ?_)
    refine w_lload_n dX0_rusts_0 rfl ?_
    refine w_lconst (x := 0) dX0_rusts_1 rfl ?_
    obtain ⟨o1, h⟩ := h
    refine w_lcmp_le dX0_rusts_2 dX0_rusts_3 rfl ⟨o1, (by decide)⟩ (fun c => ?_) (fun c => ?_)
    · have h := h.1 c
      refine w_lload_n dX0_rusts_14 rfl ?_
      refine w_ldc2 dX0_rusts_15 qX0_111 ?_
      obtain ⟨o2, h⟩ := h
      refine w_lcmp_lt dX0_rusts_18 dX0_rusts_19 rfl ⟨o2, (by decide)⟩ (fun c => ?_) (fun c => ?_)
      · have h := h.1 c
        refine w_iconst dX0_rusts_26 ?_
        exact k_zret dX0_rusts_27 rfl (by decide) h
      · have h := h.2 c
        refine w_iconst dX0_rusts_22 ?_
        refine w_goto dX0_rusts_23 rfl ?_
        exact k_zret dX0_rusts_27 rfl (by decide) h
    · have h := h.2 c
      refine w_lload_n dX0_rusts_6 rfl ?_
      refine w_ldc2 dX0_rusts_7 qX0_111 ?_
      obtain ⟨o3, h⟩ := h
      refine w_lcmp_lt dX0_rusts_10 dX0_rusts_11 rfl ⟨o3, (by decide)⟩ (fun c => ?_) (fun c => ?_)
      · have h := h.1 c
        refine w_aload_n dX0_rusts_28 rfl ?_
        refine w_getZ (x := (M 42 1)) dX0_rusts_29 fX0_25 rfl rfl rfl (fun g4 => ?_)
        have h := h g4
        refine w_if_ne dX0_rusts_32 rfl (z2i g4) (fun c => ?_) (fun c => ?_)
        · have h := h.1 c
          refine w_aload_n dX0_rusts_49 rfl ?_
          refine w_aload_n dX0_rusts_50 rfl ?_
          refine w_getL (x := (M 38 5)) dX0_rusts_51 fX0_124 rfl rfl rfl (fun g5 => ?_)
          have h := h g5
          refine w_ldc2 dX0_rusts_54 qX0_128 ?_
          refine w_lmul dX0_rusts_57 ?_
          refine w_ldc2 dX0_rusts_58 qX0_130 ?_
          refine w_ladd dX0_rusts_61 ?_
          refine w_ldc2 dX0_rusts_62 qX0_132 ?_
          refine w_land dX0_rusts_65 ?_
          refine w_putL dX0_rusts_66 (Or.inl ⟨rfl, fX0_124⟩) rfl rfl (lAnd_r _ _) ?_
          refine w_aload_n dX0_rusts_69 rfl ?_
          refine w_getL (x := (lAnd (((M 38 5) * 1103515245) + 12345) 2147483647)) dX0_rusts_70 fX0_124 rfl rfl rfl (fun g6 => ?_)
          have h := h g6
          refine w_ldc2 dX0_rusts_73 qX0_134 ?_
          refine w_ldiv dX0_rusts_76 ⟨g6, (by decide), (by decide)⟩ ?_
          refine w_ldc2 dX0_rusts_77 qX0_111 ?_
          obtain ⟨o7, h⟩ := h
          refine w_lrem dX0_rusts_80 ⟨o7, (by decide), (by decide)⟩ ?_
          refine w_lload_n dX0_rusts_81 rfl ?_
          obtain ⟨o8, h⟩ := h
          obtain ⟨o9, h⟩ := h
          refine w_lcmp_ge dX0_rusts_82 dX0_rusts_83 rfl ⟨o8, o9⟩ (fun c => ?_) (fun c => ?_)
          · have h := h.1 c
            refine w_iconst dX0_rusts_90 ?_
            exact k_zret dX0_rusts_91 rfl (by decide) h
          · have h := h.2 c
            refine w_iconst dX0_rusts_86 ?_
            refine w_goto dX0_rusts_87 rfl ?_
            exact k_zret dX0_rusts_91 rfl (by decide) h
        · have h := h.2 c
          refine w_lload_n dX0_rusts_35 rfl ?_
          refine w_ldc2 dX0_rusts_36 qX0_122 ?_
          obtain ⟨o10, h⟩ := h
          refine w_lcmp_lt dX0_rusts_39 dX0_rusts_40 rfl ⟨o10, (by decide)⟩ (fun c => ?_) (fun c => ?_)
          · have h := h.1 c
            refine w_iconst dX0_rusts_47 ?_
            exact k_zret dX0_rusts_48 rfl (by decide) h
          · have h := h.2 c
            refine w_iconst dX0_rusts_43 ?_
            refine w_goto dX0_rusts_44 rfl ?_
            exact k_zret dX0_rusts_48 rfl (by decide) h
      · have h := h.2 c
        refine w_lload_n dX0_rusts_14 rfl ?_
        refine w_ldc2 dX0_rusts_15 qX0_111 ?_
        obtain ⟨o11, h⟩ := h
        refine w_lcmp_lt dX0_rusts_18 dX0_rusts_19 rfl ⟨o11, (by decide)⟩ (fun c => ?_) (fun c => ?_)
        · have h := h.1 c
          refine w_iconst dX0_rusts_26 ?_
          exact k_zret dX0_rusts_27 rfl (by decide) h
        · have h := h.2 c
          refine w_iconst dX0_rusts_22 ?_
          refine w_goto dX0_rusts_23 rfl ?_
          exact k_zret dX0_rusts_27 rfl (by decide) h
theorem vX0_limited_0 {E : Scr} {f : Int → Mem → Prop} {M : Mem} (x0 x2 x4 : Int) (h : (lR x0) ∧ ((x0 ≠ (-9223372036854775808) → (lR x2) ∧ (lR x0) ∧ f (max 0 (min x2 x0)) M) ∧ (x0 = (-9223372036854775808) → f x4 M))) : CL E mX0_limited [pL x0, pL x2, pL x4] M f := by
  refine (show KW E mX0_limited (qL f) M 0 [(0, pL x0), (2, pL x2), (4, pL x4)] [] from ?_)
  refine w_lload_n dX0_limited_0 rfl ?_
  refine w_ldc2 dX0_limited_1 qX0_120 ?_
  obtain ⟨o1, h⟩ := h
  refine w_lcmp_ne dX0_limited_4 dX0_limited_5 rfl ⟨o1, (by decide)⟩ (fun c => ?_) (fun c => ?_)
  · have h := h.1 c
    refine w_lconst (x := 0) dX0_limited_11 rfl ?_
    refine w_lload_n dX0_limited_12 rfl ?_
    refine w_lload_n dX0_limited_13 rfl ?_
    obtain ⟨o2, h⟩ := h
    obtain ⟨o3, h⟩ := h
    refine w_lmin dX0_limited_14 kX0_95 ⟨by decide, Nat.le_of_ble_eq_true rfl⟩ ⟨by decide, by decide⟩ ⟨o2, o3⟩ ?_
    refine w_lmax dX0_limited_17 kX0_136 ⟨by decide, Nat.le_of_ble_eq_true rfl⟩ ⟨by decide, by decide⟩ ⟨(by decide), (minl_r o2 o3)⟩ ?_
    exact k_lret dX0_limited_20 rfl h
  · have h := h.2 c
    refine w_lload dX0_limited_8 rfl ?_
    exact k_lret dX0_limited_10 rfl h
theorem vX0_worthOf_0 {E : Scr} {f : Int → Mem → Prop} {M : Mem} (x3 x4 : Int) {ss : Nat} (hs : ss = 36 ∨ ss = 38) (h : (CI E mX1_hasLaw [pR 21, pI x3] M (fun r1 M2 => (iR r1) ∧ ((r1 ≠ 0 → (CV E mX6_look [pR 43, pR ss, pI x4] M2 (fun M5 => (0 ≤ (2 * x3) ∧ (2 * x3) < 6) ∧ ((iR (M5 30 ((2 * x3).toNat))) → (0 ≤ ((2 * x3) + 1) ∧ ((2 * x3) + 1) < 6) ∧ ((iR (M5 30 (((2 * x3) + 1).toNat))) → (CL E mX2_worth [pR 31, pI (M5 30 ((2 * x3).toNat)), pI (M5 30 (((2 * x3) + 1).toNat)), pR 43] M5 (fun r10 M11 => f r10 M11))))))) ∧ (r1 = 0 → f (-9223372036854775808) M2))))) : CL E mX0_worthOf [pR 42, pR 21, pR ss, pI x3, pI x4] M f := by
  rcases hs with rfl | rfl
  · refine (show KW E mX0_worthOf (qL f) M 0 [(0, pR 42), (1, pR 21), (2, pR 36), (3, pI x3), (4, pI x4)] [] from ?_)
    refine w_aload_n dX0_worthOf_0 rfl ?_
    refine w_iload_n dX0_worthOf_1 rfl ?_
    refine k_vI (as := [pI x3]) dX0_worthOf_2 kX0_139 ⟨⟨Nat.le_of_ble_eq_true rfl, rfl, rfl⟩, Nat.le_of_ble_eq_true rfl⟩ rfl (by decide) rfl (Nat.le_of_ble_eq_true rfl) h ?_
    intro r1 M2 h
    obtain ⟨o3, h⟩ := h
    refine w_if_ne dX0_worthOf_5 rfl o3 (fun c => ?_) (fun c => ?_)
    · have h := h.1 c
      refine w_aload_n dX0_worthOf_12 rfl ?_
      refine w_getR dX0_worthOf_13 fX0_12 rfl rfl rfl ?_
      refine w_aload_n dX0_worthOf_16 rfl ?_
      refine w_iload dX0_worthOf_17 rfl ?_
      refine k_vV (as := [pR 36, pI x4]) dX0_worthOf_19 kX0_142 ⟨⟨Nat.le_of_ble_eq_true rfl, rfl, rfl⟩, Nat.le_of_ble_eq_true rfl⟩ rfl (by decide) rfl (Nat.le_of_ble_eq_true rfl) h ?_
      intro M5 h
      refine w_aload_n dX0_worthOf_22 rfl ?_
      refine w_getR dX0_worthOf_23 fX0_146 rfl rfl rfl ?_
      refine w_aload_n dX0_worthOf_26 rfl ?_
      refine w_getR dX0_worthOf_27 fX0_150 rfl rfl rfl ?_
      refine w_iconst dX0_worthOf_30 ?_
      refine w_iload_n dX0_worthOf_31 rfl ?_
      refine w_imul dX0_worthOf_32 ?_
      obtain ⟨o6, h⟩ := h
      refine w_iald (x := (M5 30 ((2 * x3).toNat))) dX0_worthOf_33 rfl o6 rfl (fun g7 => ?_)
      have h := h g7
      refine w_aload_n dX0_worthOf_34 rfl ?_
      refine w_getR dX0_worthOf_35 fX0_150 rfl rfl rfl ?_
      refine w_iconst dX0_worthOf_38 ?_
      refine w_iload_n dX0_worthOf_39 rfl ?_
      refine w_imul dX0_worthOf_40 ?_
      refine w_iconst dX0_worthOf_41 ?_
      refine w_iadd dX0_worthOf_42 ?_
      obtain ⟨o8, h⟩ := h
      refine w_iald (x := (M5 30 (((2 * x3) + 1).toNat))) dX0_worthOf_43 rfl o8 rfl (fun g9 => ?_)
      have h := h g9
      refine w_aload_n dX0_worthOf_44 rfl ?_
      refine w_getR dX0_worthOf_45 fX0_12 rfl rfl rfl ?_
      refine k_vL (as := [pI (M5 30 ((2 * x3).toNat)), pI (M5 30 (((2 * x3) + 1).toNat)), pR 43]) dX0_worthOf_48 kX0_153 ⟨⟨Nat.le_of_ble_eq_true rfl, rfl, rfl⟩, Nat.le_of_ble_eq_true rfl⟩ rfl (by decide) rfl (Nat.le_of_ble_eq_true rfl) h ?_
      intro r10 M11 h
      exact k_lret dX0_worthOf_51 rfl h
    · have h := h.2 c
      refine w_ldc2 dX0_worthOf_8 qX0_120 ?_
      exact k_lret dX0_worthOf_11 rfl h
  · refine (show KW E mX0_worthOf (qL f) M 0 [(0, pR 42), (1, pR 21), (2, pR 38), (3, pI x3), (4, pI x4)] [] from ?_)
    refine w_aload_n dX0_worthOf_0 rfl ?_
    refine w_iload_n dX0_worthOf_1 rfl ?_
    refine k_vI (as := [pI x3]) dX0_worthOf_2 kX0_139 ⟨⟨Nat.le_of_ble_eq_true rfl, rfl, rfl⟩, Nat.le_of_ble_eq_true rfl⟩ rfl (by decide) rfl (Nat.le_of_ble_eq_true rfl) h ?_
    intro r1 M2 h
    obtain ⟨o3, h⟩ := h
    refine w_if_ne dX0_worthOf_5 rfl o3 (fun c => ?_) (fun c => ?_)
    · have h := h.1 c
      refine w_aload_n dX0_worthOf_12 rfl ?_
      refine w_getR dX0_worthOf_13 fX0_12 rfl rfl rfl ?_
      refine w_aload_n dX0_worthOf_16 rfl ?_
      refine w_iload dX0_worthOf_17 rfl ?_
      refine k_vV (as := [pR 38, pI x4]) dX0_worthOf_19 kX0_142 ⟨⟨Nat.le_of_ble_eq_true rfl, rfl, rfl⟩, Nat.le_of_ble_eq_true rfl⟩ rfl (by decide) rfl (Nat.le_of_ble_eq_true rfl) h ?_
      intro M5 h
      refine w_aload_n dX0_worthOf_22 rfl ?_
      refine w_getR dX0_worthOf_23 fX0_146 rfl rfl rfl ?_
      refine w_aload_n dX0_worthOf_26 rfl ?_
      refine w_getR dX0_worthOf_27 fX0_150 rfl rfl rfl ?_
      refine w_iconst dX0_worthOf_30 ?_
      refine w_iload_n dX0_worthOf_31 rfl ?_
      refine w_imul dX0_worthOf_32 ?_
      obtain ⟨o6, h⟩ := h
      refine w_iald (x := (M5 30 ((2 * x3).toNat))) dX0_worthOf_33 rfl o6 rfl (fun g7 => ?_)
      have h := h g7
      refine w_aload_n dX0_worthOf_34 rfl ?_
      refine w_getR dX0_worthOf_35 fX0_150 rfl rfl rfl ?_
      refine w_iconst dX0_worthOf_38 ?_
      refine w_iload_n dX0_worthOf_39 rfl ?_
      refine w_imul dX0_worthOf_40 ?_
      refine w_iconst dX0_worthOf_41 ?_
      refine w_iadd dX0_worthOf_42 ?_
      obtain ⟨o8, h⟩ := h
      refine w_iald (x := (M5 30 (((2 * x3) + 1).toNat))) dX0_worthOf_43 rfl o8 rfl (fun g9 => ?_)
      have h := h g9
      refine w_aload_n dX0_worthOf_44 rfl ?_
      refine w_getR dX0_worthOf_45 fX0_12 rfl rfl rfl ?_
      refine k_vL (as := [pI (M5 30 ((2 * x3).toNat)), pI (M5 30 (((2 * x3) + 1).toNat)), pR 43]) dX0_worthOf_48 kX0_153 ⟨⟨Nat.le_of_ble_eq_true rfl, rfl, rfl⟩, Nat.le_of_ble_eq_true rfl⟩ rfl (by decide) rfl (Nat.le_of_ble_eq_true rfl) h ?_
      intro r10 M11 h
      exact k_lret dX0_worthOf_51 rfl h
    · have h := h.2 c
      refine w_ldc2 dX0_worthOf_8 qX0_120 ?_
      exact k_lret dX0_worthOf_11 rfl h
theorem vX9_clear_0 {E : Scr} {f : Mem → Prop} {M : Mem} (h : f (upM (upM M 44 5 0) 44 6 0)) : CV E mX9_clear [pR 44] M f := by
  refine (show KW E mX9_clear (qV f) M 0 [(0, pR 44)] [] from ?_)
  refine w_aload_n dX9_clear_0 rfl ?_
  refine w_iconst dX9_clear_1 ?_
  refine w_putI dX9_clear_2 (Or.inl ⟨rfl, fX9_27⟩) rfl rfl (by decide) ?_
  refine w_aload_n dX9_clear_5 rfl ?_
  refine w_iconst dX9_clear_6 ?_
  refine w_putI dX9_clear_7 (Or.inl ⟨rfl, fX9_31⟩) rfl rfl (by decide) ?_
  exact k_vret dX9_clear_10 rfl h
theorem vX9_remember_0 {E : Scr} {f : Mem → Prop} {M : Mem} (x2 : Int) (h : ((iR (M 44 6)) → (((M 44 6) ≠ 20 → (KW E mX9_remember (qV f) M 34 [(0, pR 44), (1, pR 36), (2, pI x2)] [])) ∧ ((M 44 6) = 20 → ((iR (M 44 5)) → (CI E mJ9_floorMod_7cf53 [pI ((M 44 5) + 1), pI 20] M (fun r3 M4 => (iR r3) ∧ ((iR (M4 44 6)) → (iR ((M4 44 6) - 1)) ∧ (KW E mX9_remember (qV f) (upM (upM M4 44 5 r3) 44 6 ((M4 44 6) - 1)) 34 [(0, pR 44), (1, pR 36), (2, pI x2)] []))))))))) : CV E mX9_remember [pR 44, pR 36, pI x2] M f := by
  refine (show KW E mX9_remember (qV f) M 0 [(0, pR 44), (1, pR 36), (2, pI x2)] [] from ?_)
  refine w_aload_n dX9_remember_0 rfl ?_
  refine w_getI (x := (M 44 6)) dX9_remember_1 fX9_31 rfl rfl rfl (fun g1 => ?_)
  have h := h g1
  refine w_bipush dX9_remember_4 (by decide) ?_
  refine w_icmp_ne dX9_remember_6 rfl ⟨g1, (by decide)⟩ (fun c => ?_) (fun c => ?_)
  · have h := h.1 c
    exact k_pick [0, 1, 2] rfl h
  · have h := h.2 c
    refine w_aload_n dX9_remember_9 rfl ?_
    refine w_aload_n dX9_remember_10 rfl ?_
    refine w_getI (x := (M 44 5)) dX9_remember_11 fX9_27 rfl rfl rfl (fun g2 => ?_)
    have h := h g2
    refine w_iconst dX9_remember_14 ?_
    refine w_iadd dX9_remember_15 ?_
    refine w_bipush dX9_remember_16 (by decide) ?_
    refine k_sI (as := [pI ((M 44 5) + 1), pI 20]) dX9_remember_18 kX9_34 ⟨⟨Nat.le_of_ble_eq_true rfl, rfl, rfl⟩, Nat.le_of_ble_eq_true rfl⟩ rfl (Nat.le_of_ble_eq_true rfl) h ?_
    intro r3 M4 h
    obtain ⟨o5, h⟩ := h
    refine w_putI dX9_remember_21 (Or.inl ⟨rfl, fX9_27⟩) rfl rfl o5 ?_
    refine w_aload_n dX9_remember_24 rfl ?_
    refine w_dup dX9_remember_25 rfl ?_
    refine w_getI (x := (M4 44 6)) dX9_remember_26 fX9_31 rfl rfl rfl (fun g6 => ?_)
    have h := h g6
    refine w_iconst dX9_remember_29 ?_
    refine w_isub dX9_remember_30 ?_
    obtain ⟨o7, h⟩ := h
    refine w_putI dX9_remember_31 (Or.inl ⟨rfl, fX9_31⟩) rfl rfl o7 ?_
    exact k_pick [0, 1, 2] rfl h
theorem vX9_remember_34 {E : Scr} {f : Mem → Prop} {M : Mem} (x2 : Int) (h : ((iR (M 44 5)) → ((iR (M 44 6)) → (CI E mJ9_floorMod_7cf53 [pI ((M 44 5) + (M 44 6)), pI 20] M (fun r3 M4 => ((iR (M4 36 1)) → (0 ≤ r3 ∧ r3 < 20) ∧ ((iR (M4 36 2)) → (0 ≤ r3 ∧ r3 < 20) ∧ ((iR (M4 36 3)) → (0 ≤ r3 ∧ r3 < 20) ∧ (0 ≤ r3 ∧ r3 < 20) ∧ (iR x2) ∧ (CI E mX7_wornOf [pR 36, pI x2] (upM (upM (upM (upM M4 45 r3.toNat (M4 36 1)) 46 r3.toNat (M4 36 2)) 47 r3.toNat (M4 36 3)) 48 r3.toNat x2) (fun r13 M14 => (0 ≤ r3 ∧ r3 < 20) ∧ (iR r13) ∧ ((iR (M14 44 6)) → (iR ((M14 44 6) + 1)) ∧ f (upM (upM M14 49 r3.toNat r13) 44 6 ((M14 44 6) + 1))))))))))))) : KW E mX9_remember (qV f) M 34 [(0, pR 44), (1, pR 36), (2, pI x2)] [] := by
  refine w_aload_n dX9_remember_34 rfl ?_
  refine w_getI (x := (M 44 5)) dX9_remember_35 fX9_27 rfl rfl rfl (fun g1 => ?_)
  have h := h g1
  refine w_aload_n dX9_remember_38 rfl ?_
  refine w_getI (x := (M 44 6)) dX9_remember_39 fX9_31 rfl rfl rfl (fun g2 => ?_)
  have h := h g2
  refine w_iadd dX9_remember_42 ?_
  refine w_bipush dX9_remember_43 (by decide) ?_
  refine k_sI (as := [pI ((M 44 5) + (M 44 6)), pI 20]) dX9_remember_45 kX9_34 ⟨⟨Nat.le_of_ble_eq_true rfl, rfl, rfl⟩, Nat.le_of_ble_eq_true rfl⟩ rfl (Nat.le_of_ble_eq_true rfl) h ?_
  intro r3 M4 h
  refine w_istore_n dX9_remember_48 (by decide) ?_
  refine w_aload_n dX9_remember_49 rfl ?_
  refine w_getR dX9_remember_50 fX9_9 rfl rfl rfl ?_
  refine w_iload_n dX9_remember_53 rfl ?_
  refine w_aload_n dX9_remember_54 rfl ?_
  refine w_getI (x := (M4 36 1)) dX9_remember_55 fX9_40 rfl rfl rfl (fun g5 => ?_)
  have h := h g5
  obtain ⟨o6, h⟩ := h
  refine w_iast dX9_remember_58 rfl o6 g5 ?_
  refine w_aload_n dX9_remember_59 rfl ?_
  refine w_getR dX9_remember_60 fX9_15 rfl rfl rfl ?_
  refine w_iload_n dX9_remember_63 rfl ?_
  refine w_aload_n dX9_remember_64 rfl ?_
  refine w_getI (x := (M4 36 2)) dX9_remember_65 fX9_45 rfl rfl rfl (fun g7 => ?_)
  have h := h g7
  obtain ⟨o8, h⟩ := h
  refine w_iast dX9_remember_68 rfl o8 g7 ?_
  refine w_aload_n dX9_remember_69 rfl ?_
  refine w_getR dX9_remember_70 fX9_18 rfl rfl rfl ?_
  refine w_iload_n dX9_remember_73 rfl ?_
  refine w_aload_n dX9_remember_74 rfl ?_
  refine w_getI (x := (M4 36 3)) dX9_remember_75 fX9_48 rfl rfl rfl (fun g9 => ?_)
  have h := h g9
  obtain ⟨o10, h⟩ := h
  refine w_iast dX9_remember_78 rfl o10 g9 ?_
  refine w_aload_n dX9_remember_79 rfl ?_
  refine w_getR dX9_remember_80 fX9_21 rfl rfl rfl ?_
  refine w_iload_n dX9_remember_83 rfl ?_
  refine w_iload_n dX9_remember_84 rfl ?_
  obtain ⟨o11, h⟩ := h
  obtain ⟨o12, h⟩ := h
  refine w_iast dX9_remember_85 rfl o11 o12 ?_
  refine w_aload_n dX9_remember_86 rfl ?_
  refine w_getR dX9_remember_87 fX9_24 rfl rfl rfl ?_
  refine w_iload_n dX9_remember_90 rfl ?_
  refine w_aload_n dX9_remember_91 rfl ?_
  refine w_iload_n dX9_remember_92 rfl ?_
  refine k_vI (as := [pI x2]) dX9_remember_93 kX9_51 ⟨⟨Nat.le_of_ble_eq_true rfl, rfl, rfl⟩, Nat.le_of_ble_eq_true rfl⟩ rfl (by decide) rfl (Nat.le_of_ble_eq_true rfl) h ?_
  intro r13 M14 h
  obtain ⟨o15, h⟩ := h
  obtain ⟨o16, h⟩ := h
  refine w_iast dX9_remember_96 rfl o15 o16 ?_
  refine w_aload_n dX9_remember_97 rfl ?_
  refine w_dup dX9_remember_98 rfl ?_
  refine w_getI (x := (M14 44 6)) dX9_remember_99 fX9_31 rfl rfl rfl (fun g17 => ?_)
  have h := h g17
  refine w_iconst dX9_remember_102 ?_
  refine w_iadd dX9_remember_103 ?_
  obtain ⟨o18, h⟩ := h
  refine w_putI dX9_remember_104 (Or.inl ⟨rfl, fX9_31⟩) rfl rfl o18 ?_
  exact k_vret dX9_remember_107 rfl h
theorem vX9_takeBack_0 {E : Scr} {f : Int → Mem → Prop} {M : Mem} (h : ((iR (M 44 6)) → (((M 44 6) ≠ 0 → ((iR (M 44 6)) → (iR ((M 44 6) - 1)) ∧ ((iR (M 44 5)) → ((iR ((M 44 6) - 1)) → (CI E mJ9_floorMod_7cf53 [pI ((M 44 5) + ((M 44 6) - 1)), pI 20] (upM M 44 6 ((M 44 6) - 1)) (fun r6 M7 => (0 ≤ r6 ∧ r6 < 20) ∧ ((iR (M7 45 r6.toNat)) → (0 ≤ r6 ∧ r6 < 20) ∧ ((iR (M7 46 r6.toNat)) → (0 ≤ r6 ∧ r6 < 20) ∧ ((iR (M7 47 r6.toNat)) → (0 ≤ r6 ∧ r6 < 20) ∧ ((iR (M7 48 r6.toNat)) → (0 ≤ r6 ∧ r6 < 20) ∧ ((iR (M7 49 r6.toNat)) → (CV E mX7_wear [pR 36, pI (M7 48 r6.toNat), pI (M7 49 r6.toNat)] (upM (upM (upM M7 36 1 (M7 45 r6.toNat)) 36 2 (M7 46 r6.toNat)) 36 3 (M7 47 r6.toNat)) (fun M19 => ((iR (M19 44 6)) → f (M19 44 6) M19)))))))))))))) ∧ ((M 44 6) = 0 → f (-1) M)))) : CI E mX9_takeBack [pR 44, pR 36] M f := by
  refine (show KW E mX9_takeBack (qI f) M 0 [(0, pR 44), (1, pR 36)] [] from ?_)
  refine w_aload_n dX9_takeBack_0 rfl ?_
  refine w_getI (x := (M 44 6)) dX9_takeBack_1 fX9_31 rfl rfl rfl (fun g1 => ?_)
  have h := h g1
  refine w_if_ne dX9_takeBack_4 rfl g1 (fun c => ?_) (fun c => ?_)
  · have h := h.1 c
    refine w_aload_n dX9_takeBack_9 rfl ?_
    refine w_dup dX9_takeBack_10 rfl ?_
    refine w_getI (x := (M 44 6)) dX9_takeBack_11 fX9_31 rfl rfl rfl (fun g2 => ?_)
    have h := h g2
    refine w_iconst dX9_takeBack_14 ?_
    refine w_isub dX9_takeBack_15 ?_
    obtain ⟨o3, h⟩ := h
    refine w_putI dX9_takeBack_16 (Or.inl ⟨rfl, fX9_31⟩) rfl rfl o3 ?_
    refine w_aload_n dX9_takeBack_19 rfl ?_
    refine w_getI (x := (M 44 5)) dX9_takeBack_20 fX9_27 rfl rfl rfl (fun g4 => ?_)
    have h := h g4
    refine w_aload_n dX9_takeBack_23 rfl ?_
    refine w_getI (x := ((M 44 6) - 1)) dX9_takeBack_24 fX9_31 rfl rfl rfl (fun g5 => ?_)
    have h := h g5
    refine w_iadd dX9_takeBack_27 ?_
    refine w_bipush dX9_takeBack_28 (by decide) ?_
    refine k_sI (as := [pI ((M 44 5) + ((M 44 6) - 1)), pI 20]) dX9_takeBack_30 kX9_34 ⟨⟨Nat.le_of_ble_eq_true rfl, rfl, rfl⟩, Nat.le_of_ble_eq_true rfl⟩ rfl (Nat.le_of_ble_eq_true rfl) h ?_
    intro r6 M7 h
    refine w_istore_n dX9_takeBack_33 (by decide) ?_
    refine w_aload_n dX9_takeBack_34 rfl ?_
    refine w_aload_n dX9_takeBack_35 rfl ?_
    refine w_getR dX9_takeBack_36 fX9_9 rfl rfl rfl ?_
    refine w_iload_n dX9_takeBack_39 rfl ?_
    obtain ⟨o8, h⟩ := h
    refine w_iald (x := (M7 45 r6.toNat)) dX9_takeBack_40 rfl o8 rfl (fun g9 => ?_)
    have h := h g9
    refine w_putI dX9_takeBack_41 (Or.inl ⟨rfl, fX9_40⟩) rfl rfl g9 ?_
    refine w_aload_n dX9_takeBack_44 rfl ?_
    refine w_aload_n dX9_takeBack_45 rfl ?_
    refine w_getR dX9_takeBack_46 fX9_15 rfl rfl rfl ?_
    refine w_iload_n dX9_takeBack_49 rfl ?_
    obtain ⟨o10, h⟩ := h
    refine w_iald (x := (M7 46 r6.toNat)) dX9_takeBack_50 rfl o10 rfl (fun g11 => ?_)
    have h := h g11
    refine w_putI dX9_takeBack_51 (Or.inl ⟨rfl, fX9_45⟩) rfl rfl g11 ?_
    refine w_aload_n dX9_takeBack_54 rfl ?_
    refine w_aload_n dX9_takeBack_55 rfl ?_
    refine w_getR dX9_takeBack_56 fX9_18 rfl rfl rfl ?_
    refine w_iload_n dX9_takeBack_59 rfl ?_
    obtain ⟨o12, h⟩ := h
    refine w_iald (x := (M7 47 r6.toNat)) dX9_takeBack_60 rfl o12 rfl (fun g13 => ?_)
    have h := h g13
    refine w_putI dX9_takeBack_61 (Or.inl ⟨rfl, fX9_48⟩) rfl rfl g13 ?_
    refine w_aload_n dX9_takeBack_64 rfl ?_
    refine w_aload_n dX9_takeBack_65 rfl ?_
    refine w_getR dX9_takeBack_66 fX9_21 rfl rfl rfl ?_
    refine w_iload_n dX9_takeBack_69 rfl ?_
    obtain ⟨o14, h⟩ := h
    refine w_iald (x := (M7 48 r6.toNat)) dX9_takeBack_70 rfl o14 rfl (fun g15 => ?_)
    have h := h g15
    refine w_aload_n dX9_takeBack_71 rfl ?_
    refine w_getR dX9_takeBack_72 fX9_24 rfl rfl rfl ?_
    refine w_iload_n dX9_takeBack_75 rfl ?_
    obtain ⟨o16, h⟩ := h
    refine w_iald (x := (M7 49 r6.toNat)) dX9_takeBack_76 rfl o16 rfl (fun g17 => ?_)
    have h := h g17
    refine k_vV (as := [pI (M7 48 r6.toNat), pI (M7 49 r6.toNat)]) dX9_takeBack_77 kX9_55 ⟨⟨Nat.le_of_ble_eq_true rfl, rfl, rfl⟩, Nat.le_of_ble_eq_true rfl⟩ rfl (by decide) rfl (Nat.le_of_ble_eq_true rfl) h ?_
    intro M19 h
    refine w_aload_n dX9_takeBack_80 rfl ?_
    refine w_getI (x := (M19 44 6)) dX9_takeBack_81 fX9_31 rfl rfl rfl (fun g20 => ?_)
    have h := h g20
    exact k_iret dX9_takeBack_84 rfl h
  · have h := h.2 c
    refine w_iconst dX9_takeBack_7 ?_
    exact k_iret dX9_takeBack_8 rfl h
theorem vX3_clear_0 {E : Scr} {f : Mem → Prop} {M : Mem} (h : f (upM (upM M 93 4 0) 93 5 (-1))) : CV E mX3_clear [pR 93] M f := by
  refine (show KW E mX3_clear (qV f) M 0 [(0, pR 93)] [] from ?_)
  refine w_aload_n dX3_clear_0 rfl ?_
  refine w_iconst dX3_clear_1 ?_
  refine w_putI dX3_clear_2 (Or.inl ⟨rfl, fX3_29⟩) rfl rfl (by decide) ?_
  refine w_aload_n dX3_clear_5 rfl ?_
  refine w_iconst dX3_clear_6 ?_
  refine w_putI dX3_clear_7 (Or.inl ⟨rfl, fX3_25⟩) rfl rfl (by decide) ?_
  exact k_vret dX3_clear_10 rfl h
theorem vX3_add_0 {E : Scr} {f : Int → Mem → Prop} {M : Mem} (x1 x2 x3 : Int) (h : ((iR (M 93 4)) → (((M 93 4) < 24 → ((iR (M 93 4)) → (0 ≤ (M 93 4) ∧ (M 93 4) < 24) ∧ (iR x1) ∧ ((iR (M 93 4)) → (0 ≤ (M 93 4) ∧ (M 93 4) < 24) ∧ (iR x2) ∧ ((iR (M 93 4)) → (0 ≤ (M 93 4) ∧ (M 93 4) < 24) ∧ (zR x3) ∧ ((iR (M 93 4)) → (iR ((M 93 4) + 1)) ∧ ((iR ((M 93 4) + 1)) → f (((M 93 4) + 1) - 1) (upM (upM (upM (upM M 94 ((M 93 4).toNat) x1) 95 ((M 93 4).toNat) x2) 96 ((M 93 4).toNat) x3) 93 4 ((M 93 4) + 1)))))))) ∧ ((M 93 4) ≥ 24 → f (-1) M)))) : CI E mX3_add [pR 93, pI x1, pI x2, pI x3] M f := by
  refine (show KW E mX3_add (qI f) M 0 [(0, pR 93), (1, pI x1), (2, pI x2), (3, pI x3)] [] from ?_)
  refine w_aload_n dX3_add_0 rfl ?_
  refine w_getI (x := (M 93 4)) dX3_add_1 fX3_29 rfl rfl rfl (fun g1 => ?_)
  have h := h g1
  refine w_bipush dX3_add_4 (by decide) ?_
  refine w_icmp_lt dX3_add_6 rfl ⟨g1, (by decide)⟩ (fun c => ?_) (fun c => ?_)
  · have h := h.1 c
    refine w_aload_n dX3_add_11 rfl ?_
    refine w_getR dX3_add_12 fX3_9 rfl rfl rfl ?_
    refine w_aload_n dX3_add_15 rfl ?_
    refine w_getI (x := (M 93 4)) dX3_add_16 fX3_29 rfl rfl rfl (fun g2 => ?_)
    have h := h g2
    refine w_iload_n dX3_add_19 rfl ?_
    obtain ⟨o3, h⟩ := h
    obtain ⟨o4, h⟩ := h
    refine w_iast dX3_add_20 rfl o3 o4 ?_
    refine w_aload_n dX3_add_21 rfl ?_
    refine w_getR dX3_add_22 fX3_15 rfl rfl rfl ?_
    refine w_aload_n dX3_add_25 rfl ?_
    refine w_getI (x := (M 93 4)) dX3_add_26 fX3_29 rfl rfl rfl (fun g5 => ?_)
    have h := h g5
    refine w_iload_n dX3_add_29 rfl ?_
    obtain ⟨o6, h⟩ := h
    obtain ⟨o7, h⟩ := h
    refine w_iast dX3_add_30 rfl o6 o7 ?_
    refine w_aload_n dX3_add_31 rfl ?_
    refine w_getR dX3_add_32 fX3_18 rfl rfl rfl ?_
    refine w_aload_n dX3_add_35 rfl ?_
    refine w_getI (x := (M 93 4)) dX3_add_36 fX3_29 rfl rfl rfl (fun g8 => ?_)
    have h := h g8
    refine w_iload_n dX3_add_39 rfl ?_
    obtain ⟨o9, h⟩ := h
    obtain ⟨o10, h⟩ := h
    refine w_zast dX3_add_40 rfl o9 o10 ?_
    refine w_aload_n dX3_add_41 rfl ?_
    refine w_dup dX3_add_42 rfl ?_
    refine w_getI (x := (M 93 4)) dX3_add_43 fX3_29 rfl rfl rfl (fun g11 => ?_)
    have h := h g11
    refine w_iconst dX3_add_46 ?_
    refine w_iadd dX3_add_47 ?_
    obtain ⟨o12, h⟩ := h
    refine w_putI dX3_add_48 (Or.inl ⟨rfl, fX3_29⟩) rfl rfl o12 ?_
    refine w_aload_n dX3_add_51 rfl ?_
    refine w_getI (x := ((M 93 4) + 1)) dX3_add_52 fX3_29 rfl rfl rfl (fun g13 => ?_)
    have h := h g13
    refine w_iconst dX3_add_55 ?_
    refine w_isub dX3_add_56 ?_
    exact k_iret dX3_add_57 rfl h
  · have h := h.2 c
    refine w_iconst dX3_add_9 ?_
    exact k_iret dX3_add_10 rfl h
theorem vX3_counted_0 {E : Scr} {f : Int → Mem → Prop} {M : Mem} (h : ((iR (M 93 5)) → (((M 93 5) ≠ (-1) → ((iR (M 93 5)) → ((iR (M 93 4)) → f (min (M 93 5) (M 93 4)) M))) ∧ ((M 93 5) = (-1) → ((iR (M 93 4)) → f (M 93 4) M))))) : CI E mX3_counted [pR 93] M f := by
  refine (show KW E mX3_counted (qI f) M 0 [(0, pR 93)] [] from ?_)
  refine w_aload_n dX3_counted_0 rfl ?_
  refine w_getI (x := (M 93 5)) dX3_counted_1 fX3_25 rfl rfl rfl (fun g1 => ?_)
  have h := h g1
  refine w_iconst dX3_counted_4 ?_
  refine w_icmp_ne dX3_counted_5 rfl ⟨g1, (by decide)⟩ (fun c => ?_) (fun c => ?_)
  · have h := h.1 c
    refine w_aload_n dX3_counted_15 rfl ?_
    refine w_getI (x := (M 93 5)) dX3_counted_16 fX3_25 rfl rfl rfl (fun g2 => ?_)
    have h := h g2
    refine w_aload_n dX3_counted_19 rfl ?_
    refine w_getI (x := (M 93 4)) dX3_counted_20 fX3_29 rfl rfl rfl (fun g3 => ?_)
    have h := h g3
    refine w_imin dX3_counted_23 kX3_32 ⟨by decide, Nat.le_of_ble_eq_true rfl⟩ ⟨by decide, by decide⟩ ⟨g2, g3⟩ ?_
    exact k_iret dX3_counted_26 rfl h
  · have h := h.2 c
    refine w_aload_n dX3_counted_8 rfl ?_
    refine w_getI (x := (M 93 4)) dX3_counted_9 fX3_29 rfl rfl rfl (fun g4 => ?_)
    have h := h g4
    refine w_goto dX3_counted_12 rfl ?_
    exact k_iret dX3_counted_26 rfl h
theorem vX3_settleStrikes_0 {E : Scr} {f : Mem → Prop} {M : Mem} (x1 : Int) (h : (KW E mX3_settleStrikes (qV f) M 2 [(0, pR 93), (1, pI x1), (2, pI 0)] [])) : CV E mX3_settleStrikes [pR 93, pI x1] M f := by
  refine (show KW E mX3_settleStrikes (qV f) M 0 [(0, pR 93), (1, pI x1)] [] from ?_)
  refine w_iconst dX3_settleStrikes_0 ?_
  refine w_istore_n dX3_settleStrikes_1 (by decide) ?_
  exact k_pick [1, 2, 0] rfl h
theorem vX3_settleStrikes_2 {E : Scr} {f : Mem → Prop} {M : Mem} (x1 x2 : Int) (h : (iR x2) ∧ ((x2 ≥ 24 → (KW E mX3_settleStrikes (qV f) M 25 [(0, pR 93), (2, pI (x1 - 1))] [])) ∧ (x2 < 24 → (0 ≤ x2 ∧ x2 < 24) ∧ (KW E mX3_settleStrikes (qV f) (upM M 97 x2.toNat 0) 2 [(0, pR 93), (1, pI x1), (2, pI (x2 + 1))] [])))) : KW E mX3_settleStrikes (qV f) M 2 [(0, pR 93), (1, pI x1), (2, pI x2)] [] := by
  refine w_iload_n dX3_settleStrikes_2 rfl ?_
  refine w_bipush dX3_settleStrikes_3 (by decide) ?_
  obtain ⟨o1, h⟩ := h
  refine w_icmp_ge dX3_settleStrikes_5 rfl ⟨o1, (by decide)⟩ (fun c => ?_) (fun c => ?_)
  · have h := h.1 c
    refine w_iload_n dX3_settleStrikes_21 rfl ?_
    refine w_iconst dX3_settleStrikes_22 ?_
    refine w_isub dX3_settleStrikes_23 ?_
    refine w_istore_n dX3_settleStrikes_24 (by decide) ?_
    exact k_pick [1, 0] rfl h
  · have h := h.2 c
    refine w_aload_n dX3_settleStrikes_8 rfl ?_
    refine w_getR dX3_settleStrikes_9 fX3_22 rfl rfl rfl ?_
    refine w_iload_n dX3_settleStrikes_12 rfl ?_
    refine w_iconst dX3_settleStrikes_13 ?_
    obtain ⟨o2, h⟩ := h
    refine w_zast dX3_settleStrikes_14 rfl o2 (by decide) ?_
    refine w_iinc dX3_settleStrikes_15 rfl (by decide) ?_
    refine w_goto dX3_settleStrikes_18 rfl ?_
    exact k_pick [1, 2, 0] rfl h
theorem vX3_settleStrikes_25 {E : Scr} {f : Mem → Prop} {M : Mem} (x2 : Int) (h : (iR x2) ∧ ((x2 < 0 → f M) ∧ (x2 ≥ 0 → (0 ≤ x2 ∧ x2 < 24) ∧ ((iR (M 95 x2.toNat)) → (0 ≤ x2 ∧ x2 < 24) ∧ ((iR (M 94 x2.toNat)) → (((M 94 x2.toNat) ≠ (-1) → (KW E mX3_settleStrikes (qV f) M 25 [(0, pR 93), (2, pI (x2 + (-1)))] [])) ∧ ((M 94 x2.toNat) = (-1) → (0 ≤ x2 ∧ x2 < 24) ∧ ((zR (M 97 x2.toNat)) → (((M 97 x2.toNat) ≠ 0 → (KW E mX3_settleStrikes (qV f) M 25 [(0, pR 93), (2, pI (x2 + (-1)))] [])) ∧ ((M 97 x2.toNat) = 0 → (((M 95 x2.toNat) < 0 → (KW E mX3_settleStrikes (qV f) M 25 [(0, pR 93), (2, pI (x2 + (-1)))] [])) ∧ ((M 95 x2.toNat) ≥ 0 → (((M 95 x2.toNat) ≥ 24 → (KW E mX3_settleStrikes (qV f) M 25 [(0, pR 93), (2, pI (x2 + (-1)))] [])) ∧ ((M 95 x2.toNat) < 24 → (0 ≤ (M 95 x2.toNat) ∧ (M 95 x2.toNat) < 24) ∧ (KW E mX3_settleStrikes (qV f) (upM M 97 ((M 95 x2.toNat).toNat) 1) 25 [(0, pR 93), (2, pI (x2 + (-1)))] []))))))))))))))) : KW E mX3_settleStrikes (qV f) M 25 [(0, pR 93), (2, pI x2)] [] := by
  refine w_iload_n dX3_settleStrikes_25 rfl ?_
  obtain ⟨o1, h⟩ := h
  refine w_if_lt dX3_settleStrikes_26 rfl o1 (fun c => ?_) (fun c => ?_)
  · have h := h.1 c
    exact k_vret dX3_settleStrikes_78 rfl h
  · have h := h.2 c
    refine w_aload_n dX3_settleStrikes_29 rfl ?_
    refine w_getR dX3_settleStrikes_30 fX3_15 rfl rfl rfl ?_
    refine w_iload_n dX3_settleStrikes_33 rfl ?_
    obtain ⟨o2, h⟩ := h
    refine w_iald (x := (M 95 x2.toNat)) dX3_settleStrikes_34 rfl o2 rfl (fun g3 => ?_)
    have h := h g3
    refine w_istore_n dX3_settleStrikes_35 (by decide) ?_
    refine w_aload_n dX3_settleStrikes_36 rfl ?_
    refine w_getR dX3_settleStrikes_37 fX3_9 rfl rfl rfl ?_
    refine w_iload_n dX3_settleStrikes_40 rfl ?_
    obtain ⟨o4, h⟩ := h
    refine w_iald (x := (M 94 x2.toNat)) dX3_settleStrikes_41 rfl o4 rfl (fun g5 => ?_)
    have h := h g5
    refine w_iconst dX3_settleStrikes_42 ?_
    refine w_icmp_ne dX3_settleStrikes_43 rfl ⟨g5, (by decide)⟩ (fun c => ?_) (fun c => ?_)
    · have h := h.1 c
      refine w_iinc dX3_settleStrikes_72 rfl (by decide) ?_
      refine w_goto dX3_settleStrikes_75 rfl ?_
      exact k_pick [2, 0] rfl h
    · have h := h.2 c
      refine w_aload_n dX3_settleStrikes_46 rfl ?_
      refine w_getR dX3_settleStrikes_47 fX3_22 rfl rfl rfl ?_
      refine w_iload_n dX3_settleStrikes_50 rfl ?_
      obtain ⟨o6, h⟩ := h
      refine w_zald (x := (M 97 x2.toNat)) dX3_settleStrikes_51 rfl o6 rfl (fun g7 => ?_)
      have h := h g7
      refine w_if_ne dX3_settleStrikes_52 rfl (z2i g7) (fun c => ?_) (fun c => ?_)
      · have h := h.1 c
        refine w_iinc dX3_settleStrikes_72 rfl (by decide) ?_
        refine w_goto dX3_settleStrikes_75 rfl ?_
        exact k_pick [2, 0] rfl h
      · have h := h.2 c
        refine w_iload_n dX3_settleStrikes_55 rfl ?_
        refine w_if_lt dX3_settleStrikes_56 rfl g3 (fun c => ?_) (fun c => ?_)
        · have h := h.1 c
          refine w_iinc dX3_settleStrikes_72 rfl (by decide) ?_
          refine w_goto dX3_settleStrikes_75 rfl ?_
          exact k_pick [2, 0] rfl h
        · have h := h.2 c
          refine w_iload_n dX3_settleStrikes_59 rfl ?_
          refine w_bipush dX3_settleStrikes_60 (by decide) ?_
          refine w_icmp_ge dX3_settleStrikes_62 rfl ⟨g3, (by decide)⟩ (fun c => ?_) (fun c => ?_)
          · have h := h.1 c
            refine w_iinc dX3_settleStrikes_72 rfl (by decide) ?_
            refine w_goto dX3_settleStrikes_75 rfl ?_
            exact k_pick [2, 0] rfl h
          · have h := h.2 c
            refine w_aload_n dX3_settleStrikes_65 rfl ?_
            refine w_getR dX3_settleStrikes_66 fX3_22 rfl rfl rfl ?_
            refine w_iload_n dX3_settleStrikes_69 rfl ?_
            refine w_iconst dX3_settleStrikes_70 ?_
            obtain ⟨o8, h⟩ := h
            refine w_zast dX3_settleStrikes_71 rfl o8 (by decide) ?_
            refine w_iinc dX3_settleStrikes_72 rfl (by decide) ?_
            refine w_goto dX3_settleStrikes_75 rfl ?_
            exact k_pick [2, 0] rfl h
theorem vX3_fitting_0 {E : Scr} {f : Int → Mem → Prop} {M : Mem} (x1 x2 : Int) (h : (CI E mX3_counted [pR 93] M (fun r1 M2 => (CV E mX3_settleStrikes [pR 93, pI r1] M2 (fun M4 => (KW E mX3_fitting (qI f) M4 16 [(0, pR 93), (1, pI x1), (2, pI x2), (3, pI r1), (4, pI 0), (5, pI 0)] [])))))) : CI E mX3_fitting [pR 93, pI x1, pI x2] M f := by
  refine (show KW E mX3_fitting (qI f) M 0 [(0, pR 93), (1, pI x1), (2, pI x2)] [] from ?_)
  refine w_aload_n dX3_fitting_0 rfl ?_
  refine k_vI (as := []) dX3_fitting_1 kX3_38 ⟨⟨Nat.le_of_ble_eq_true rfl, rfl, rfl⟩, Nat.le_of_ble_eq_true rfl⟩ rfl (by decide) rfl (Nat.le_of_ble_eq_true rfl) h ?_
  intro r1 M2 h
  refine w_istore_n dX3_fitting_4 (by decide) ?_
  refine w_aload_n dX3_fitting_5 rfl ?_
  refine w_iload_n dX3_fitting_6 rfl ?_
  refine k_vV (as := [pI r1]) dX3_fitting_7 kX3_42 ⟨⟨Nat.le_of_ble_eq_true rfl, rfl, rfl⟩, Nat.le_of_ble_eq_true rfl⟩ rfl (by decide) rfl (Nat.le_of_ble_eq_true rfl) h ?_
  intro M4 h
  refine w_iconst dX3_fitting_10 ?_
  refine w_istore dX3_fitting_11 (by decide) ?_
  refine w_iconst dX3_fitting_13 ?_
  refine w_istore dX3_fitting_14 (by decide) ?_
  exact k_pick [3, 4, 5, 2, 1, 0] rfl h
theorem vX3_fitting_16 {E : Scr} {f : Int → Mem → Prop} {M : Mem} (x1 x2 x3 x4 x5 : Int) (h : (iR x5) ∧ (iR (2 * x2)) ∧ ((x5 > (2 * x2) → f x4 M) ∧ (x5 ≤ (2 * x2) → (iR x5) ∧ ((x5 ≤ 0 → (KW E mX3_fitting (qI f) M 44 [(0, pR 93), (1, pI x1), (2, pI x2), (3, pI x3), (4, pI x4), (5, pI x5)] [pI 0])) ∧ (x5 > 0 → (iR (x5 - 1)) ∧ (iR (Int.tdiv (x5 - 1) 2)) ∧ (iR x1) ∧ (((Int.tdiv (x5 - 1) 2) ≠ x1 → (KW E mX3_fitting (qI f) M 44 [(0, pR 93), (1, pI x1), (2, pI x2), (3, pI x3), (4, pI x4), (5, pI x5)] [pI 0])) ∧ ((Int.tdiv (x5 - 1) 2) = x1 → (KW E mX3_fitting (qI f) M 44 [(0, pR 93), (1, pI x1), (2, pI x2), (3, pI x3), (4, pI x4), (5, pI x5)] [pI 1])))))))) : KW E mX3_fitting (qI f) M 16 [(0, pR 93), (1, pI x1), (2, pI x2), (3, pI x3), (4, pI x4), (5, pI x5)] [] := by
  refine w_iload dX3_fitting_16 rfl ?_
  refine w_iconst dX3_fitting_18 ?_
  refine w_iload_n dX3_fitting_19 rfl ?_
  refine w_imul dX3_fitting_20 ?_
  obtain ⟨o1, h⟩ := h
  obtain ⟨o2, h⟩ := h
  refine w_icmp_gt dX3_fitting_21 rfl ⟨o1, o2⟩ (fun c => ?_) (fun c => ?_)
  · have h := h.1 c
    refine w_iload dX3_fitting_77 rfl ?_
    exact k_iret dX3_fitting_79 rfl h
  · have h := h.2 c
    refine w_iload dX3_fitting_24 rfl ?_
    obtain ⟨o3, h⟩ := h
    refine w_if_le dX3_fitting_26 rfl o3 (fun c => ?_) (fun c => ?_)
    · have h := h.1 c
      refine w_iconst dX3_fitting_43 ?_
      exact k_pick [0, 1, 2, 3, 4, 5] rfl h
    · have h := h.2 c
      refine w_iload dX3_fitting_29 rfl ?_
      refine w_iconst dX3_fitting_31 ?_
      refine w_isub dX3_fitting_32 ?_
      refine w_iconst dX3_fitting_33 ?_
      obtain ⟨o4, h⟩ := h
      refine w_idiv dX3_fitting_34 ⟨o4, (by decide), (by decide)⟩ ?_
      refine w_iload_n dX3_fitting_35 rfl ?_
      obtain ⟨o5, h⟩ := h
      obtain ⟨o6, h⟩ := h
      refine w_icmp_ne dX3_fitting_36 rfl ⟨o5, o6⟩ (fun c => ?_) (fun c => ?_)
      · have h := h.1 c
        refine w_iconst dX3_fitting_43 ?_
        exact k_pick [0, 1, 2, 3, 4, 5] rfl h
      · have h := h.2 c
        refine w_iconst dX3_fitting_39 ?_
        refine w_goto dX3_fitting_40 rfl ?_
        exact k_pick [0, 1, 2, 3, 4, 5] rfl h
theorem vX3_fitting_44 {E : Scr} {f : Int → Mem → Prop} {M : Mem} (x1 x2 x3 x4 x5 s0 : Int) (h : (iR s0) ∧ ((s0 ≠ 0 → (KW E mX3_fitting (qI f) M 16 [(0, pR 93), (1, pI x1), (2, pI x2), (3, pI x3), (4, pI x4), (5, pI (x5 + 1))] [])) ∧ (s0 = 0 → (CI E mX3_agrees [pR 93, pI x5, pI x1, pI x3] M (fun r2 M3 => (iR r2) ∧ ((r2 = 0 → (KW E mX3_fitting (qI f) M3 16 [(0, pR 93), (1, pI x1), (2, pI x2), (3, pI x3), (4, pI x4), (5, pI (x5 + 1))] [])) ∧ (r2 ≠ 0 → (KW E mX3_fitting (qI f) M3 16 [(0, pR 93), (1, pI x1), (2, pI x2), (3, pI x3), (4, pI (bOr x4 (bShl 1 x5))), (5, pI (x5 + 1))] [])))))))) : KW E mX3_fitting (qI f) M 44 [(0, pR 93), (1, pI x1), (2, pI x2), (3, pI x3), (4, pI x4), (5, pI x5)] [pI s0] := by
  refine w_istore dX3_fitting_44 (by decide) ?_
  refine w_iload dX3_fitting_46 rfl ?_
  obtain ⟨o1, h⟩ := h
  refine w_if_ne dX3_fitting_48 rfl o1 (fun c => ?_) (fun c => ?_)
  · have h := h.1 c
    refine w_iinc dX3_fitting_71 rfl (by decide) ?_
    refine w_goto dX3_fitting_74 rfl ?_
    exact k_pick [2, 3, 4, 5, 6, 0] rfl h
  · have h := h.2 c
    refine w_aload_n dX3_fitting_51 rfl ?_
    refine w_iload dX3_fitting_52 rfl ?_
    refine w_iload_n dX3_fitting_54 rfl ?_
    refine w_iload_n dX3_fitting_55 rfl ?_
    refine k_vI (as := [pI x5, pI x1, pI x3]) dX3_fitting_56 kX3_46 ⟨⟨Nat.le_of_ble_eq_true rfl, rfl, rfl⟩, Nat.le_of_ble_eq_true rfl⟩ rfl (by decide) rfl (Nat.le_of_ble_eq_true rfl) h ?_
    intro r2 M3 h
    obtain ⟨o4, h⟩ := h
    refine w_if_eq dX3_fitting_59 rfl o4 (fun c => ?_) (fun c => ?_)
    · have h := h.1 c
      refine w_iinc dX3_fitting_71 rfl (by decide) ?_
      refine w_goto dX3_fitting_74 rfl ?_
      exact k_pick [2, 3, 4, 5, 6, 0] rfl h
    · have h := h.2 c
      refine w_iload dX3_fitting_62 rfl ?_
      refine w_iconst dX3_fitting_64 ?_
      refine w_iload dX3_fitting_65 rfl ?_
      refine w_ishl dX3_fitting_67 ?_
      refine w_ior dX3_fitting_68 ?_
      refine w_istore dX3_fitting_69 (by decide) ?_
      refine w_iinc dX3_fitting_71 rfl (by decide) ?_
      refine w_goto dX3_fitting_74 rfl ?_
      exact k_pick [3, 4, 5, 6, 1, 0] rfl h
theorem vX3_agrees_0 {E : Scr} {f : Int → Mem → Prop} {M : Mem} (x1 x2 x3 : Int) (h : (KW E mX3_agrees (qI f) M 3 [(0, pR 93), (1, pI x1), (2, pI x2), (3, pI x3), (4, pI 0)] [])) : CI E mX3_agrees [pR 93, pI x1, pI x2, pI x3] M f := by
  refine (show KW E mX3_agrees (qI f) M 0 [(0, pR 93), (1, pI x1), (2, pI x2), (3, pI x3)] [] from ?_)
  refine w_iconst dX3_agrees_0 ?_
  refine w_istore dX3_agrees_1 (by decide) ?_
  exact k_pick [1, 2, 3, 4, 0] rfl h
theorem vX3_agrees_3 {E : Scr} {f : Int → Mem → Prop} {M : Mem} (x1 x2 x3 x4 : Int) (h : (iR x4) ∧ (iR x3) ∧ ((x4 ≥ x3 → f 1 M) ∧ (x4 < x3 → (iR x4) ∧ ((x4 ≥ 24 → f 1 M) ∧ (x4 < 24 → (0 ≤ x4 ∧ x4 < 24) ∧ ((iR (M 94 x4.toNat)) → (iR x2) ∧ (((M 94 x4.toNat) ≠ x2 → (KW E mX3_agrees (qI f) M 3 [(0, pR 93), (1, pI x1), (2, pI x2), (3, pI x3), (4, pI (x4 + 1))] [])) ∧ ((M 94 x4.toNat) = x2 → (0 ≤ x4 ∧ x4 < 24) ∧ ((zR (M 97 x4.toNat)) → (((M 97 x4.toNat) ≠ 0 → (KW E mX3_agrees (qI f) M 3 [(0, pR 93), (1, pI x1), (2, pI x2), (3, pI x3), (4, pI (x4 + 1))] [])) ∧ ((M 97 x4.toNat) = 0 → (0 ≤ x4 ∧ x4 < 24) ∧ ((iR (M 95 x4.toNat)) → (CI E mX3_lets [pI x1, pI (M 95 x4.toNat)] M (fun r11 M12 => (0 ≤ x4 ∧ x4 < 24) ∧ ((zR (M12 96 x4.toNat)) → (iR r11) ∧ ((r11 = (M12 96 x4.toNat) → (KW E mX3_agrees (qI f) M12 3 [(0, pR 93), (1, pI x1), (2, pI x2), (3, pI x3), (4, pI (x4 + 1))] [])) ∧ (r11 ≠ (M12 96 x4.toNat) → f 0 M12))))))))))))))))) : KW E mX3_agrees (qI f) M 3 [(0, pR 93), (1, pI x1), (2, pI x2), (3, pI x3), (4, pI x4)] [] := by
  refine w_iload dX3_agrees_3 rfl ?_
  refine w_iload_n dX3_agrees_5 rfl ?_
  obtain ⟨o1, h⟩ := h
  obtain ⟨o2, h⟩ := h
  refine w_icmp_ge dX3_agrees_6 rfl ⟨o1, o2⟩ (fun c => ?_) (fun c => ?_)
  · have h := h.1 c
    refine w_iconst dX3_agrees_66 ?_
    exact k_zret dX3_agrees_67 rfl (by decide) h
  · have h := h.2 c
    refine w_iload dX3_agrees_9 rfl ?_
    refine w_bipush dX3_agrees_11 (by decide) ?_
    obtain ⟨o3, h⟩ := h
    refine w_icmp_ge dX3_agrees_13 rfl ⟨o3, (by decide)⟩ (fun c => ?_) (fun c => ?_)
    · have h := h.1 c
      refine w_iconst dX3_agrees_66 ?_
      exact k_zret dX3_agrees_67 rfl (by decide) h
    · have h := h.2 c
      refine w_aload_n dX3_agrees_16 rfl ?_
      refine w_getR dX3_agrees_17 fX3_9 rfl rfl rfl ?_
      refine w_iload dX3_agrees_20 rfl ?_
      obtain ⟨o4, h⟩ := h
      refine w_iald (x := (M 94 x4.toNat)) dX3_agrees_22 rfl o4 rfl (fun g5 => ?_)
      have h := h g5
      refine w_iload_n dX3_agrees_23 rfl ?_
      obtain ⟨o6, h⟩ := h
      refine w_icmp_ne dX3_agrees_24 rfl ⟨g5, o6⟩ (fun c => ?_) (fun c => ?_)
      · have h := h.1 c
        refine w_iinc dX3_agrees_60 rfl (by decide) ?_
        refine w_goto dX3_agrees_63 rfl ?_
        exact k_pick [1, 2, 3, 4, 0] rfl h
      · have h := h.2 c
        refine w_aload_n dX3_agrees_27 rfl ?_
        refine w_getR dX3_agrees_28 fX3_22 rfl rfl rfl ?_
        refine w_iload dX3_agrees_31 rfl ?_
        obtain ⟨o7, h⟩ := h
        refine w_zald (x := (M 97 x4.toNat)) dX3_agrees_33 rfl o7 rfl (fun g8 => ?_)
        have h := h g8
        refine w_if_ne dX3_agrees_34 rfl (z2i g8) (fun c => ?_) (fun c => ?_)
        · have h := h.1 c
          refine w_iinc dX3_agrees_60 rfl (by decide) ?_
          refine w_goto dX3_agrees_63 rfl ?_
          exact k_pick [1, 2, 3, 4, 0] rfl h
        · have h := h.2 c
          refine w_iload_n dX3_agrees_37 rfl ?_
          refine w_aload_n dX3_agrees_38 rfl ?_
          refine w_getR dX3_agrees_39 fX3_15 rfl rfl rfl ?_
          refine w_iload dX3_agrees_42 rfl ?_
          obtain ⟨o9, h⟩ := h
          refine w_iald (x := (M 95 x4.toNat)) dX3_agrees_44 rfl o9 rfl (fun g10 => ?_)
          have h := h g10
          refine k_sI (as := [pI x1, pI (M 95 x4.toNat)]) dX3_agrees_45 kX3_50 ⟨⟨Nat.le_of_ble_eq_true rfl, rfl, rfl⟩, Nat.le_of_ble_eq_true rfl⟩ rfl (Nat.le_of_ble_eq_true rfl) h ?_
          intro r11 M12 h
          refine w_aload_n dX3_agrees_48 rfl ?_
          refine w_getR dX3_agrees_49 fX3_18 rfl rfl rfl ?_
          refine w_iload dX3_agrees_52 rfl ?_
          obtain ⟨o13, h⟩ := h
          refine w_zald (x := (M12 96 x4.toNat)) dX3_agrees_54 rfl o13 rfl (fun g14 => ?_)
          have h := h g14
          obtain ⟨o15, h⟩ := h
          refine w_icmp_eq dX3_agrees_55 rfl ⟨o15, (z2i g14)⟩ (fun c => ?_) (fun c => ?_)
          · have h := h.1 c
            refine w_iinc dX3_agrees_60 rfl (by decide) ?_
            refine w_goto dX3_agrees_63 rfl ?_
            exact k_pick [1, 2, 3, 4, 0] rfl h
          · have h := h.2 c
            refine w_iconst dX3_agrees_58 ?_
            exact k_zret dX3_agrees_59 rfl (by decide) h
theorem vX3_lets_0 {E : Scr} {f : Int → Mem → Prop} {M : Mem} (x0 x1 : Int) (h : (iR x0) ∧ ((x0 ≠ 0 → (iR (x0 - 1)) ∧ (iR x0) ∧ (iR (Int.tmod x0 2)) ∧ (((bAnd (bShr x1 (Int.tdiv (x0 - 1) 2)) 1) ≠ (Int.tmod x0 2) → f 0 M) ∧ ((bAnd (bShr x1 (Int.tdiv (x0 - 1) 2)) 1) = (Int.tmod x0 2) → f 1 M))) ∧ (x0 = 0 → f 1 M))) : CI E mX3_lets [pI x0, pI x1] M f := by
  refine (show KW E mX3_lets (qI f) M 0 [(0, pI x0), (1, pI x1)] [] from ?_)
  refine w_iload_n dX3_lets_0 rfl ?_
  obtain ⟨o1, h⟩ := h
  refine w_if_ne dX3_lets_1 rfl o1 (fun c => ?_) (fun c => ?_)
  · have h := h.1 c
    refine w_iload_n dX3_lets_6 rfl ?_
    refine w_iload_n dX3_lets_7 rfl ?_
    refine w_iconst dX3_lets_8 ?_
    refine w_isub dX3_lets_9 ?_
    refine w_iconst dX3_lets_10 ?_
    obtain ⟨o2, h⟩ := h
    refine w_idiv dX3_lets_11 ⟨o2, (by decide), (by decide)⟩ ?_
    refine w_ishr dX3_lets_12 ?_
    refine w_iconst dX3_lets_13 ?_
    refine w_iand dX3_lets_14 ?_
    refine w_istore_n dX3_lets_15 (by decide) ?_
    refine w_iload_n dX3_lets_16 rfl ?_
    refine w_iload_n dX3_lets_17 rfl ?_
    refine w_iconst dX3_lets_18 ?_
    obtain ⟨o3, h⟩ := h
    refine w_irem dX3_lets_19 ⟨o3, (by decide), (by decide)⟩ ?_
    obtain ⟨o4, h⟩ := h
    refine w_icmp_ne dX3_lets_20 rfl ⟨(bAnd_r _ _), o4⟩ (fun c => ?_) (fun c => ?_)
    · have h := h.1 c
      refine w_iconst dX3_lets_27 ?_
      exact k_zret dX3_lets_28 rfl (by decide) h
    · have h := h.2 c
      refine w_iconst dX3_lets_23 ?_
      refine w_goto dX3_lets_24 rfl ?_
      exact k_zret dX3_lets_28 rfl (by decide) h
  · have h := h.2 c
    refine w_iconst dX3_lets_4 ?_
    exact k_zret dX3_lets_5 rfl (by decide) h
theorem vX3_bestAsked_0 {E : Scr} {f : Int → Mem → Prop} {M : Mem} (x1 x2 x3 : Int) (h : (CI E mX3_fitting [pR 93, pI x1, pI x2] M (fun r1 M2 => (CI E mJ6_bitCount_0f7a4 [pI r1] M2 (fun r3 M4 => (KW E mX3_bestAsked (qI f) M4 27 [(2, pI x2), (3, pI x3), (4, pI r1), (5, pI r3), (6, pI (r3 + 1)), (7, pI 0), (8, pI 0)] [])))))) : CI E mX3_bestAsked [pR 93, pI x1, pI x2, pI x3] M f := by
  refine (show KW E mX3_bestAsked (qI f) M 0 [(0, pR 93), (1, pI x1), (2, pI x2), (3, pI x3)] [] from ?_)
  refine w_aload_n dX3_bestAsked_0 rfl ?_
  refine w_iload_n dX3_bestAsked_1 rfl ?_
  refine w_iload_n dX3_bestAsked_2 rfl ?_
  refine k_vI (as := [pI x1, pI x2]) dX3_bestAsked_3 kX3_54 ⟨⟨Nat.le_of_ble_eq_true rfl, rfl, rfl⟩, Nat.le_of_ble_eq_true rfl⟩ rfl (by decide) rfl (Nat.le_of_ble_eq_true rfl) h ?_
  intro r1 M2 h
  refine w_istore dX3_bestAsked_6 (by decide) ?_
  refine w_iload dX3_bestAsked_8 rfl ?_
  refine k_sI (as := [pI r1]) dX3_bestAsked_10 kX3_57 ⟨⟨Nat.le_of_ble_eq_true rfl, rfl, rfl⟩, Nat.le_of_ble_eq_true rfl⟩ rfl (Nat.le_of_ble_eq_true rfl) h ?_
  intro r3 M4 h
  refine w_istore dX3_bestAsked_13 (by decide) ?_
  refine w_iload dX3_bestAsked_15 rfl ?_
  refine w_iconst dX3_bestAsked_17 ?_
  refine w_iadd dX3_bestAsked_18 ?_
  refine w_istore dX3_bestAsked_19 (by decide) ?_
  refine w_iconst dX3_bestAsked_21 ?_
  refine w_istore dX3_bestAsked_22 (by decide) ?_
  refine w_iconst dX3_bestAsked_24 ?_
  refine w_istore dX3_bestAsked_25 (by decide) ?_
  exact k_pick [7, 8, 4, 3, 2, 1, 0] rfl h
theorem vX3_bestAsked_27 {E : Scr} {f : Int → Mem → Prop} {M : Mem} (x2 x3 x4 x5 x6 x7 x8 : Int) (h : (iR x8) ∧ ((x8 ≥ (bShl 1 x2) → (iR x3) ∧ ((x3 ≠ 0 → f x6 M) ∧ (x3 = 0 → f x7 M))) ∧ (x8 < (bShl 1 x2) → (KW E mX3_bestAsked (qI f) M 41 [(2, pI x2), (3, pI x3), (4, pI x4), (5, pI x5), (6, pI x6), (7, pI x7), (8, pI x8), (9, pI 0), (10, pI 0)] [])))) : KW E mX3_bestAsked (qI f) M 27 [(2, pI x2), (3, pI x3), (4, pI x4), (5, pI x5), (6, pI x6), (7, pI x7), (8, pI x8)] [] := by
  refine w_iload dX3_bestAsked_27 rfl ?_
  refine w_iconst dX3_bestAsked_29 ?_
  refine w_iload_n dX3_bestAsked_30 rfl ?_
  refine w_ishl dX3_bestAsked_31 ?_
  obtain ⟨o1, h⟩ := h
  refine w_icmp_ge dX3_bestAsked_32 rfl ⟨o1, (bShl_r _ _)⟩ (fun c => ?_) (fun c => ?_)
  · have h := h.1 c
    refine w_iload_n dX3_bestAsked_111 rfl ?_
    obtain ⟨o2, h⟩ := h
    refine w_if_ne dX3_bestAsked_112 rfl o2 (fun c => ?_) (fun c => ?_)
    · have h := h.1 c
      refine w_iload dX3_bestAsked_120 rfl ?_
      exact k_iret dX3_bestAsked_122 rfl h
    · have h := h.2 c
      refine w_iload dX3_bestAsked_115 rfl ?_
      refine w_goto dX3_bestAsked_117 rfl ?_
      exact k_iret dX3_bestAsked_122 rfl h
  · have h := h.2 c
    refine w_iconst dX3_bestAsked_35 ?_
    refine w_istore dX3_bestAsked_36 (by decide) ?_
    refine w_iconst dX3_bestAsked_38 ?_
    refine w_istore dX3_bestAsked_39 (by decide) ?_
    exact k_pick [2, 3, 4, 5, 6, 7, 8, 1, 0] rfl h
theorem vX3_bestAsked_41 {E : Scr} {f : Int → Mem → Prop} {M : Mem} (x2 x3 x4 x5 x6 x7 x8 x9 x10 : Int) (h : (iR x10) ∧ (iR (2 * x2)) ∧ ((x10 > (2 * x2) → (iR x9) ∧ (iR (x5 - x9)) ∧ (iR x6) ∧ (((max x9 (x5 - x9)) ≥ x6 → (KW E mX3_bestAsked (qI f) M 27 [(2, pI x2), (3, pI x3), (4, pI x4), (5, pI x5), (6, pI x6), (7, pI x7), (8, pI (x8 + 1))] [])) ∧ ((max x9 (x5 - x9)) < x6 → (KW E mX3_bestAsked (qI f) M 27 [(2, pI x2), (3, pI x3), (4, pI x4), (5, pI x5), (6, pI (max x9 (x5 - x9))), (7, pI x8), (8, pI (x8 + 1))] [])))) ∧ (x10 ≤ (2 * x2) → (((bAnd (bShr x4 x10) 1) = 0 → (KW E mX3_bestAsked (qI f) M 41 [(2, pI x2), (3, pI x3), (4, pI x4), (5, pI x5), (6, pI x6), (7, pI x7), (8, pI x8), (9, pI x9), (10, pI (x10 + 1))] [])) ∧ ((bAnd (bShr x4 x10) 1) ≠ 0 → (CI E mX3_lets [pI x10, pI x8] M (fun r6 M7 => (iR r6) ∧ ((r6 = 0 → (KW E mX3_bestAsked (qI f) M7 41 [(2, pI x2), (3, pI x3), (4, pI x4), (5, pI x5), (6, pI x6), (7, pI x7), (8, pI x8), (9, pI x9), (10, pI (x10 + 1))] [])) ∧ (r6 ≠ 0 → (KW E mX3_bestAsked (qI f) M7 41 [(2, pI x2), (3, pI x3), (4, pI x4), (5, pI x5), (6, pI x6), (7, pI x7), (8, pI x8), (9, pI (x9 + 1)), (10, pI (x10 + 1))] [])))))))))) : KW E mX3_bestAsked (qI f) M 41 [(2, pI x2), (3, pI x3), (4, pI x4), (5, pI x5), (6, pI x6), (7, pI x7), (8, pI x8), (9, pI x9), (10, pI x10)] [] := by
  refine w_iload dX3_bestAsked_41 rfl ?_
  refine w_iconst dX3_bestAsked_43 ?_
  refine w_iload_n dX3_bestAsked_44 rfl ?_
  refine w_imul dX3_bestAsked_45 ?_
  obtain ⟨o1, h⟩ := h
  obtain ⟨o2, h⟩ := h
  refine w_icmp_gt dX3_bestAsked_46 rfl ⟨o1, o2⟩ (fun c => ?_) (fun c => ?_)
  · have h := h.1 c
    refine w_iload dX3_bestAsked_78 rfl ?_
    refine w_iload dX3_bestAsked_80 rfl ?_
    refine w_iload dX3_bestAsked_82 rfl ?_
    refine w_isub dX3_bestAsked_84 ?_
    obtain ⟨o3, h⟩ := h
    obtain ⟨o4, h⟩ := h
    refine w_imax dX3_bestAsked_85 kX3_63 ⟨by decide, Nat.le_of_ble_eq_true rfl⟩ ⟨by decide, by decide⟩ ⟨o3, o4⟩ ?_
    refine w_istore dX3_bestAsked_88 (by decide) ?_
    refine w_iload dX3_bestAsked_90 rfl ?_
    refine w_iload dX3_bestAsked_92 rfl ?_
    obtain ⟨o5, h⟩ := h
    refine w_icmp_ge dX3_bestAsked_94 rfl ⟨(max_r o3 o4), o5⟩ (fun c => ?_) (fun c => ?_)
    · have h := h.1 c
      refine w_iinc dX3_bestAsked_105 rfl (by decide) ?_
      refine w_goto dX3_bestAsked_108 rfl ?_
      exact k_pick [2, 3, 4, 5, 6, 7, 0] rfl h
    · have h := h.2 c
      refine w_iload dX3_bestAsked_97 rfl ?_
      refine w_istore dX3_bestAsked_99 (by decide) ?_
      refine w_iload dX3_bestAsked_101 rfl ?_
      refine w_istore dX3_bestAsked_103 (by decide) ?_
      refine w_iinc dX3_bestAsked_105 rfl (by decide) ?_
      refine w_goto dX3_bestAsked_108 rfl ?_
      exact k_pick [4, 5, 6, 7, 2, 1, 0] rfl h
  · have h := h.2 c
    refine w_iload dX3_bestAsked_49 rfl ?_
    refine w_iload dX3_bestAsked_51 rfl ?_
    refine w_ishr dX3_bestAsked_53 ?_
    refine w_iconst dX3_bestAsked_54 ?_
    refine w_iand dX3_bestAsked_55 ?_
    refine w_if_eq dX3_bestAsked_56 rfl (bAnd_r _ _) (fun c => ?_) (fun c => ?_)
    · have h := h.1 c
      refine w_iinc dX3_bestAsked_72 rfl (by decide) ?_
      refine w_goto dX3_bestAsked_75 rfl ?_
      exact k_pick [1, 2, 3, 4, 5, 6, 7, 8, 0] rfl h
    · have h := h.2 c
      refine w_iload dX3_bestAsked_59 rfl ?_
      refine w_iload dX3_bestAsked_61 rfl ?_
      refine k_sI (as := [pI x10, pI x8]) dX3_bestAsked_63 kX3_50 ⟨⟨Nat.le_of_ble_eq_true rfl, rfl, rfl⟩, Nat.le_of_ble_eq_true rfl⟩ rfl (Nat.le_of_ble_eq_true rfl) h ?_
      intro r6 M7 h
      obtain ⟨o8, h⟩ := h
      refine w_if_eq dX3_bestAsked_66 rfl o8 (fun c => ?_) (fun c => ?_)
      · have h := h.1 c
        refine w_iinc dX3_bestAsked_72 rfl (by decide) ?_
        refine w_goto dX3_bestAsked_75 rfl ?_
        exact k_pick [1, 2, 3, 4, 5, 6, 7, 8, 0] rfl h
      · have h := h.2 c
        refine w_iinc dX3_bestAsked_69 rfl (by decide) ?_
        refine w_iinc dX3_bestAsked_72 rfl (by decide) ?_
        refine w_goto dX3_bestAsked_75 rfl ?_
        exact k_pick [2, 3, 4, 5, 6, 7, 8, 1, 0] rfl h
