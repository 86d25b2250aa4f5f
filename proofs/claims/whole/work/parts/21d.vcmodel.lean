theorem vX11_must_0 {E : Scr} {f : Int → Mem → Prop} {M : Mem} (x1 : Int) (h : (CI E mX11_isRow [pR 98, pI x1] (upM M 98 2 0) (fun r1 M2 => (iR r1) ∧ ((r1 ≠ 0 → (CV E mX11_layNow [pR 98] M2 (fun M5 => (0 ≤ x1 ∧ x1 < 256) ∧ ((iR (M5 131 x1.toNat)) → (((M5 131 x1.toNat) ≥ 0 → (KW E mX11_must (qI f) M5 35 [(0, pR 98), (1, pI x1), (2, pI 0), (3, pI 0)] [])) ∧ ((M5 131 x1.toNat) < 0 → f (-2) M5)))))) ∧ (r1 = 0 → f (-1) M2))))) : CI E mX11_must [pR 98, pI x1] M f := by
  refine (show KW E mX11_must (qI f) M 0 [(0, pR 98), (1, pI x1)] [] from ?_)
  refine w_aload_n dX11_must_0 rfl ?_
  refine w_iconst dX11_must_1 ?_
  refine w_putI dX11_must_2 (Or.inl ⟨rfl, fX11_160⟩) rfl rfl (by decide) ?_
  refine w_aload_n dX11_must_5 rfl ?_
  refine w_iload_n dX11_must_6 rfl ?_
  refine k_vI (as := [pI x1]) dX11_must_7 kX11_462 ⟨⟨Nat.le_of_ble_eq_true rfl, rfl, rfl⟩, Nat.le_of_ble_eq_true rfl⟩ rfl (by decide) rfl (Nat.le_of_ble_eq_true rfl) h ?_
  intro r1 M2 h
  obtain ⟨o3, h⟩ := h
  refine w_if_ne dX11_must_10 rfl o3 (fun c => ?_) (fun c => ?_)
  · have h := h.1 c
    refine w_aload_n dX11_must_15 rfl ?_
    refine k_vV (as := []) dX11_must_16 kX11_484 ⟨⟨Nat.le_of_ble_eq_true rfl, rfl, rfl⟩, Nat.le_of_ble_eq_true rfl⟩ rfl (by decide) rfl (Nat.le_of_ble_eq_true rfl) h ?_
    intro M5 h
    refine w_aload_n dX11_must_19 rfl ?_
    refine w_getR dX11_must_20 fX11_112 rfl rfl rfl ?_
    refine w_iload_n dX11_must_23 rfl ?_
    obtain ⟨o6, h⟩ := h
    refine w_iald (x := (M5 131 x1.toNat)) dX11_must_24 rfl o6 rfl (fun g7 => ?_)
    have h := h g7
    refine w_if_ge dX11_must_25 rfl g7 (fun c => ?_) (fun c => ?_)
    · have h := h.1 c
      refine w_iconst dX11_must_31 ?_
      refine w_istore_n dX11_must_32 (by decide) ?_
      refine w_iconst dX11_must_33 ?_
      refine w_istore_n dX11_must_34 (by decide) ?_
      exact k_pick [2, 3, 1, 0] rfl h
    · have h := h.2 c
      refine w_bipush dX11_must_28 (by decide) ?_
      exact k_iret dX11_must_30 rfl h
  · have h := h.2 c
    refine w_iconst dX11_must_13 ?_
    exact k_iret dX11_must_14 rfl h
theorem vX11_must_35 {E : Scr} {f : Int → Mem → Prop} {M : Mem} (x1 x2 x3 : Int) (h : ((iR (M 98 12)) → (iR x3) ∧ ((x3 ≥ (M 98 12) → f x2 M) ∧ (x3 < (M 98 12) → ((iR (M 125 0)) → ((iR (M 126 0)) → (CV E mX11_layFar [pR 98, pI (M 125 0), pI (-1), pI (bOr (M 126 0) (bShl 1 x3)), pI 0] M (fun M6 => (0 ≤ x1 ∧ x1 < 256) ∧ ((iR (M6 131 x1.toNat)) → (((M6 131 x1.toNat) ≥ 0 → (KW E mX11_must (qI f) M6 35 [(0, pR 98), (1, pI x1), (2, pI (bOr x2 0)), (3, pI (x3 + 1))] [])) ∧ ((M6 131 x1.toNat) < 0 → (KW E mX11_must (qI f) M6 35 [(0, pR 98), (1, pI x1), (2, pI (bOr x2 (bShl 1 x3))), (3, pI (x3 + 1))] [])))))))))))) : KW E mX11_must (qI f) M 35 [(0, pR 98), (1, pI x1), (2, pI x2), (3, pI x3)] [] := by
  refine w_iload_n dX11_must_35 rfl ?_
  refine w_aload_n dX11_must_36 rfl ?_
  refine w_getI (x := (M 98 12)) dX11_must_37 fX11_240 rfl rfl rfl (fun g1 => ?_)
  have h := h g1
  obtain ⟨o2, h⟩ := h
  refine w_icmp_ge dX11_must_40 rfl ⟨o2, g1⟩ (fun c => ?_) (fun c => ?_)
  · have h := h.1 c
    refine w_iload_n dX11_must_90 rfl ?_
    exact k_iret dX11_must_91 rfl h
  · have h := h.2 c
    refine w_aload_n dX11_must_43 rfl ?_
    refine w_aload_n dX11_must_44 rfl ?_
    refine w_getR dX11_must_45 fX11_94 rfl rfl rfl ?_
    refine w_iconst dX11_must_48 ?_
    refine w_iald (x := (M 125 0)) dX11_must_49 rfl (by decide) rfl (fun g3 => ?_)
    have h := h g3
    refine w_iconst dX11_must_50 ?_
    refine w_aload_n dX11_must_51 rfl ?_
    refine w_getR dX11_must_52 fX11_97 rfl rfl rfl ?_
    refine w_iconst dX11_must_55 ?_
    refine w_iald (x := (M 126 0)) dX11_must_56 rfl (by decide) rfl (fun g4 => ?_)
    have h := h g4
    refine w_iconst dX11_must_57 ?_
    refine w_iload_n dX11_must_58 rfl ?_
    refine w_ishl dX11_must_59 ?_
    refine w_ior dX11_must_60 ?_
    refine w_iconst dX11_must_61 ?_
    refine k_vV (as := [pI (M 125 0), pI (-1), pI (bOr (M 126 0) (bShl 1 x3)), pI 0]) dX11_must_62 kX11_480 ⟨⟨Nat.le_of_ble_eq_true rfl, rfl, rfl⟩, Nat.le_of_ble_eq_true rfl⟩ rfl (by decide) rfl (Nat.le_of_ble_eq_true rfl) h ?_
    intro M6 h
    refine w_iload_n dX11_must_65 rfl ?_
    refine w_aload_n dX11_must_66 rfl ?_
    refine w_getR dX11_must_67 fX11_112 rfl rfl rfl ?_
    refine w_iload_n dX11_must_70 rfl ?_
    obtain ⟨o7, h⟩ := h
    refine w_iald (x := (M6 131 x1.toNat)) dX11_must_71 rfl o7 rfl (fun g8 => ?_)
    have h := h g8
    refine w_if_ge dX11_must_72 rfl g8 (fun c => ?_) (fun c => ?_)
    · have h := h.1 c
      refine w_iconst dX11_must_81 ?_
      refine w_ior dX11_must_82 ?_
      refine w_istore_n dX11_must_83 (by decide) ?_
      refine w_iinc dX11_must_84 rfl (by decide) ?_
      refine w_goto dX11_must_87 rfl ?_
      exact k_pick [2, 3, 1, 0] rfl h
    · have h := h.2 c
      refine w_iconst dX11_must_75 ?_
      refine w_iload_n dX11_must_76 rfl ?_
      refine w_ishl dX11_must_77 ?_
      refine w_goto dX11_must_78 rfl ?_
      refine w_ior dX11_must_82 ?_
      refine w_istore_n dX11_must_83 (by decide) ?_
      refine w_iinc dX11_must_84 rfl (by decide) ?_
      refine w_goto dX11_must_87 rfl ?_
      exact k_pick [2, 3, 1, 0] rfl h
theorem vX11_free_0 {E : Scr} {f : Int → Mem → Prop} {M : Mem} (x1 : Int) (h : (CI E mX11_isLatch [pR 98, pI x1] (upM M 98 2 0) (fun r1 M2 => (iR r1) ∧ ((r1 ≠ 0 → (CV E mX11_layNow [pR 98] M2 (fun M5 => (KW E mX11_free (qI f) M5 21 [(0, pR 98), (1, pI x1), (2, pI 0)] [])))) ∧ (r1 = 0 → f (-1) M2))))) : CI E mX11_free [pR 98, pI x1] M f := by
  refine (show KW E mX11_free (qI f) M 0 [(0, pR 98), (1, pI x1)] [] from ?_)
  refine w_aload_n dX11_free_0 rfl ?_
  refine w_iconst dX11_free_1 ?_
  refine w_putI dX11_free_2 (Or.inl ⟨rfl, fX11_160⟩) rfl rfl (by decide) ?_
  refine w_aload_n dX11_free_5 rfl ?_
  refine w_iload_n dX11_free_6 rfl ?_
  refine k_vI (as := [pI x1]) dX11_free_7 kX11_456 ⟨⟨Nat.le_of_ble_eq_true rfl, rfl, rfl⟩, Nat.le_of_ble_eq_true rfl⟩ rfl (by decide) rfl (Nat.le_of_ble_eq_true rfl) h ?_
  intro r1 M2 h
  obtain ⟨o3, h⟩ := h
  refine w_if_ne dX11_free_10 rfl o3 (fun c => ?_) (fun c => ?_)
  · have h := h.1 c
    refine w_aload_n dX11_free_15 rfl ?_
    refine k_vV (as := []) dX11_free_16 kX11_484 ⟨⟨Nat.le_of_ble_eq_true rfl, rfl, rfl⟩, Nat.le_of_ble_eq_true rfl⟩ rfl (by decide) rfl (Nat.le_of_ble_eq_true rfl) h ?_
    intro M5 h
    refine w_iconst dX11_free_19 ?_
    refine w_istore_n dX11_free_20 (by decide) ?_
    exact k_pick [1, 2, 0] rfl h
  · have h := h.2 c
    refine w_iconst dX11_free_13 ?_
    exact k_iret dX11_free_14 rfl h
theorem vX11_free_21 {E : Scr} {f : Int → Mem → Prop} {M : Mem} (x1 x2 : Int) (h : ((iR (M 98 69)) → (iR x2) ∧ ((x2 ≥ (M 98 69) → f (-2) M) ∧ (x2 < (M 98 69) → (0 ≤ x2 ∧ x2 < 256) ∧ ((iR (M 133 x2.toNat)) → (0 ≤ (M 133 x2.toNat) ∧ (M 133 x2.toNat) < 256) ∧ ((iR (M 123 ((M 133 x2.toNat).toNat))) → ((iR (M 126 0)) → (CI E mX11_isOf [pI (bAnd (M 123 ((M 133 x2.toNat).toNat)) (bXor (M 126 0) (-1))), pI x1] M (fun r8 M9 => (iR r8) ∧ ((r8 = 0 → (KW E mX11_free (qI f) M9 21 [(0, pR 98), (1, pI x1), (2, pI (x2 + 1))] [])) ∧ (r8 ≠ 0 → (0 ≤ x2 ∧ x2 < 256) ∧ ((iR (M9 133 x2.toNat)) → (0 ≤ (M9 133 x2.toNat) ∧ (M9 133 x2.toNat) < 256) ∧ ((iR (M9 131 ((M9 133 x2.toNat).toNat))) → f ((M9 131 ((M9 133 x2.toNat).toNat)) + 1) M9))))))))))))) : KW E mX11_free (qI f) M 21 [(0, pR 98), (1, pI x1), (2, pI x2)] [] := by
  refine w_iload_n dX11_free_21 rfl ?_
  refine w_aload_n dX11_free_22 rfl ?_
  refine w_getI (x := (M 98 69)) dX11_free_23 fX11_476 rfl rfl rfl (fun g1 => ?_)
  have h := h g1
  obtain ⟨o2, h⟩ := h
  refine w_icmp_ge dX11_free_26 rfl ⟨o2, g1⟩ (fun c => ?_) (fun c => ?_)
  · have h := h.1 c
    refine w_bipush dX11_free_76 (by decide) ?_
    exact k_iret dX11_free_78 rfl h
  · have h := h.2 c
    refine w_aload_n dX11_free_29 rfl ?_
    refine w_getR dX11_free_30 fX11_88 rfl rfl rfl ?_
    refine w_aload_n dX11_free_33 rfl ?_
    refine w_getR dX11_free_34 fX11_118 rfl rfl rfl ?_
    refine w_iload_n dX11_free_37 rfl ?_
    obtain ⟨o3, h⟩ := h
    refine w_iald (x := (M 133 x2.toNat)) dX11_free_38 rfl o3 rfl (fun g4 => ?_)
    have h := h g4
    obtain ⟨o5, h⟩ := h
    refine w_iald (x := (M 123 ((M 133 x2.toNat).toNat))) dX11_free_39 rfl o5 rfl (fun g6 => ?_)
    have h := h g6
    refine w_aload_n dX11_free_40 rfl ?_
    refine w_getR dX11_free_41 fX11_97 rfl rfl rfl ?_
    refine w_iconst dX11_free_44 ?_
    refine w_iald (x := (M 126 0)) dX11_free_45 rfl (by decide) rfl (fun g7 => ?_)
    have h := h g7
    refine w_iconst dX11_free_46 ?_
    refine w_ixor dX11_free_47 ?_
    refine w_iand dX11_free_48 ?_
    refine w_iload_n dX11_free_49 rfl ?_
    refine k_sI (as := [pI (bAnd (M 123 ((M 133 x2.toNat).toNat)) (bXor (M 126 0) (-1))), pI x1]) dX11_free_50 kX11_372 ⟨⟨Nat.le_of_ble_eq_true rfl, rfl, rfl⟩, Nat.le_of_ble_eq_true rfl⟩ rfl (Nat.le_of_ble_eq_true rfl) h ?_
    intro r8 M9 h
    obtain ⟨o10, h⟩ := h
    refine w_if_eq dX11_free_53 rfl o10 (fun c => ?_) (fun c => ?_)
    · have h := h.1 c
      refine w_iinc dX11_free_70 rfl (by decide) ?_
      refine w_goto dX11_free_73 rfl ?_
      exact k_pick [1, 2, 0] rfl h
    · have h := h.2 c
      refine w_aload_n dX11_free_56 rfl ?_
      refine w_getR dX11_free_57 fX11_112 rfl rfl rfl ?_
      refine w_aload_n dX11_free_60 rfl ?_
      refine w_getR dX11_free_61 fX11_118 rfl rfl rfl ?_
      refine w_iload_n dX11_free_64 rfl ?_
      obtain ⟨o11, h⟩ := h
      refine w_iald (x := (M9 133 x2.toNat)) dX11_free_65 rfl o11 rfl (fun g12 => ?_)
      have h := h g12
      obtain ⟨o13, h⟩ := h
      refine w_iald (x := (M9 131 ((M9 133 x2.toNat).toNat))) dX11_free_66 rfl o13 rfl (fun g14 => ?_)
      have h := h g14
      refine w_iconst dX11_free_67 ?_
      refine w_iadd dX11_free_68 ?_
      exact k_iret dX11_free_69 rfl h
theorem vX11_ease_0 {E : Scr} {f : Int → Mem → Prop} {M : Mem} (x1 : Int) (h : (CI E mX11_isRow [pR 98, pI x1] (upM M 98 2 0) (fun r1 M2 => (iR r1) ∧ ((r1 ≠ 0 → (KW E mX11_ease (qI f) M2 20 [(0, pR 98), (1, pI x1), (2, pI (-2)), (3, pI 0)] [])) ∧ (r1 = 0 → f (-1) M2))))) : CI E mX11_ease [pR 98, pI x1] M f := by
  refine (show KW E mX11_ease (qI f) M 0 [(0, pR 98), (1, pI x1)] [] from ?_)
  refine w_aload_n dX11_ease_0 rfl ?_
  refine w_iconst dX11_ease_1 ?_
  refine w_putI dX11_ease_2 (Or.inl ⟨rfl, fX11_160⟩) rfl rfl (by decide) ?_
  refine w_aload_n dX11_ease_5 rfl ?_
  refine w_iload_n dX11_ease_6 rfl ?_
  refine k_vI (as := [pI x1]) dX11_ease_7 kX11_462 ⟨⟨Nat.le_of_ble_eq_true rfl, rfl, rfl⟩, Nat.le_of_ble_eq_true rfl⟩ rfl (by decide) rfl (Nat.le_of_ble_eq_true rfl) h ?_
  intro r1 M2 h
  obtain ⟨o3, h⟩ := h
  refine w_if_ne dX11_ease_10 rfl o3 (fun c => ?_) (fun c => ?_)
  · have h := h.1 c
    refine w_bipush dX11_ease_15 (by decide) ?_
    refine w_istore_n dX11_ease_17 (by decide) ?_
    refine w_iconst dX11_ease_18 ?_
    refine w_istore_n dX11_ease_19 (by decide) ?_
    exact k_pick [2, 3, 1, 0] rfl h
  · have h := h.2 c
    refine w_iconst dX11_ease_13 ?_
    exact k_iret dX11_ease_14 rfl h
theorem vX11_ease_20 {E : Scr} {f : Int → Mem → Prop} {M : Mem} (x1 x2 x3 : Int) (h : ((iR (M 98 12)) → (iR x3) ∧ ((x3 ≥ (bShl 1 (M 98 12)) → f x2 M) ∧ (x3 < (bShl 1 (M 98 12)) → (iR x2) ∧ ((x2 < 0 → (KW E mX11_ease (qI f) M 48 [(0, pR 98), (1, pI x1), (2, pI x2), (3, pI x3)] [])) ∧ (x2 ≥ 0 → (CI E mX11_manyOf [pI x3] M (fun r4 M5 => (CI E mX11_manyOf [pI x2] M5 (fun r6 M7 => (iR r4) ∧ (iR r6) ∧ ((r4 < r6 → (KW E mX11_ease (qI f) M7 48 [(0, pR 98), (1, pI x1), (2, pI x2), (3, pI x3)] [])) ∧ (r4 ≥ r6 → (KW E mX11_ease (qI f) M7 20 [(0, pR 98), (1, pI x1), (2, pI x2), (3, pI (x3 + 1))] []))))))))))))) : KW E mX11_ease (qI f) M 20 [(0, pR 98), (1, pI x1), (2, pI x2), (3, pI x3)] [] := by
  refine w_iload_n dX11_ease_20 rfl ?_
  refine w_iconst dX11_ease_21 ?_
  refine w_aload_n dX11_ease_22 rfl ?_
  refine w_getI (x := (M 98 12)) dX11_ease_23 fX11_240 rfl rfl rfl (fun g1 => ?_)
  have h := h g1
  refine w_ishl dX11_ease_26 ?_
  obtain ⟨o2, h⟩ := h
  refine w_icmp_ge dX11_ease_27 rfl ⟨o2, (bShl_r _ _)⟩ (fun c => ?_) (fun c => ?_)
  · have h := h.1 c
    refine w_iload_n dX11_ease_83 rfl ?_
    exact k_iret dX11_ease_84 rfl h
  · have h := h.2 c
    refine w_iload_n dX11_ease_30 rfl ?_
    obtain ⟨o3, h⟩ := h
    refine w_if_lt dX11_ease_31 rfl o3 (fun c => ?_) (fun c => ?_)
    · have h := h.1 c
      exact k_pick [0, 1, 2, 3] rfl h
    · have h := h.2 c
      refine w_iload_n dX11_ease_34 rfl ?_
      refine k_sI (as := [pI x3]) dX11_ease_35 kX11_381 ⟨⟨Nat.le_of_ble_eq_true rfl, rfl, rfl⟩, Nat.le_of_ble_eq_true rfl⟩ rfl (Nat.le_of_ble_eq_true rfl) h ?_
      intro r4 M5 h
      refine w_iload_n dX11_ease_38 rfl ?_
      refine k_sI (as := [pI x2]) dX11_ease_39 kX11_381 ⟨⟨Nat.le_of_ble_eq_true rfl, rfl, rfl⟩, Nat.le_of_ble_eq_true rfl⟩ rfl (Nat.le_of_ble_eq_true rfl) h ?_
      intro r6 M7 h
      obtain ⟨o8, h⟩ := h
      obtain ⟨o9, h⟩ := h
      refine w_icmp_lt dX11_ease_42 rfl ⟨o8, o9⟩ (fun c => ?_) (fun c => ?_)
      · have h := h.1 c
        exact k_pick [0, 1, 2, 3] rfl h
      · have h := h.2 c
        refine w_goto dX11_ease_45 rfl ?_
        refine w_iinc dX11_ease_77 rfl (by decide) ?_
        refine w_goto dX11_ease_80 rfl ?_
        exact k_pick [1, 2, 3, 0] rfl h
theorem vX11_ease_48 {E : Scr} {f : Int → Mem → Prop} {M : Mem} (x1 x2 x3 : Int) (h : ((iR (M 125 0)) → ((iR (M 126 0)) → (CV E mX11_layFar [pR 98, pI (M 125 0), pI (-1), pI (M 126 0), pI x3] M (fun M4 => (0 ≤ x1 ∧ x1 < 256) ∧ ((iR (M4 131 x1.toNat)) → (((M4 131 x1.toNat) < 0 → (KW E mX11_ease (qI f) M4 20 [(0, pR 98), (1, pI x1), (2, pI x2), (3, pI (x3 + 1))] [])) ∧ ((M4 131 x1.toNat) ≥ 0 → (KW E mX11_ease (qI f) M4 20 [(0, pR 98), (1, pI x1), (2, pI x3), (3, pI (x3 + 1))] []))))))))) : KW E mX11_ease (qI f) M 48 [(0, pR 98), (1, pI x1), (2, pI x2), (3, pI x3)] [] := by
  refine w_aload_n dX11_ease_48 rfl ?_
  refine w_aload_n dX11_ease_49 rfl ?_
  refine w_getR dX11_ease_50 fX11_94 rfl rfl rfl ?_
  refine w_iconst dX11_ease_53 ?_
  refine w_iald (x := (M 125 0)) dX11_ease_54 rfl (by decide) rfl (fun g1 => ?_)
  have h := h g1
  refine w_iconst dX11_ease_55 ?_
  refine w_aload_n dX11_ease_56 rfl ?_
  refine w_getR dX11_ease_57 fX11_97 rfl rfl rfl ?_
  refine w_iconst dX11_ease_60 ?_
  refine w_iald (x := (M 126 0)) dX11_ease_61 rfl (by decide) rfl (fun g2 => ?_)
  have h := h g2
  refine w_iload_n dX11_ease_62 rfl ?_
  refine k_vV (as := [pI (M 125 0), pI (-1), pI (M 126 0), pI x3]) dX11_ease_63 kX11_480 ⟨⟨Nat.le_of_ble_eq_true rfl, rfl, rfl⟩, Nat.le_of_ble_eq_true rfl⟩ rfl (by decide) rfl (Nat.le_of_ble_eq_true rfl) h ?_
  intro M4 h
  refine w_aload_n dX11_ease_66 rfl ?_
  refine w_getR dX11_ease_67 fX11_112 rfl rfl rfl ?_
  refine w_iload_n dX11_ease_70 rfl ?_
  obtain ⟨o5, h⟩ := h
  refine w_iald (x := (M4 131 x1.toNat)) dX11_ease_71 rfl o5 rfl (fun g6 => ?_)
  have h := h g6
  refine w_if_lt dX11_ease_72 rfl g6 (fun c => ?_) (fun c => ?_)
  · have h := h.1 c
    refine w_iinc dX11_ease_77 rfl (by decide) ?_
    refine w_goto dX11_ease_80 rfl ?_
    exact k_pick [1, 2, 3, 0] rfl h
  · have h := h.2 c
    refine w_iload_n dX11_ease_75 rfl ?_
    refine w_istore_n dX11_ease_76 (by decide) ?_
    refine w_iinc dX11_ease_77 rfl (by decide) ?_
    refine w_goto dX11_ease_80 rfl ?_
    exact k_pick [2, 3, 1, 0] rfl h
theorem vX11_winsBy_0 {E : Scr} {f : Int → Mem → Prop} {M : Mem} (x1 : Int) (h : (0 ≤ x1 ∧ x1 < 256) ∧ ((iR (M 123 x1.toNat)) → ((iR (M 126 0)) → (KW E mX11_winsBy (qI f) M 22 [(0, pR 98), (1, pI x1), (2, pI (bAnd (bAnd (M 123 x1.toNat) (bXor (M 126 0) (-1))) (bXor x1 (-1)))), (3, pI 0)] [])))) : CI E mX11_winsBy [pR 98, pI x1] M f := by
  refine (show KW E mX11_winsBy (qI f) M 0 [(0, pR 98), (1, pI x1)] [] from ?_)
  refine w_aload_n dX11_winsBy_0 rfl ?_
  refine w_getR dX11_winsBy_1 fX11_88 rfl rfl rfl ?_
  refine w_iload_n dX11_winsBy_4 rfl ?_
  obtain ⟨o1, h⟩ := h
  refine w_iald (x := (M 123 x1.toNat)) dX11_winsBy_5 rfl o1 rfl (fun g2 => ?_)
  have h := h g2
  refine w_aload_n dX11_winsBy_6 rfl ?_
  refine w_getR dX11_winsBy_7 fX11_97 rfl rfl rfl ?_
  refine w_iconst dX11_winsBy_10 ?_
  refine w_iald (x := (M 126 0)) dX11_winsBy_11 rfl (by decide) rfl (fun g3 => ?_)
  have h := h g3
  refine w_iconst dX11_winsBy_12 ?_
  refine w_ixor dX11_winsBy_13 ?_
  refine w_iand dX11_winsBy_14 ?_
  refine w_iload_n dX11_winsBy_15 rfl ?_
  refine w_iconst dX11_winsBy_16 ?_
  refine w_ixor dX11_winsBy_17 ?_
  refine w_iand dX11_winsBy_18 ?_
  refine w_istore_n dX11_winsBy_19 (by decide) ?_
  refine w_iconst dX11_winsBy_20 ?_
  refine w_istore_n dX11_winsBy_21 (by decide) ?_
  exact k_pick [2, 3, 1, 0] rfl h
theorem vX11_winsBy_22 {E : Scr} {f : Int → Mem → Prop} {M : Mem} (x1 x2 x3 : Int) (h : ((iR (M 98 12)) → (iR x3) ∧ ((x3 ≥ (M 98 12) → f (-1) M) ∧ (x3 < (M 98 12) → (CI E mX11_isOf [pI x2, pI x3] M (fun r3 M4 => (iR r3) ∧ ((r3 = 0 → (KW E mX11_winsBy (qI f) M4 22 [(0, pR 98), (1, pI x1), (2, pI x2), (3, pI (x3 + 1))] [])) ∧ (r3 ≠ 0 → (0 ≤ (bOr x1 (bShl 1 x3)) ∧ (bOr x1 (bShl 1 x3)) < 256) ∧ ((zR (M4 137 ((bOr x1 (bShl 1 x3)).toNat))) → (((M4 137 ((bOr x1 (bShl 1 x3)).toNat)) ≠ 0 → (KW E mX11_winsBy (qI f) M4 22 [(0, pR 98), (1, pI x1), (2, pI x2), (3, pI (x3 + 1))] [])) ∧ ((M4 137 ((bOr x1 (bShl 1 x3)).toNat)) = 0 → f x3 M4))))))))))) : KW E mX11_winsBy (qI f) M 22 [(0, pR 98), (1, pI x1), (2, pI x2), (3, pI x3)] [] := by
  refine w_iload_n dX11_winsBy_22 rfl ?_
  refine w_aload_n dX11_winsBy_23 rfl ?_
  refine w_getI (x := (M 98 12)) dX11_winsBy_24 fX11_240 rfl rfl rfl (fun g1 => ?_)
  have h := h g1
  obtain ⟨o2, h⟩ := h
  refine w_icmp_ge dX11_winsBy_27 rfl ⟨o2, g1⟩ (fun c => ?_) (fun c => ?_)
  · have h := h.1 c
    refine w_iconst dX11_winsBy_59 ?_
    exact k_iret dX11_winsBy_60 rfl h
  · have h := h.2 c
    refine w_iload_n dX11_winsBy_30 rfl ?_
    refine w_iload_n dX11_winsBy_31 rfl ?_
    refine k_sI (as := [pI x2, pI x3]) dX11_winsBy_32 kX11_372 ⟨⟨Nat.le_of_ble_eq_true rfl, rfl, rfl⟩, Nat.le_of_ble_eq_true rfl⟩ rfl (Nat.le_of_ble_eq_true rfl) h ?_
    intro r3 M4 h
    obtain ⟨o5, h⟩ := h
    refine w_if_eq dX11_winsBy_35 rfl o5 (fun c => ?_) (fun c => ?_)
    · have h := h.1 c
      refine w_iinc dX11_winsBy_53 rfl (by decide) ?_
      refine w_goto dX11_winsBy_56 rfl ?_
      exact k_pick [1, 2, 3, 0] rfl h
    · have h := h.2 c
      refine w_aload_n dX11_winsBy_38 rfl ?_
      refine w_getR dX11_winsBy_39 fX11_130 rfl rfl rfl ?_
      refine w_iload_n dX11_winsBy_42 rfl ?_
      refine w_iconst dX11_winsBy_43 ?_
      refine w_iload_n dX11_winsBy_44 rfl ?_
      refine w_ishl dX11_winsBy_45 ?_
      refine w_ior dX11_winsBy_46 ?_
      obtain ⟨o6, h⟩ := h
      refine w_zald (x := (M4 137 ((bOr x1 (bShl 1 x3)).toNat))) dX11_winsBy_47 rfl o6 rfl (fun g7 => ?_)
      have h := h g7
      refine w_if_ne dX11_winsBy_48 rfl (z2i g7) (fun c => ?_) (fun c => ?_)
      · have h := h.1 c
        refine w_iinc dX11_winsBy_53 rfl (by decide) ?_
        refine w_goto dX11_winsBy_56 rfl ?_
        exact k_pick [1, 2, 3, 0] rfl h
      · have h := h.2 c
        refine w_iload_n dX11_winsBy_51 rfl ?_
        exact k_iret dX11_winsBy_52 rfl h
theorem vX11_game_0 {E : Scr} {f : Int → Mem → Prop} {M : Mem} (x1 : Int) (h : (CI E mX11_isIn [pI x1, pI 0, pI 1] (upM M 98 2 0) (fun r1 M2 => (iR r1) ∧ ((r1 ≠ 0 → ((iR (M2 98 12)) → (KW E mX11_game (qI f) M2 25 [(0, pR 98), (1, pI x1), (2, pI ((bShl 1 (M2 98 12)) - 1))] []))) ∧ (r1 = 0 → f (-1) M2))))) : CI E mX11_game [pR 98, pI x1] M f := by
  refine (show KW E mX11_game (qI f) M 0 [(0, pR 98), (1, pI x1)] [] from ?_)
  refine w_aload_n dX11_game_0 rfl ?_
  refine w_iconst dX11_game_1 ?_
  refine w_putI dX11_game_2 (Or.inl ⟨rfl, fX11_160⟩) rfl rfl (by decide) ?_
  refine w_iload_n dX11_game_5 rfl ?_
  refine w_iconst dX11_game_6 ?_
  refine w_iconst dX11_game_7 ?_
  refine k_sI (as := [pI x1, pI 0, pI 1]) dX11_game_8 kX11_205 ⟨⟨Nat.le_of_ble_eq_true rfl, rfl, rfl⟩, Nat.le_of_ble_eq_true rfl⟩ rfl (Nat.le_of_ble_eq_true rfl) h ?_
  intro r1 M2 h
  obtain ⟨o3, h⟩ := h
  refine w_if_ne dX11_game_11 rfl o3 (fun c => ?_) (fun c => ?_)
  · have h := h.1 c
    refine w_iconst dX11_game_16 ?_
    refine w_aload_n dX11_game_17 rfl ?_
    refine w_getI (x := (M2 98 12)) dX11_game_18 fX11_240 rfl rfl rfl (fun g4 => ?_)
    have h := h g4
    refine w_ishl dX11_game_21 ?_
    refine w_iconst dX11_game_22 ?_
    refine w_isub dX11_game_23 ?_
    refine w_istore_n dX11_game_24 (by decide) ?_
    exact k_pick [1, 2, 0] rfl h
  · have h := h.2 c
    refine w_iconst dX11_game_14 ?_
    exact k_iret dX11_game_15 rfl h
theorem vX11_game_25 {E : Scr} {f : Int → Mem → Prop} {M : Mem} (x1 x2 : Int) (h : (iR x2) ∧ ((x2 < 0 → ((iR (M 125 0)) → (CI E mX11_winsBy [pR 98, pI (M 125 0)] M (fun r3 M4 => (iR x1) ∧ ((x1 ≠ 0 → (iR r3) ∧ ((r3 ≥ 0 → f r3 M4) ∧ (r3 < 0 → f (-2) M4))) ∧ (x1 = 0 → (iR r3) ∧ ((r3 ≥ 0 → f 0 M4) ∧ (r3 < 0 → f 1 M4)))))))) ∧ (x2 ≥ 0 → (CI E mX11_winsBy [pR 98, pI x2] M (fun r8 M9 => (iR r8) ∧ ((r8 < 0 → (0 ≤ x2 ∧ x2 < 256) ∧ (KW E mX11_game (qI f) (upM M9 137 x2.toNat 0) 25 [(0, pR 98), (1, pI x1), (2, pI (x2 + (-1)))] [])) ∧ (r8 ≥ 0 → (0 ≤ x2 ∧ x2 < 256) ∧ (KW E mX11_game (qI f) (upM M9 137 x2.toNat 1) 25 [(0, pR 98), (1, pI x1), (2, pI (x2 + (-1)))] [])))))))) : KW E mX11_game (qI f) M 25 [(0, pR 98), (1, pI x1), (2, pI x2)] [] := by
  refine w_iload_n dX11_game_25 rfl ?_
  obtain ⟨o1, h⟩ := h
  refine w_if_lt dX11_game_26 rfl o1 (fun c => ?_) (fun c => ?_)
  · have h := h.1 c
    refine w_aload_n dX11_game_54 rfl ?_
    refine w_aload_n dX11_game_55 rfl ?_
    refine w_getR dX11_game_56 fX11_94 rfl rfl rfl ?_
    refine w_iconst dX11_game_59 ?_
    refine w_iald (x := (M 125 0)) dX11_game_60 rfl (by decide) rfl (fun g2 => ?_)
    have h := h g2
    refine k_vI (as := [pI (M 125 0)]) dX11_game_61 kX11_487 ⟨⟨Nat.le_of_ble_eq_true rfl, rfl, rfl⟩, Nat.le_of_ble_eq_true rfl⟩ rfl (by decide) rfl (Nat.le_of_ble_eq_true rfl) h ?_
    intro r3 M4 h
    refine w_istore_n dX11_game_64 (by decide) ?_
    refine w_iload_n dX11_game_65 rfl ?_
    obtain ⟨o5, h⟩ := h
    refine w_if_ne dX11_game_66 rfl o5 (fun c => ?_) (fun c => ?_)
    · have h := h.1 c
      refine w_iload_n dX11_game_81 rfl ?_
      obtain ⟨o6, h⟩ := h
      refine w_if_ge dX11_game_82 rfl o6 (fun c => ?_) (fun c => ?_)
      · have h := h.1 c
        refine w_iload_n dX11_game_90 rfl ?_
        exact k_iret dX11_game_91 rfl h
      · have h := h.2 c
        refine w_bipush dX11_game_85 (by decide) ?_
        refine w_goto dX11_game_87 rfl ?_
        exact k_iret dX11_game_91 rfl h
    · have h := h.2 c
      refine w_iload_n dX11_game_69 rfl ?_
      obtain ⟨o7, h⟩ := h
      refine w_if_ge dX11_game_70 rfl o7 (fun c => ?_) (fun c => ?_)
      · have h := h.1 c
        refine w_iconst dX11_game_77 ?_
        refine w_goto dX11_game_78 rfl ?_
        exact k_iret dX11_game_91 rfl h
      · have h := h.2 c
        refine w_iconst dX11_game_73 ?_
        refine w_goto dX11_game_74 rfl ?_
        exact k_iret dX11_game_91 rfl h
  · have h := h.2 c
    refine w_aload_n dX11_game_29 rfl ?_
    refine w_getR dX11_game_30 fX11_130 rfl rfl rfl ?_
    refine w_iload_n dX11_game_33 rfl ?_
    refine w_aload_n dX11_game_34 rfl ?_
    refine w_iload_n dX11_game_35 rfl ?_
    refine k_vI (as := [pI x2]) dX11_game_36 kX11_487 ⟨⟨Nat.le_of_ble_eq_true rfl, rfl, rfl⟩, Nat.le_of_ble_eq_true rfl⟩ rfl (by decide) rfl (Nat.le_of_ble_eq_true rfl) h ?_
    intro r8 M9 h
    obtain ⟨o10, h⟩ := h
    refine w_if_lt dX11_game_39 rfl o10 (fun c => ?_) (fun c => ?_)
    · have h := h.1 c
      refine w_iconst dX11_game_46 ?_
      obtain ⟨o11, h⟩ := h
      refine w_zast dX11_game_47 rfl o11 (by decide) ?_
      refine w_iinc dX11_game_48 rfl (by decide) ?_
      refine w_goto dX11_game_51 rfl ?_
      exact k_pick [1, 2, 0] rfl h
    · have h := h.2 c
      refine w_iconst dX11_game_42 ?_
      refine w_goto dX11_game_43 rfl ?_
      obtain ⟨o12, h⟩ := h
      refine w_zast dX11_game_47 rfl o12 (by decide) ?_
      refine w_iinc dX11_game_48 rfl (by decide) ?_
      refine w_goto dX11_game_51 rfl ?_
      exact k_pick [1, 2, 0] rfl h
theorem vX11_shared_in {E : Scr} {f : Int → Mem → Prop} {M : Mem} (x0 x2 : Int) (h : (KW E mX11_shared (qL f) M 0 [(0, pL x0), (2, pL x2)] [])) : CL E mX11_shared [pL x0, pL x2] M f := by
  refine (show KW E mX11_shared (qL f) M 0 [(0, pL x0), (2, pL x2)] [] from ?_)
  exact k_pick [0, 1] rfl h
theorem vX11_shared_0 {E : Scr} {f : Int → Mem → Prop} {M : Mem} (x0 x2 : Int) (h : (lR x2) ∧ ((x2 = 0 → f x0 M) ∧ (x2 ≠ 0 → (lR x0) ∧ (lR x2) ∧ (x2 ≠ 0) ∧ (KW E mX11_shared (qL f) M 0 [(0, pL x2), (2, pL (Int.tmod x0 x2))] [])))) : KW E mX11_shared (qL f) M 0 [(0, pL x0), (2, pL x2)] [] := by
  refine w_lload_n dX11_shared_0 rfl ?_
  refine w_lconst (x := 0) dX11_shared_1 rfl ?_
  obtain ⟨o1, h⟩ := h
  refine w_lcmp_eq dX11_shared_2 dX11_shared_3 rfl ⟨o1, (by decide)⟩ (fun c => ?_) (fun c => ?_)
  · have h := h.1 c
    refine w_lload_n dX11_shared_19 rfl ?_
    exact k_lret dX11_shared_20 rfl h
  · have h := h.2 c
    refine w_lload_n dX11_shared_6 rfl ?_
    refine w_lload_n dX11_shared_7 rfl ?_
    obtain ⟨o2, h⟩ := h
    obtain ⟨o3, h⟩ := h
    obtain ⟨o4, h⟩ := h
    refine w_lrem dX11_shared_8 ⟨o2, o3, o4⟩ ?_
    refine w_lstore dX11_shared_9 (by decide) ?_
    refine w_lload_n dX11_shared_11 rfl ?_
    refine w_lstore_n dX11_shared_12 (by decide) ?_
    refine w_lload dX11_shared_13 rfl ?_
    refine w_lstore_n dX11_shared_15 (by decide) ?_
    refine w_goto dX11_shared_16 rfl ?_
    exact k_pick [1, 0] rfl h
theorem vX11_drunk_0 {E : Scr} {f : Int → Mem → Prop} {M : Mem} (x1 x2 x3 : Int) (h : (CI E mX11_isRow [pR 98, pI x1] (upM M 98 2 0) (fun r1 M2 => (iR r1) ∧ ((r1 = 0 → f (-1) M2) ∧ (r1 ≠ 0 → (CI E mX11_isIn [pI x2, pI 0, pI 5] M2 (fun r4 M5 => (iR r4) ∧ ((r4 = 0 → f (-1) M5) ∧ (r4 ≠ 0 → (CI E mX11_isIn [pI x3, pI 0, pI 1] M5 (fun r7 M8 => (iR r7) ∧ ((r7 ≠ 0 → (KW E mX11_drunk (qL f) M8 38 [(0, pR 98), (1, pI x1), (2, pI x2), (3, pI x3), (4, pI 0)] [])) ∧ (r7 = 0 → f (-1) M8))))))))))))) : CL E mX11_drunk [pR 98, pI x1, pI x2, pI x3] M f := by
  refine (show KW E mX11_drunk (qL f) M 0 [(0, pR 98), (1, pI x1), (2, pI x2), (3, pI x3)] [] from ?_)
  refine w_aload_n dX11_drunk_0 rfl ?_
  refine w_iconst dX11_drunk_1 ?_
  refine w_putI dX11_drunk_2 (Or.inl ⟨rfl, fX11_160⟩) rfl rfl (by decide) ?_
  refine w_aload_n dX11_drunk_5 rfl ?_
  refine w_iload_n dX11_drunk_6 rfl ?_
  refine k_vI (as := [pI x1]) dX11_drunk_7 kX11_462 ⟨⟨Nat.le_of_ble_eq_true rfl, rfl, rfl⟩, Nat.le_of_ble_eq_true rfl⟩ rfl (by decide) rfl (Nat.le_of_ble_eq_true rfl) h ?_
  intro r1 M2 h
  obtain ⟨o3, h⟩ := h
  refine w_if_eq dX11_drunk_10 rfl o3 (fun c => ?_) (fun c => ?_)
  · have h := h.1 c
    refine w_ldc2 dX11_drunk_31 qX11_490 ?_
    exact k_lret dX11_drunk_34 rfl h
  · have h := h.2 c
    refine w_iload_n dX11_drunk_13 rfl ?_
    refine w_iconst dX11_drunk_14 ?_
    refine w_iconst dX11_drunk_15 ?_
    refine k_sI (as := [pI x2, pI 0, pI 5]) dX11_drunk_16 kX11_205 ⟨⟨Nat.le_of_ble_eq_true rfl, rfl, rfl⟩, Nat.le_of_ble_eq_true rfl⟩ rfl (Nat.le_of_ble_eq_true rfl) h ?_
    intro r4 M5 h
    obtain ⟨o6, h⟩ := h
    refine w_if_eq dX11_drunk_19 rfl o6 (fun c => ?_) (fun c => ?_)
    · have h := h.1 c
      refine w_ldc2 dX11_drunk_31 qX11_490 ?_
      exact k_lret dX11_drunk_34 rfl h
    · have h := h.2 c
      refine w_iload_n dX11_drunk_22 rfl ?_
      refine w_iconst dX11_drunk_23 ?_
      refine w_iconst dX11_drunk_24 ?_
      refine k_sI (as := [pI x3, pI 0, pI 1]) dX11_drunk_25 kX11_205 ⟨⟨Nat.le_of_ble_eq_true rfl, rfl, rfl⟩, Nat.le_of_ble_eq_true rfl⟩ rfl (Nat.le_of_ble_eq_true rfl) h ?_
      intro r7 M8 h
      obtain ⟨o9, h⟩ := h
      refine w_if_ne dX11_drunk_28 rfl o9 (fun c => ?_) (fun c => ?_)
      · have h := h.1 c
        refine w_iconst dX11_drunk_35 ?_
        refine w_istore dX11_drunk_36 (by decide) ?_
        exact k_pick [1, 2, 3, 4, 0] rfl h
      · have h := h.2 c
        refine w_ldc2 dX11_drunk_31 qX11_490 ?_
        exact k_lret dX11_drunk_34 rfl h
theorem vX11_drunk_38 {E : Scr} {f : Int → Mem → Prop} {M : Mem} (x1 x2 x3 x4 : Int) (h : (iR x4) ∧ ((x4 ≥ 256 → ((iR (M 125 0)) → (0 ≤ (M 125 0) ∧ (M 125 0) < 256) ∧ (KW E mX11_drunk (qL f) (upM M 138 ((M 125 0).toNat) 1) 78 [(0, pR 98), (1, pI x1), (2, pI x2), (3, pI x3), (4, pL 1), (6, pI 0)] []))) ∧ (x4 < 256 → (0 ≤ x4 ∧ x4 < 256) ∧ (KW E mX11_drunk (qL f) (upM M 138 x4.toNat 0) 38 [(0, pR 98), (1, pI x1), (2, pI x2), (3, pI x3), (4, pI (x4 + 1))] [])))) : KW E mX11_drunk (qL f) M 38 [(0, pR 98), (1, pI x1), (2, pI x2), (3, pI x3), (4, pI x4)] [] := by
  refine w_iload dX11_drunk_38 rfl ?_
  refine w_sipush dX11_drunk_40 (by decide) ?_
  obtain ⟨o1, h⟩ := h
  refine w_icmp_ge dX11_drunk_43 rfl ⟨o1, (by decide)⟩ (fun c => ?_) (fun c => ?_)
  · have h := h.1 c
    refine w_aload_n dX11_drunk_60 rfl ?_
    refine w_getR dX11_drunk_61 fX11_133 rfl rfl rfl ?_
    refine w_aload_n dX11_drunk_64 rfl ?_
    refine w_getR dX11_drunk_65 fX11_94 rfl rfl rfl ?_
    refine w_iconst dX11_drunk_68 ?_
    refine w_iald (x := (M 125 0)) dX11_drunk_69 rfl (by decide) rfl (fun g2 => ?_)
    have h := h g2
    refine w_lconst (x := 1) dX11_drunk_70 rfl ?_
    obtain ⟨o3, h⟩ := h
    refine w_last dX11_drunk_71 rfl o3 (by decide) ?_
    refine w_lconst (x := 1) dX11_drunk_72 rfl ?_
    refine w_lstore dX11_drunk_73 (by decide) ?_
    refine w_iconst dX11_drunk_75 ?_
    refine w_istore dX11_drunk_76 (by decide) ?_
    exact k_pick [2, 3, 4, 5, 1, 0] rfl h
  · have h := h.2 c
    refine w_aload_n dX11_drunk_46 rfl ?_
    refine w_getR dX11_drunk_47 fX11_133 rfl rfl rfl ?_
    refine w_iload dX11_drunk_50 rfl ?_
    refine w_lconst (x := 0) dX11_drunk_52 rfl ?_
    obtain ⟨o4, h⟩ := h
    refine w_last dX11_drunk_53 rfl o4 (by decide) ?_
    refine w_iinc dX11_drunk_54 rfl (by decide) ?_
    refine w_goto dX11_drunk_57 rfl ?_
    exact k_pick [1, 2, 3, 4, 0] rfl h
theorem vX11_drunk_78 {E : Scr} {f : Int → Mem → Prop} {M : Mem} (x1 x2 x3 x4 x6 : Int) (h : (iR x6) ∧ (iR x2) ∧ ((x6 ≥ x2 → (0 ≤ x1 ∧ x1 < 256) ∧ ((lR (M 138 x1.toNat)) → (CL E mX11_shared [pL x4, pL (M 138 x1.toNat)] M (fun r5 M6 => (iR x3) ∧ ((x3 ≠ 0 → (lR x4) ∧ (lR r5) ∧ (r5 ≠ 0) ∧ f (Int.tdiv x4 r5) M6) ∧ (x3 = 0 → (0 ≤ x1 ∧ x1 < 256) ∧ ((lR (M6 138 x1.toNat)) → (lR r5) ∧ (r5 ≠ 0) ∧ f (Int.tdiv (M6 138 x1.toNat) r5) M6))))))) ∧ (x6 < x2 → (KW E mX11_drunk (qL f) M 87 [(0, pR 98), (1, pI x1), (2, pI x2), (3, pI x3), (4, pL x4), (6, pI x6), (7, pI 0)] [])))) : KW E mX11_drunk (qL f) M 78 [(0, pR 98), (1, pI x1), (2, pI x2), (3, pI x3), (4, pL x4), (6, pI x6)] [] := by
  refine w_iload dX11_drunk_78 rfl ?_
  refine w_iload_n dX11_drunk_80 rfl ?_
  obtain ⟨o1, h⟩ := h
  obtain ⟨o2, h⟩ := h
  refine w_icmp_ge dX11_drunk_81 rfl ⟨o1, o2⟩ (fun c => ?_) (fun c => ?_)
  · have h := h.1 c
    refine w_lload dX11_drunk_283 rfl ?_
    refine w_aload_n dX11_drunk_285 rfl ?_
    refine w_getR dX11_drunk_286 fX11_133 rfl rfl rfl ?_
    refine w_iload_n dX11_drunk_289 rfl ?_
    obtain ⟨o3, h⟩ := h
    refine w_lald (x := (M 138 x1.toNat)) dX11_drunk_290 rfl o3 rfl (fun g4 => ?_)
    have h := h g4
    refine k_sL (as := [pL x4, pL (M 138 x1.toNat)]) dX11_drunk_291 kX11_494 ⟨⟨Nat.le_of_ble_eq_true rfl, rfl, rfl⟩, Nat.le_of_ble_eq_true rfl⟩ rfl (Nat.le_of_ble_eq_true rfl) h ?_
    intro r5 M6 h
    refine w_lstore dX11_drunk_294 (by decide) ?_
    refine w_iload_n dX11_drunk_296 rfl ?_
    obtain ⟨o7, h⟩ := h
    refine w_if_ne dX11_drunk_297 rfl o7 (fun c => ?_) (fun c => ?_)
    · have h := h.1 c
      refine w_lload dX11_drunk_312 rfl ?_
      refine w_lload dX11_drunk_314 rfl ?_
      obtain ⟨o8, h⟩ := h
      obtain ⟨o9, h⟩ := h
      obtain ⟨o10, h⟩ := h
      refine w_ldiv dX11_drunk_316 ⟨o8, o9, o10⟩ ?_
      exact k_lret dX11_drunk_317 rfl h
    · have h := h.2 c
      refine w_aload_n dX11_drunk_300 rfl ?_
      refine w_getR dX11_drunk_301 fX11_133 rfl rfl rfl ?_
      refine w_iload_n dX11_drunk_304 rfl ?_
      obtain ⟨o11, h⟩ := h
      refine w_lald (x := (M6 138 x1.toNat)) dX11_drunk_305 rfl o11 rfl (fun g12 => ?_)
      have h := h g12
      refine w_lload dX11_drunk_306 rfl ?_
      obtain ⟨o13, h⟩ := h
      obtain ⟨o14, h⟩ := h
      refine w_ldiv dX11_drunk_308 ⟨g12, o13, o14⟩ ?_
      refine w_goto dX11_drunk_309 rfl ?_
      exact k_lret dX11_drunk_317 rfl h
  · have h := h.2 c
    refine w_iconst dX11_drunk_84 ?_
    refine w_istore dX11_drunk_85 (by decide) ?_
    exact k_pick [1, 2, 3, 4, 5, 6, 0] rfl h
theorem vX11_drunk_87 {E : Scr} {f : Int → Mem → Prop} {M : Mem} (x1 x2 x3 x4 x6 x7 : Int) (h : (iR x7) ∧ ((x7 ≥ 256 → (KW E mX11_drunk (qL f) M 112 [(0, pR 98), (1, pI x1), (2, pI x2), (3, pI x3), (4, pL x4), (6, pI x6), (7, pI 0)] [])) ∧ (x7 < 256 → (0 ≤ x7 ∧ x7 < 256) ∧ (KW E mX11_drunk (qL f) (upM M 139 x7.toNat 0) 87 [(0, pR 98), (1, pI x1), (2, pI x2), (3, pI x3), (4, pL x4), (6, pI x6), (7, pI (x7 + 1))] [])))) : KW E mX11_drunk (qL f) M 87 [(0, pR 98), (1, pI x1), (2, pI x2), (3, pI x3), (4, pL x4), (6, pI x6), (7, pI x7)] [] := by
  refine w_iload dX11_drunk_87 rfl ?_
  refine w_sipush dX11_drunk_89 (by decide) ?_
  obtain ⟨o1, h⟩ := h
  refine w_icmp_ge dX11_drunk_92 rfl ⟨o1, (by decide)⟩ (fun c => ?_) (fun c => ?_)
  · have h := h.1 c
    refine w_iconst dX11_drunk_109 ?_
    refine w_istore dX11_drunk_110 (by decide) ?_
    exact k_pick [1, 2, 3, 4, 5, 6, 0] rfl h
  · have h := h.2 c
    refine w_aload_n dX11_drunk_95 rfl ?_
    refine w_getR dX11_drunk_96 fX11_136 rfl rfl rfl ?_
    refine w_iload dX11_drunk_99 rfl ?_
    refine w_lconst (x := 0) dX11_drunk_101 rfl ?_
    obtain ⟨o2, h⟩ := h
    refine w_last dX11_drunk_102 rfl o2 (by decide) ?_
    refine w_iinc dX11_drunk_103 rfl (by decide) ?_
    refine w_goto dX11_drunk_106 rfl ?_
    exact k_pick [1, 2, 3, 4, 5, 6, 0] rfl h
theorem vX11_drunk_112 {E : Scr} {f : Int → Mem → Prop} {M : Mem} (x1 x2 x3 x4 x6 x7 : Int) (h : ((iR (M 98 12)) → (iR x7) ∧ ((x7 ≥ (bShl 1 (M 98 12)) → (KW E mX11_drunk (qL f) M 241 [(0, pR 98), (1, pI x1), (2, pI x2), (3, pI x3), (4, pL x4), (6, pI x6), (7, pI 0)] [])) ∧ (x7 < (bShl 1 (M 98 12)) → (0 ≤ x7 ∧ x7 < 256) ∧ ((iR (M 123 x7.toNat)) → ((iR (M 126 0)) → (((bAnd (M 123 x7.toNat) (bXor (M 126 0) (-1))) ≠ 0 → (KW E mX11_drunk (qL f) M 170 [(0, pR 98), (1, pI x1), (2, pI x2), (3, pI x3), (4, pL x4), (6, pI x6), (7, pI x7), (8, pI (bAnd (M 123 x7.toNat) (bXor (M 126 0) (-1)))), (9, pI 0)] [])) ∧ ((bAnd (M 123 x7.toNat) (bXor (M 126 0) (-1))) = 0 → (0 ≤ x7 ∧ x7 < 256) ∧ ((lR (M 139 x7.toNat)) → (0 ≤ x7 ∧ x7 < 256) ∧ ((lR (M 138 x7.toNat)) → (0 ≤ x7 ∧ x7 < 256) ∧ (lR ((M 139 x7.toNat) + ((M 138 x7.toNat) * 840))) ∧ (KW E mX11_drunk (qL f) (upM M 139 x7.toNat ((M 139 x7.toNat) + ((M 138 x7.toNat) * 840))) 170 [(0, pR 98), (1, pI x1), (2, pI x2), (3, pI x3), (4, pL x4), (6, pI x6), (7, pI x7), (8, pI (bAnd (M 123 x7.toNat) (bXor (M 126 0) (-1)))), (9, pI 0)] []))))))))))) : KW E mX11_drunk (qL f) M 112 [(0, pR 98), (1, pI x1), (2, pI x2), (3, pI x3), (4, pL x4), (6, pI x6), (7, pI x7)] [] := by
  refine w_iload dX11_drunk_112 rfl ?_
  refine w_iconst dX11_drunk_114 ?_
  refine w_aload_n dX11_drunk_115 rfl ?_
  refine w_getI (x := (M 98 12)) dX11_drunk_116 fX11_240 rfl rfl rfl (fun g1 => ?_)
  have h := h g1
  refine w_ishl dX11_drunk_119 ?_
  obtain ⟨o2, h⟩ := h
  refine w_icmp_ge dX11_drunk_120 rfl ⟨o2, (bShl_r _ _)⟩ (fun c => ?_) (fun c => ?_)
  · have h := h.1 c
    refine w_iconst dX11_drunk_238 ?_
    refine w_istore dX11_drunk_239 (by decide) ?_
    exact k_pick [1, 2, 3, 4, 5, 6, 0] rfl h
  · have h := h.2 c
    refine w_aload_n dX11_drunk_123 rfl ?_
    refine w_getR dX11_drunk_124 fX11_88 rfl rfl rfl ?_
    refine w_iload dX11_drunk_127 rfl ?_
    obtain ⟨o3, h⟩ := h
    refine w_iald (x := (M 123 x7.toNat)) dX11_drunk_129 rfl o3 rfl (fun g4 => ?_)
    have h := h g4
    refine w_aload_n dX11_drunk_130 rfl ?_
    refine w_getR dX11_drunk_131 fX11_97 rfl rfl rfl ?_
    refine w_iconst dX11_drunk_134 ?_
    refine w_iald (x := (M 126 0)) dX11_drunk_135 rfl (by decide) rfl (fun g5 => ?_)
    have h := h g5
    refine w_iconst dX11_drunk_136 ?_
    refine w_ixor dX11_drunk_137 ?_
    refine w_iand dX11_drunk_138 ?_
    refine w_istore dX11_drunk_139 (by decide) ?_
    refine w_iload dX11_drunk_141 rfl ?_
    refine w_if_ne dX11_drunk_143 rfl (bAnd_r _ _) (fun c => ?_) (fun c => ?_)
    · have h := h.1 c
      refine w_iconst dX11_drunk_167 ?_
      refine w_istore dX11_drunk_168 (by decide) ?_
      exact k_pick [2, 3, 4, 5, 6, 7, 8, 1, 0] rfl h
    · have h := h.2 c
      refine w_aload_n dX11_drunk_146 rfl ?_
      refine w_getR dX11_drunk_147 fX11_136 rfl rfl rfl ?_
      refine w_iload dX11_drunk_150 rfl ?_
      refine w_dup2 dX11_drunk_152 ⟨rfl, rfl⟩ ?_
      obtain ⟨o6, h⟩ := h
      refine w_lald (x := (M 139 x7.toNat)) dX11_drunk_153 rfl o6 rfl (fun g7 => ?_)
      have h := h g7
      refine w_aload_n dX11_drunk_154 rfl ?_
      refine w_getR dX11_drunk_155 fX11_133 rfl rfl rfl ?_
      refine w_iload dX11_drunk_158 rfl ?_
      obtain ⟨o8, h⟩ := h
      refine w_lald (x := (M 138 x7.toNat)) dX11_drunk_160 rfl o8 rfl (fun g9 => ?_)
      have h := h g9
      refine w_ldc2 dX11_drunk_161 qX11_492 ?_
      refine w_lmul dX11_drunk_164 ?_
      refine w_ladd dX11_drunk_165 ?_
      obtain ⟨o10, h⟩ := h
      obtain ⟨o11, h⟩ := h
      refine w_last dX11_drunk_166 rfl o10 o11 ?_
      refine w_iconst dX11_drunk_167 ?_
      refine w_istore dX11_drunk_168 (by decide) ?_
      exact k_pick [2, 3, 4, 5, 6, 7, 8, 1, 0] rfl h
theorem vX11_drunk_241 {E : Scr} {f : Int → Mem → Prop} {M : Mem} (x1 x2 x3 x4 x6 x7 : Int) (h : (iR x7) ∧ ((x7 ≥ 256 → (KW E mX11_drunk (qL f) M 78 [(0, pR 98), (1, pI x1), (2, pI x2), (3, pI x3), (4, pL (x4 * 840)), (6, pI (x6 + 1))] [])) ∧ (x7 < 256 → (0 ≤ x7 ∧ x7 < 256) ∧ ((lR (M 139 x7.toNat)) → (0 ≤ x7 ∧ x7 < 256) ∧ (KW E mX11_drunk (qL f) (upM M 138 x7.toNat (M 139 x7.toNat)) 241 [(0, pR 98), (1, pI x1), (2, pI x2), (3, pI x3), (4, pL x4), (6, pI x6), (7, pI (x7 + 1))] []))))) : KW E mX11_drunk (qL f) M 241 [(0, pR 98), (1, pI x1), (2, pI x2), (3, pI x3), (4, pL x4), (6, pI x6), (7, pI x7)] [] := by
  refine w_iload dX11_drunk_241 rfl ?_
  refine w_sipush dX11_drunk_243 (by decide) ?_
  obtain ⟨o1, h⟩ := h
  refine w_icmp_ge dX11_drunk_246 rfl ⟨o1, (by decide)⟩ (fun c => ?_) (fun c => ?_)
  · have h := h.1 c
    refine w_lload dX11_drunk_269 rfl ?_
    refine w_ldc2 dX11_drunk_271 qX11_492 ?_
    refine w_lmul dX11_drunk_274 ?_
    refine w_lstore dX11_drunk_275 (by decide) ?_
    refine w_iinc dX11_drunk_277 rfl (by decide) ?_
    refine w_goto dX11_drunk_280 rfl ?_
    exact k_pick [2, 3, 4, 5, 1, 0] rfl h
  · have h := h.2 c
    refine w_aload_n dX11_drunk_249 rfl ?_
    refine w_getR dX11_drunk_250 fX11_133 rfl rfl rfl ?_
    refine w_iload dX11_drunk_253 rfl ?_
    refine w_aload_n dX11_drunk_255 rfl ?_
    refine w_getR dX11_drunk_256 fX11_136 rfl rfl rfl ?_
    refine w_iload dX11_drunk_259 rfl ?_
    obtain ⟨o2, h⟩ := h
    refine w_lald (x := (M 139 x7.toNat)) dX11_drunk_261 rfl o2 rfl (fun g3 => ?_)
    have h := h g3
    obtain ⟨o4, h⟩ := h
    refine w_last dX11_drunk_262 rfl o4 g3 ?_
    refine w_iinc dX11_drunk_263 rfl (by decide) ?_
    refine w_goto dX11_drunk_266 rfl ?_
    exact k_pick [1, 2, 3, 4, 5, 6, 0] rfl h
theorem vX11_drunk_170 {E : Scr} {f : Int → Mem → Prop} {M : Mem} (x1 x2 x3 x4 x6 x7 x8 x9 : Int) (h : ((iR (M 98 12)) → (iR x9) ∧ ((x9 ≥ (M 98 12) → (KW E mX11_drunk (qL f) M 112 [(0, pR 98), (1, pI x1), (2, pI x2), (3, pI x3), (4, pL x4), (6, pI x6), (7, pI (x7 + 1))] [])) ∧ (x9 < (M 98 12) → (0 ≤ (bXor x7 (bShl 1 x9)) ∧ (bXor x7 (bShl 1 x9)) < 256) ∧ ((lR (M 139 ((bXor x7 (bShl 1 x9)).toNat))) → (CI E mX11_isOf [pI x8, pI x9] M (fun r5 M6 => (iR r5) ∧ ((r5 = 0 → (0 ≤ (bXor x7 (bShl 1 x9)) ∧ (bXor x7 (bShl 1 x9)) < 256) ∧ (lR ((M 139 ((bXor x7 (bShl 1 x9)).toNat)) + 0)) ∧ (KW E mX11_drunk (qL f) (upM M6 139 ((bXor x7 (bShl 1 x9)).toNat) ((M 139 ((bXor x7 (bShl 1 x9)).toNat)) + 0)) 170 [(0, pR 98), (1, pI x1), (2, pI x2), (3, pI x3), (4, pL x4), (6, pI x6), (7, pI x7), (8, pI x8), (9, pI (x9 + 1))] [])) ∧ (r5 ≠ 0 → (0 ≤ x7 ∧ x7 < 256) ∧ ((lR (M6 138 x7.toNat)) → (CI E mX11_manyOf [pI x8] M6 (fun r12 M13 => (iR r12) ∧ (r12 ≠ 0) ∧ (0 ≤ (bXor x7 (bShl 1 x9)) ∧ (bXor x7 (bShl 1 x9)) < 256) ∧ (lR ((M 139 ((bXor x7 (bShl 1 x9)).toNat)) + ((M6 138 x7.toNat) * (Int.tdiv 840 r12)))) ∧ (KW E mX11_drunk (qL f) (upM M13 139 ((bXor x7 (bShl 1 x9)).toNat) ((M 139 ((bXor x7 (bShl 1 x9)).toNat)) + ((M6 138 x7.toNat) * (Int.tdiv 840 r12)))) 170 [(0, pR 98), (1, pI x1), (2, pI x2), (3, pI x3), (4, pL x4), (6, pI x6), (7, pI x7), (8, pI x8), (9, pI (x9 + 1))] []))))))))))))) : KW E mX11_drunk (qL f) M 170 [(0, pR 98), (1, pI x1), (2, pI x2), (3, pI x3), (4, pL x4), (6, pI x6), (7, pI x7), (8, pI x8), (9, pI x9)] [] := by
  refine w_iload dX11_drunk_170 rfl ?_
  refine w_aload_n dX11_drunk_172 rfl ?_
  refine w_getI (x := (M 98 12)) dX11_drunk_173 fX11_240 rfl rfl rfl (fun g1 => ?_)
  have h := h g1
  obtain ⟨o2, h⟩ := h
  refine w_icmp_ge dX11_drunk_176 rfl ⟨o2, g1⟩ (fun c => ?_) (fun c => ?_)
  · have h := h.1 c
    refine w_iinc dX11_drunk_232 rfl (by decide) ?_
    refine w_goto dX11_drunk_235 rfl ?_
    exact k_pick [1, 2, 3, 4, 5, 6, 0] rfl h
  · have h := h.2 c
    refine w_aload_n dX11_drunk_179 rfl ?_
    refine w_getR dX11_drunk_180 fX11_136 rfl rfl rfl ?_
    refine w_iload dX11_drunk_183 rfl ?_
    refine w_iconst dX11_drunk_185 ?_
    refine w_iload dX11_drunk_186 rfl ?_
    refine w_ishl dX11_drunk_188 ?_
    refine w_ixor dX11_drunk_189 ?_
    refine w_dup2 dX11_drunk_190 ⟨rfl, rfl⟩ ?_
    obtain ⟨o3, h⟩ := h
    refine w_lald (x := (M 139 ((bXor x7 (bShl 1 x9)).toNat))) dX11_drunk_191 rfl o3 rfl (fun g4 => ?_)
    have h := h g4
    refine w_iload dX11_drunk_192 rfl ?_
    refine w_iload dX11_drunk_194 rfl ?_
    refine k_sI (as := [pI x8, pI x9]) dX11_drunk_196 kX11_372 ⟨⟨Nat.le_of_ble_eq_true rfl, rfl, rfl⟩, Nat.le_of_ble_eq_true rfl⟩ rfl (Nat.le_of_ble_eq_true rfl) h ?_
    intro r5 M6 h
    obtain ⟨o7, h⟩ := h
    refine w_if_eq dX11_drunk_199 rfl o7 (fun c => ?_) (fun c => ?_)
    · have h := h.1 c
      refine w_lconst (x := 0) dX11_drunk_223 rfl ?_
      refine w_ladd dX11_drunk_224 ?_
      obtain ⟨o8, h⟩ := h
      obtain ⟨o9, h⟩ := h
      refine w_last dX11_drunk_225 rfl o8 o9 ?_
      refine w_iinc dX11_drunk_226 rfl (by decide) ?_
      refine w_goto dX11_drunk_229 rfl ?_
      exact k_pick [1, 2, 3, 4, 5, 6, 7, 8, 0] rfl h
    · have h := h.2 c
      refine w_aload_n dX11_drunk_202 rfl ?_
      refine w_getR dX11_drunk_203 fX11_133 rfl rfl rfl ?_
      refine w_iload dX11_drunk_206 rfl ?_
      obtain ⟨o10, h⟩ := h
      refine w_lald (x := (M6 138 x7.toNat)) dX11_drunk_208 rfl o10 rfl (fun g11 => ?_)
      have h := h g11
      refine w_ldc2 dX11_drunk_209 qX11_492 ?_
      refine w_iload dX11_drunk_212 rfl ?_
      refine k_sI (as := [pI x8]) dX11_drunk_214 kX11_381 ⟨⟨Nat.le_of_ble_eq_true rfl, rfl, rfl⟩, Nat.le_of_ble_eq_true rfl⟩ rfl (Nat.le_of_ble_eq_true rfl) h ?_
      intro r12 M13 h
      obtain ⟨o14, h⟩ := h
      refine w_i2l dX11_drunk_217 o14 ?_
      obtain ⟨o15, h⟩ := h
      refine w_ldiv dX11_drunk_218 ⟨(by decide), (i2l_r o14), o15⟩ ?_
      refine w_lmul dX11_drunk_219 ?_
      refine w_goto dX11_drunk_220 rfl ?_
      refine w_ladd dX11_drunk_224 ?_
      obtain ⟨o16, h⟩ := h
      obtain ⟨o17, h⟩ := h
      refine w_last dX11_drunk_225 rfl o16 o17 ?_
      refine w_iinc dX11_drunk_226 rfl (by decide) ?_
      refine w_goto dX11_drunk_229 rfl ?_
      exact k_pick [1, 2, 3, 4, 5, 6, 7, 8, 0] rfl h
theorem vX11_holds_0 {E : Scr} {f : Int → Mem → Prop} {M : Mem} (x1 x2 : Int) (h : (CI E mX11_isIn [pI x1, pI 0, pI 6] (upM M 98 2 0) (fun r1 M2 => (iR r1) ∧ ((r1 = 0 → f (-1) M2) ∧ (r1 ≠ 0 → (CI E mX11_isIn [pI x2, pI 0, pI 1] M2 (fun r4 M5 => (iR r4) ∧ ((r4 ≠ 0 → (KW E mX11_holds (qL f) M5 36 [(0, pR 98), (1, pI x1), (2, pI x2), (3, pL 1), (5, pL 1), (7, pI 0)] [])) ∧ (r4 = 0 → f (-1) M5))))))))) : CL E mX11_holds [pR 98, pI x1, pI x2] M f := by
  refine (show KW E mX11_holds (qL f) M 0 [(0, pR 98), (1, pI x1), (2, pI x2)] [] from ?_)
  refine w_aload_n dX11_holds_0 rfl ?_
  refine w_iconst dX11_holds_1 ?_
  refine w_putI dX11_holds_2 (Or.inl ⟨rfl, fX11_160⟩) rfl rfl (by decide) ?_
  refine w_iload_n dX11_holds_5 rfl ?_
  refine w_iconst dX11_holds_6 ?_
  refine w_bipush dX11_holds_7 (by decide) ?_
  refine k_sI (as := [pI x1, pI 0, pI 6]) dX11_holds_9 kX11_205 ⟨⟨Nat.le_of_ble_eq_true rfl, rfl, rfl⟩, Nat.le_of_ble_eq_true rfl⟩ rfl (Nat.le_of_ble_eq_true rfl) h ?_
  intro r1 M2 h
  obtain ⟨o3, h⟩ := h
  refine w_if_eq dX11_holds_12 rfl o3 (fun c => ?_) (fun c => ?_)
  · have h := h.1 c
    refine w_ldc2 dX11_holds_24 qX11_490 ?_
    exact k_lret dX11_holds_27 rfl h
  · have h := h.2 c
    refine w_iload_n dX11_holds_15 rfl ?_
    refine w_iconst dX11_holds_16 ?_
    refine w_iconst dX11_holds_17 ?_
    refine k_sI (as := [pI x2, pI 0, pI 1]) dX11_holds_18 kX11_205 ⟨⟨Nat.le_of_ble_eq_true rfl, rfl, rfl⟩, Nat.le_of_ble_eq_true rfl⟩ rfl (Nat.le_of_ble_eq_true rfl) h ?_
    intro r4 M5 h
    obtain ⟨o6, h⟩ := h
    refine w_if_ne dX11_holds_21 rfl o6 (fun c => ?_) (fun c => ?_)
    · have h := h.1 c
      refine w_lconst (x := 1) dX11_holds_28 rfl ?_
      refine w_lstore_n dX11_holds_29 (by decide) ?_
      refine w_lconst (x := 1) dX11_holds_30 rfl ?_
      refine w_lstore dX11_holds_31 (by decide) ?_
      refine w_iconst dX11_holds_33 ?_
      refine w_istore dX11_holds_34 (by decide) ?_
      exact k_pick [3, 4, 5, 2, 1, 0] rfl h
    · have h := h.2 c
      refine w_ldc2 dX11_holds_24 qX11_490 ?_
      exact k_lret dX11_holds_27 rfl h
theorem vX11_holds_36 {E : Scr} {f : Int → Mem → Prop} {M : Mem} (x1 x2 x3 x5 x7 : Int) (h : (iR x7) ∧ (iR x1) ∧ ((x7 ≥ x1 → (CL E mX11_shared [pL x5, pL x3] M (fun r3 M4 => (iR x2) ∧ ((x2 ≠ 0 → (lR x5) ∧ (lR r3) ∧ (r3 ≠ 0) ∧ f (Int.tdiv x5 r3) M4) ∧ (x2 = 0 → (lR x3) ∧ (lR r3) ∧ (r3 ≠ 0) ∧ f (Int.tdiv x3 r3) M4))))) ∧ (x7 < x1 → ((iR (M 102 0)) → (iR (100 - (M 102 0))) ∧ (KW E mX11_holds (qL f) M 36 [(0, pR 98), (1, pI x1), (2, pI x2), (3, pL (x3 * (100 - (M 102 0)))), (5, pL (x5 * 100)), (7, pI (x7 + 1))] []))))) : KW E mX11_holds (qL f) M 36 [(0, pR 98), (1, pI x1), (2, pI x2), (3, pL x3), (5, pL x5), (7, pI x7)] [] := by
  refine w_iload dX11_holds_36 rfl ?_
  refine w_iload_n dX11_holds_38 rfl ?_
  obtain ⟨o1, h⟩ := h
  obtain ⟨o2, h⟩ := h
  refine w_icmp_ge dX11_holds_39 rfl ⟨o1, o2⟩ (fun c => ?_) (fun c => ?_)
  · have h := h.1 c
    refine w_lload dX11_holds_69 rfl ?_
    refine w_lload_n dX11_holds_71 rfl ?_
    refine k_sL (as := [pL x5, pL x3]) dX11_holds_72 kX11_494 ⟨⟨Nat.le_of_ble_eq_true rfl, rfl, rfl⟩, Nat.le_of_ble_eq_true rfl⟩ rfl (Nat.le_of_ble_eq_true rfl) h ?_
    intro r3 M4 h
    refine w_lstore dX11_holds_75 (by decide) ?_
    refine w_iload_n dX11_holds_77 rfl ?_
    obtain ⟨o5, h⟩ := h
    refine w_if_ne dX11_holds_78 rfl o5 (fun c => ?_) (fun c => ?_)
    · have h := h.1 c
      refine w_lload dX11_holds_88 rfl ?_
      refine w_lload dX11_holds_90 rfl ?_
      obtain ⟨o6, h⟩ := h
      obtain ⟨o7, h⟩ := h
      obtain ⟨o8, h⟩ := h
      refine w_ldiv dX11_holds_92 ⟨o6, o7, o8⟩ ?_
      exact k_lret dX11_holds_93 rfl h
    · have h := h.2 c
      refine w_lload_n dX11_holds_81 rfl ?_
      refine w_lload dX11_holds_82 rfl ?_
      obtain ⟨o9, h⟩ := h
      obtain ⟨o10, h⟩ := h
      obtain ⟨o11, h⟩ := h
      refine w_ldiv dX11_holds_84 ⟨o9, o10, o11⟩ ?_
      refine w_goto dX11_holds_85 rfl ?_
      exact k_lret dX11_holds_93 rfl h
  · have h := h.2 c
    refine w_lload_n dX11_holds_42 rfl ?_
    refine w_bipush dX11_holds_43 (by decide) ?_
    refine w_aload_n dX11_holds_45 rfl ?_
    refine w_getR dX11_holds_46 fX11_24 rfl rfl rfl ?_
    refine w_iconst dX11_holds_49 ?_
    refine w_iald (x := (M 102 0)) dX11_holds_50 rfl (by decide) rfl (fun g12 => ?_)
    have h := h g12
    refine w_isub dX11_holds_51 ?_
    obtain ⟨o13, h⟩ := h
    refine w_i2l dX11_holds_52 o13 ?_
    refine w_lmul dX11_holds_53 ?_
    refine w_lstore_n dX11_holds_54 (by decide) ?_
    refine w_lload dX11_holds_55 rfl ?_
    refine w_ldc2 dX11_holds_57 qX11_497 ?_
    refine w_lmul dX11_holds_60 ?_
    refine w_lstore dX11_holds_61 (by decide) ?_
    refine w_iinc dX11_holds_63 rfl (by decide) ?_
    refine w_goto dX11_holds_66 rfl ?_
    exact k_pick [3, 4, 5, 2, 1, 0] rfl h
theorem vX11_notes1_0 {E : Scr} {f : Int → Mem → Prop} {M : Mem} (x1 x2 x3 : Int) (h : ((iR (M 98 76)) → (((M 98 76) ≠ 24 → ((iR (M 98 76)) → (0 ≤ (3 * (M 98 76)) ∧ (3 * (M 98 76)) < 72) ∧ (iR x1) ∧ (0 ≤ ((3 * (M 98 76)) + 1) ∧ ((3 * (M 98 76)) + 1) < 72) ∧ (iR x2) ∧ (0 ≤ ((3 * (M 98 76)) + 2) ∧ ((3 * (M 98 76)) + 2) < 72) ∧ (iR x3) ∧ ((iR (M 98 76)) → (iR ((M 98 76) + 1)) ∧ ((iR ((M 98 76) + 1)) → f (((M 98 76) + 1) - 1) (upM (upM (upM (upM M 140 ((3 * (M 98 76)).toNat) x1) 140 (((3 * (M 98 76)) + 1).toNat) x2) 140 (((3 * (M 98 76)) + 2).toNat) x3) 98 76 ((M 98 76) + 1)))))) ∧ ((M 98 76) = 24 → f (-1) M)))) : CI E mX11_notes1 [pR 98, pI x1, pI x2, pI x3] M f := by
  refine (show KW E mX11_notes1 (qI f) M 0 [(0, pR 98), (1, pI x1), (2, pI x2), (3, pI x3)] [] from ?_)
  refine w_aload_n dX11_notes1_0 rfl ?_
  refine w_getI (x := (M 98 76)) dX11_notes1_1 fX11_394 rfl rfl rfl (fun g1 => ?_)
  have h := h g1
  refine w_bipush dX11_notes1_4 (by decide) ?_
  refine w_icmp_ne dX11_notes1_6 rfl ⟨g1, (by decide)⟩ (fun c => ?_) (fun c => ?_)
  · have h := h.1 c
    refine w_iconst dX11_notes1_11 ?_
    refine w_aload_n dX11_notes1_12 rfl ?_
    refine w_getI (x := (M 98 76)) dX11_notes1_13 fX11_394 rfl rfl rfl (fun g2 => ?_)
    have h := h g2
    refine w_imul dX11_notes1_16 ?_
    refine w_istore dX11_notes1_17 (by decide) ?_
    refine w_aload_n dX11_notes1_19 rfl ?_
    refine w_getR dX11_notes1_20 fX11_142 rfl rfl rfl ?_
    refine w_iload dX11_notes1_23 rfl ?_
    refine w_iload_n dX11_notes1_25 rfl ?_
    obtain ⟨o3, h⟩ := h
    obtain ⟨o4, h⟩ := h
    refine w_iast dX11_notes1_26 rfl o3 o4 ?_
    refine w_aload_n dX11_notes1_27 rfl ?_
    refine w_getR dX11_notes1_28 fX11_142 rfl rfl rfl ?_
    refine w_iload dX11_notes1_31 rfl ?_
    refine w_iconst dX11_notes1_33 ?_
    refine w_iadd dX11_notes1_34 ?_
    refine w_iload_n dX11_notes1_35 rfl ?_
    obtain ⟨o5, h⟩ := h
    obtain ⟨o6, h⟩ := h
    refine w_iast dX11_notes1_36 rfl o5 o6 ?_
    refine w_aload_n dX11_notes1_37 rfl ?_
    refine w_getR dX11_notes1_38 fX11_142 rfl rfl rfl ?_
    refine w_iload dX11_notes1_41 rfl ?_
    refine w_iconst dX11_notes1_43 ?_
    refine w_iadd dX11_notes1_44 ?_
    refine w_iload_n dX11_notes1_45 rfl ?_
    obtain ⟨o7, h⟩ := h
    obtain ⟨o8, h⟩ := h
    refine w_iast dX11_notes1_46 rfl o7 o8 ?_
    refine w_aload_n dX11_notes1_47 rfl ?_
    refine w_dup dX11_notes1_48 rfl ?_
    refine w_getI (x := (M 98 76)) dX11_notes1_49 fX11_394 rfl rfl rfl (fun g9 => ?_)
    have h := h g9
    refine w_iconst dX11_notes1_52 ?_
    refine w_iadd dX11_notes1_53 ?_
    obtain ⟨o10, h⟩ := h
    refine w_putI dX11_notes1_54 (Or.inl ⟨rfl, fX11_394⟩) rfl rfl o10 ?_
    refine w_aload_n dX11_notes1_57 rfl ?_
    refine w_getI (x := ((M 98 76) + 1)) dX11_notes1_58 fX11_394 rfl rfl rfl (fun g11 => ?_)
    have h := h g11
    refine w_iconst dX11_notes1_61 ?_
    refine w_isub dX11_notes1_62 ?_
    exact k_iret dX11_notes1_63 rfl h
  · have h := h.2 c
    refine w_iconst dX11_notes1_9 ?_
    exact k_iret dX11_notes1_10 rfl h
theorem vX11_note_0 {E : Scr} {f : Int → Mem → Prop} {M : Mem} (x1 x2 x3 : Int) (h : (CI E mX11_isRow [pR 98, pI x1] (upM M 98 2 0) (fun r1 M2 => (iR r1) ∧ ((r1 = 0 → f (-1) M2) ∧ (r1 ≠ 0 → (CI E mX11_isLatch [pR 98, pI x2] M2 (fun r4 M5 => (iR r4) ∧ ((r4 = 0 → f (-1) M5) ∧ (r4 ≠ 0 → (iR x3) ∧ ((x3 = 0 → (CI E mX11_notes1 [pR 98, pI x1, pI x2, pI 0] M5 (fun r8 M9 => f r8 M9))) ∧ (x3 ≠ 0 → (CI E mX11_notes1 [pR 98, pI x1, pI x2, pI 1] M5 (fun r10 M11 => f r10 M11))))))))))))) : CI E mX11_note [pR 98, pI x1, pI x2, pI x3] M f := by
  refine (show KW E mX11_note (qI f) M 0 [(0, pR 98), (1, pI x1), (2, pI x2), (3, pI x3)] [] from ?_)
  refine w_aload_n dX11_note_0 rfl ?_
  refine w_iconst dX11_note_1 ?_
  refine w_putI dX11_note_2 (Or.inl ⟨rfl, fX11_160⟩) rfl rfl (by decide) ?_
  refine w_aload_n dX11_note_5 rfl ?_
  refine w_iload_n dX11_note_6 rfl ?_
  refine k_vI (as := [pI x1]) dX11_note_7 kX11_462 ⟨⟨Nat.le_of_ble_eq_true rfl, rfl, rfl⟩, Nat.le_of_ble_eq_true rfl⟩ rfl (by decide) rfl (Nat.le_of_ble_eq_true rfl) h ?_
  intro r1 M2 h
  obtain ⟨o3, h⟩ := h
  refine w_if_eq dX11_note_10 rfl o3 (fun c => ?_) (fun c => ?_)
  · have h := h.1 c
    refine w_iconst dX11_note_39 ?_
    exact k_iret dX11_note_40 rfl h
  · have h := h.2 c
    refine w_aload_n dX11_note_13 rfl ?_
    refine w_iload_n dX11_note_14 rfl ?_
    refine k_vI (as := [pI x2]) dX11_note_15 kX11_456 ⟨⟨Nat.le_of_ble_eq_true rfl, rfl, rfl⟩, Nat.le_of_ble_eq_true rfl⟩ rfl (by decide) rfl (Nat.le_of_ble_eq_true rfl) h ?_
    intro r4 M5 h
    obtain ⟨o6, h⟩ := h
    refine w_if_eq dX11_note_18 rfl o6 (fun c => ?_) (fun c => ?_)
    · have h := h.1 c
      refine w_iconst dX11_note_39 ?_
      exact k_iret dX11_note_40 rfl h
    · have h := h.2 c
      refine w_aload_n dX11_note_21 rfl ?_
      refine w_iload_n dX11_note_22 rfl ?_
      refine w_iload_n dX11_note_23 rfl ?_
      refine w_iload_n dX11_note_24 rfl ?_
      obtain ⟨o7, h⟩ := h
      refine w_if_eq dX11_note_25 rfl o7 (fun c => ?_) (fun c => ?_)
      · have h := h.1 c
        refine w_iconst dX11_note_32 ?_
        refine k_vI (as := [pI x1, pI x2, pI 0]) dX11_note_33 kX11_499 ⟨⟨Nat.le_of_ble_eq_true rfl, rfl, rfl⟩, Nat.le_of_ble_eq_true rfl⟩ rfl (by decide) rfl (Nat.le_of_ble_eq_true rfl) h ?_
        intro r8 M9 h
        refine w_goto dX11_note_36 rfl ?_
        exact k_iret dX11_note_40 rfl h
      · have h := h.2 c
        refine w_iconst dX11_note_28 ?_
        refine w_goto dX11_note_29 rfl ?_
        refine k_vI (as := [pI x1, pI x2, pI 1]) dX11_note_33 kX11_499 ⟨⟨Nat.le_of_ble_eq_true rfl, rfl, rfl⟩, Nat.le_of_ble_eq_true rfl⟩ rfl (by decide) rfl (Nat.le_of_ble_eq_true rfl) h ?_
        intro r10 M11 h
        refine w_goto dX11_note_36 rfl ?_
        exact k_iret dX11_note_40 rfl h
theorem vX11_strike_0 {E : Scr} {f : Int → Mem → Prop} {M : Mem} (x1 : Int) (h : (iR x1) ∧ ((x1 < 0 → f (-1) (upM M 98 2 0)) ∧ (x1 ≥ 0 → ((iR (M 98 76)) → (iR x1) ∧ ((x1 < (M 98 76) → (CI E mX11_notes1 [pR 98, pI (-1), pI x1, pI 0] (upM M 98 2 0) (fun r4 M5 => f r4 M5))) ∧ (x1 ≥ (M 98 76) → f (-1) (upM M 98 2 0))))))) : CI E mX11_strike [pR 98, pI x1] M f := by
  refine (show KW E mX11_strike (qI f) M 0 [(0, pR 98), (1, pI x1)] [] from ?_)
  refine w_aload_n dX11_strike_0 rfl ?_
  refine w_iconst dX11_strike_1 ?_
  refine w_putI dX11_strike_2 (Or.inl ⟨rfl, fX11_160⟩) rfl rfl (by decide) ?_
  refine w_iload_n dX11_strike_5 rfl ?_
  obtain ⟨o1, h⟩ := h
  refine w_if_lt dX11_strike_6 rfl o1 (fun c => ?_) (fun c => ?_)
  · have h := h.1 c
    refine w_iconst dX11_strike_17 ?_
    refine w_goto dX11_strike_18 rfl ?_
    exact k_iret dX11_strike_28 rfl h
  · have h := h.2 c
    refine w_iload_n dX11_strike_9 rfl ?_
    refine w_aload_n dX11_strike_10 rfl ?_
    refine w_getI (x := (M 98 76)) dX11_strike_11 fX11_394 rfl rfl rfl (fun g2 => ?_)
    have h := h g2
    obtain ⟨o3, h⟩ := h
    refine w_icmp_lt dX11_strike_14 rfl ⟨o3, g2⟩ (fun c => ?_) (fun c => ?_)
    · have h := h.1 c
      refine w_aload_n dX11_strike_21 rfl ?_
      refine w_iconst dX11_strike_22 ?_
      refine w_iload_n dX11_strike_23 rfl ?_
      refine w_iconst dX11_strike_24 ?_
      refine k_vI (as := [pI (-1), pI x1, pI 0]) dX11_strike_25 kX11_499 ⟨⟨Nat.le_of_ble_eq_true rfl, rfl, rfl⟩, Nat.le_of_ble_eq_true rfl⟩ rfl (by decide) rfl (Nat.le_of_ble_eq_true rfl) h ?_
      intro r4 M5 h
      exact k_iret dX11_strike_28 rfl h
    · have h := h.2 c
      refine w_iconst dX11_strike_17 ?_
      refine w_goto dX11_strike_18 rfl ?_
      exact k_iret dX11_strike_28 rfl h
theorem vX11_known_0 {E : Scr} {f : Int → Mem → Prop} {M : Mem} (x1 : Int) (h : ((iR (M 98 76)) → (CI E mX11_isIn [pI x1, pI (-1), pI (M 98 76)] (upM M 98 2 0) (fun r2 M3 => (iR r2) ∧ ((r2 ≠ 0 → (iR x1) ∧ f 1 (upM M3 98 77 x1)) ∧ (r2 = 0 → f 0 M3)))))) : CI E mX11_known [pR 98, pI x1] M f := by
  refine (show KW E mX11_known (qI f) M 0 [(0, pR 98), (1, pI x1)] [] from ?_)
  refine w_aload_n dX11_known_0 rfl ?_
  refine w_iconst dX11_known_1 ?_
  refine w_putI dX11_known_2 (Or.inl ⟨rfl, fX11_160⟩) rfl rfl (by decide) ?_
  refine w_iload_n dX11_known_5 rfl ?_
  refine w_iconst dX11_known_6 ?_
  refine w_aload_n dX11_known_7 rfl ?_
  refine w_getI (x := (M 98 76)) dX11_known_8 fX11_394 rfl rfl rfl (fun g1 => ?_)
  have h := h g1
  refine k_sI (as := [pI x1, pI (-1), pI (M 98 76)]) dX11_known_11 kX11_205 ⟨⟨Nat.le_of_ble_eq_true rfl, rfl, rfl⟩, Nat.le_of_ble_eq_true rfl⟩ rfl (Nat.le_of_ble_eq_true rfl) h ?_
  intro r2 M3 h
  obtain ⟨o4, h⟩ := h
  refine w_if_ne dX11_known_14 rfl o4 (fun c => ?_) (fun c => ?_)
  · have h := h.1 c
    refine w_aload_n dX11_known_19 rfl ?_
    refine w_iload_n dX11_known_20 rfl ?_
    obtain ⟨o5, h⟩ := h
    refine w_putI dX11_known_21 (Or.inl ⟨rfl, fX11_139⟩) rfl rfl o5 ?_
    refine w_iconst dX11_known_24 ?_
    exact k_zret dX11_known_25 rfl (by decide) h
  · have h := h.2 c
    refine w_iconst dX11_known_17 ?_
    exact k_zret dX11_known_18 rfl (by decide) h
theorem vX11_knownBy_0 {E : Scr} {f : Int → Mem → Prop} {M : Mem} (h : ((iR (M 98 77)) → (((M 98 77) ≥ 0 → ((iR (M 98 77)) → f (M 98 77) M)) ∧ ((M 98 77) < 0 → ((iR (M 98 76)) → f (M 98 76) M))))) : CI E mX11_knownBy [pR 98] M f := by
  refine (show KW E mX11_knownBy (qI f) M 0 [(0, pR 98)] [] from ?_)
  refine w_aload_n dX11_knownBy_0 rfl ?_
  refine w_getI (x := (M 98 77)) dX11_knownBy_1 fX11_139 rfl rfl rfl (fun g1 => ?_)
  have h := h g1
  refine w_if_ge dX11_knownBy_4 rfl g1 (fun c => ?_) (fun c => ?_)
  · have h := h.1 c
    refine w_aload_n dX11_knownBy_14 rfl ?_
    refine w_getI (x := (M 98 77)) dX11_knownBy_15 fX11_139 rfl rfl rfl (fun g2 => ?_)
    have h := h g2
    exact k_iret dX11_knownBy_18 rfl h
  · have h := h.2 c
    refine w_aload_n dX11_knownBy_7 rfl ?_
    refine w_getI (x := (M 98 76)) dX11_knownBy_8 fX11_394 rfl rfl rfl (fun g3 => ?_)
    have h := h g3
    refine w_goto dX11_knownBy_11 rfl ?_
    exact k_iret dX11_knownBy_18 rfl h
theorem vX11_isBy_0 {E : Scr} {f : Int → Mem → Prop} {M : Mem} (x0 x1 : Int) (h : (iR x0) ∧ ((x0 = 0 → f 1 M) ∧ (x0 ≠ 0 → (iR (x0 - 1)) ∧ (CI E mX11_isOf [pI x1, pI (Int.tdiv (x0 - 1) 2)] M (fun r3 M4 => (iR x0) ∧ (iR (Int.tmod x0 2)) ∧ (((Int.tmod x0 2) ≠ 1 → (iR r3) ∧ ((r3 ≠ 0 → f 0 M4) ∧ (r3 = 0 → f 1 M4))) ∧ ((Int.tmod x0 2) = 1 → (iR r3) ∧ ((r3 ≠ 1 → f 0 M4) ∧ (r3 = 1 → f 1 M4))))))))) : CI E mX11_isBy [pI x0, pI x1] M f := by
  refine (show KW E mX11_isBy (qI f) M 0 [(0, pI x0), (1, pI x1)] [] from ?_)
  refine w_iload_n dX11_isBy_0 rfl ?_
  obtain ⟨o1, h⟩ := h
  refine w_if_eq dX11_isBy_1 rfl o1 (fun c => ?_) (fun c => ?_)
  · have h := h.1 c
    refine w_iconst dX11_isBy_28 ?_
    refine w_goto dX11_isBy_29 rfl ?_
    exact k_zret dX11_isBy_33 rfl (by decide) h
  · have h := h.2 c
    refine w_iload_n dX11_isBy_4 rfl ?_
    refine w_iload_n dX11_isBy_5 rfl ?_
    refine w_iconst dX11_isBy_6 ?_
    refine w_isub dX11_isBy_7 ?_
    refine w_iconst dX11_isBy_8 ?_
    obtain ⟨o2, h⟩ := h
    refine w_idiv dX11_isBy_9 ⟨o2, (by decide), (by decide)⟩ ?_
    refine k_sI (as := [pI x1, pI (Int.tdiv (x0 - 1) 2)]) dX11_isBy_10 kX11_372 ⟨⟨Nat.le_of_ble_eq_true rfl, rfl, rfl⟩, Nat.le_of_ble_eq_true rfl⟩ rfl (Nat.le_of_ble_eq_true rfl) h ?_
    intro r3 M4 h
    refine w_iload_n dX11_isBy_13 rfl ?_
    refine w_iconst dX11_isBy_14 ?_
    obtain ⟨o5, h⟩ := h
    refine w_irem dX11_isBy_15 ⟨o5, (by decide), (by decide)⟩ ?_
    refine w_iconst dX11_isBy_16 ?_
    obtain ⟨o6, h⟩ := h
    refine w_icmp_ne dX11_isBy_17 rfl ⟨o6, (by decide)⟩ (fun c => ?_) (fun c => ?_)
    · have h := h.1 c
      refine w_iconst dX11_isBy_24 ?_
      obtain ⟨o7, h⟩ := h
      refine w_icmp_ne dX11_isBy_25 rfl ⟨o7, (by decide)⟩ (fun c => ?_) (fun c => ?_)
      · have h := h.1 c
        refine w_iconst dX11_isBy_32 ?_
        exact k_zret dX11_isBy_33 rfl (by decide) h
      · have h := h.2 c
        refine w_iconst dX11_isBy_28 ?_
        refine w_goto dX11_isBy_29 rfl ?_
        exact k_zret dX11_isBy_33 rfl (by decide) h
    · have h := h.2 c
      refine w_iconst dX11_isBy_20 ?_
      refine w_goto dX11_isBy_21 rfl ?_
      obtain ⟨o8, h⟩ := h
      refine w_icmp_ne dX11_isBy_25 rfl ⟨o8, (by decide)⟩ (fun c => ?_) (fun c => ?_)
      · have h := h.1 c
        refine w_iconst dX11_isBy_32 ?_
        exact k_zret dX11_isBy_33 rfl (by decide) h
      · have h := h.2 c
        refine w_iconst dX11_isBy_28 ?_
        refine w_goto dX11_isBy_29 rfl ?_
        exact k_zret dX11_isBy_33 rfl (by decide) h
theorem vX11_fitsOf_0 {E : Scr} {f : Int → Mem → Prop} {M : Mem} (x1 : Int) (h : (KW E mX11_fitsOf (qI f) M 2 [(0, pR 98), (1, pI x1), (2, pI 0)] [])) : CI E mX11_fitsOf [pR 98, pI x1] M f := by
  refine (show KW E mX11_fitsOf (qI f) M 0 [(0, pR 98), (1, pI x1)] [] from ?_)
  refine w_iconst dX11_fitsOf_0 ?_
  refine w_istore_n dX11_fitsOf_1 (by decide) ?_
  exact k_pick [1, 2, 0] rfl h
theorem vX11_fitsOf_2 {E : Scr} {f : Int → Mem → Prop} {M : Mem} (x1 x2 : Int) (h : (CI E mX11_knownBy [pR 98] M (fun r1 M2 => (iR x2) ∧ (iR r1) ∧ ((x2 ≥ r1 → (CI E mX11_knownBy [pR 98] M2 (fun r5 M6 => (KW E mX11_fitsOf (qI f) M6 30 [(0, pR 98), (1, pI x1), (2, pI (r5 - 1))] [])))) ∧ (x2 < r1 → (0 ≤ x2 ∧ x2 < 24) ∧ (KW E mX11_fitsOf (qI f) (upM M2 141 x2.toNat 1) 2 [(0, pR 98), (1, pI x1), (2, pI (x2 + 1))] [])))))) : KW E mX11_fitsOf (qI f) M 2 [(0, pR 98), (1, pI x1), (2, pI x2)] [] := by
  refine w_iload_n dX11_fitsOf_2 rfl ?_
  refine w_aload_n dX11_fitsOf_3 rfl ?_
  refine k_vI (as := []) dX11_fitsOf_4 kX11_502 ⟨⟨Nat.le_of_ble_eq_true rfl, rfl, rfl⟩, Nat.le_of_ble_eq_true rfl⟩ rfl (by decide) rfl (Nat.le_of_ble_eq_true rfl) h ?_
  intro r1 M2 h
  obtain ⟨o3, h⟩ := h
  obtain ⟨o4, h⟩ := h
  refine w_icmp_ge dX11_fitsOf_7 rfl ⟨o3, o4⟩ (fun c => ?_) (fun c => ?_)
  · have h := h.1 c
    refine w_aload_n dX11_fitsOf_23 rfl ?_
    refine k_vI (as := []) dX11_fitsOf_24 kX11_502 ⟨⟨Nat.le_of_ble_eq_true rfl, rfl, rfl⟩, Nat.le_of_ble_eq_true rfl⟩ rfl (by decide) rfl (Nat.le_of_ble_eq_true rfl) h ?_
    intro r5 M6 h
    refine w_iconst dX11_fitsOf_27 ?_
    refine w_isub dX11_fitsOf_28 ?_
    refine w_istore_n dX11_fitsOf_29 (by decide) ?_
    exact k_pick [1, 2, 0] rfl h
  · have h := h.2 c
    refine w_aload_n dX11_fitsOf_10 rfl ?_
    refine w_getR dX11_fitsOf_11 fX11_145 rfl rfl rfl ?_
    refine w_iload_n dX11_fitsOf_14 rfl ?_
    refine w_iconst dX11_fitsOf_15 ?_
    obtain ⟨o7, h⟩ := h
    refine w_zast dX11_fitsOf_16 rfl o7 (by decide) ?_
    refine w_iinc dX11_fitsOf_17 rfl (by decide) ?_
    refine w_goto dX11_fitsOf_20 rfl ?_
    exact k_pick [1, 2, 0] rfl h
theorem vX11_fitsOf_30 {E : Scr} {f : Int → Mem → Prop} {M : Mem} (x1 x2 : Int) (h : (iR x2) ∧ ((x2 < 0 → (KW E mX11_fitsOf (qI f) M 80 [(0, pR 98), (1, pI x1), (2, pI 0), (3, pI 0)] [])) ∧ (x2 ≥ 0 → (0 ≤ x2 ∧ x2 < 24) ∧ ((zR (M 141 x2.toNat)) → (((M 141 x2.toNat) = 0 → (KW E mX11_fitsOf (qI f) M 30 [(0, pR 98), (1, pI x1), (2, pI (x2 + (-1)))] [])) ∧ ((M 141 x2.toNat) ≠ 0 → (0 ≤ (3 * x2) ∧ (3 * x2) < 72) ∧ ((iR (M 140 ((3 * x2).toNat))) → (((M 140 ((3 * x2).toNat)) ≥ 0 → (KW E mX11_fitsOf (qI f) M 30 [(0, pR 98), (1, pI x1), (2, pI (x2 + (-1)))] [])) ∧ ((M 140 ((3 * x2).toNat)) < 0 → (0 ≤ ((3 * x2) + 1) ∧ ((3 * x2) + 1) < 72) ∧ ((iR (M 140 (((3 * x2) + 1).toNat))) → (0 ≤ (M 140 (((3 * x2) + 1).toNat)) ∧ (M 140 (((3 * x2) + 1).toNat)) < 24) ∧ (KW E mX11_fitsOf (qI f) (upM M 141 ((M 140 (((3 * x2) + 1).toNat)).toNat) 0) 30 [(0, pR 98), (1, pI x1), (2, pI (x2 + (-1)))] []))))))))))) : KW E mX11_fitsOf (qI f) M 30 [(0, pR 98), (1, pI x1), (2, pI x2)] [] := by
  refine w_iload_n dX11_fitsOf_30 rfl ?_
  obtain ⟨o1, h⟩ := h
  refine w_if_lt dX11_fitsOf_31 rfl o1 (fun c => ?_) (fun c => ?_)
  · have h := h.1 c
    refine w_iconst dX11_fitsOf_76 ?_
    refine w_istore_n dX11_fitsOf_77 (by decide) ?_
    refine w_iconst dX11_fitsOf_78 ?_
    refine w_istore_n dX11_fitsOf_79 (by decide) ?_
    exact k_pick [2, 3, 1, 0] rfl h
  · have h := h.2 c
    refine w_aload_n dX11_fitsOf_34 rfl ?_
    refine w_getR dX11_fitsOf_35 fX11_145 rfl rfl rfl ?_
    refine w_iload_n dX11_fitsOf_38 rfl ?_
    obtain ⟨o2, h⟩ := h
    refine w_zald (x := (M 141 x2.toNat)) dX11_fitsOf_39 rfl o2 rfl (fun g3 => ?_)
    have h := h g3
    refine w_if_eq dX11_fitsOf_40 rfl (z2i g3) (fun c => ?_) (fun c => ?_)
    · have h := h.1 c
      refine w_iinc dX11_fitsOf_70 rfl (by decide) ?_
      refine w_goto dX11_fitsOf_73 rfl ?_
      exact k_pick [1, 2, 0] rfl h
    · have h := h.2 c
      refine w_aload_n dX11_fitsOf_43 rfl ?_
      refine w_getR dX11_fitsOf_44 fX11_142 rfl rfl rfl ?_
      refine w_iconst dX11_fitsOf_47 ?_
      refine w_iload_n dX11_fitsOf_48 rfl ?_
      refine w_imul dX11_fitsOf_49 ?_
      obtain ⟨o4, h⟩ := h
      refine w_iald (x := (M 140 ((3 * x2).toNat))) dX11_fitsOf_50 rfl o4 rfl (fun g5 => ?_)
      have h := h g5
      refine w_if_ge dX11_fitsOf_51 rfl g5 (fun c => ?_) (fun c => ?_)
      · have h := h.1 c
        refine w_iinc dX11_fitsOf_70 rfl (by decide) ?_
        refine w_goto dX11_fitsOf_73 rfl ?_
        exact k_pick [1, 2, 0] rfl h
      · have h := h.2 c
        refine w_aload_n dX11_fitsOf_54 rfl ?_
        refine w_getR dX11_fitsOf_55 fX11_145 rfl rfl rfl ?_
        refine w_aload_n dX11_fitsOf_58 rfl ?_
        refine w_getR dX11_fitsOf_59 fX11_142 rfl rfl rfl ?_
        refine w_iconst dX11_fitsOf_62 ?_
        refine w_iload_n dX11_fitsOf_63 rfl ?_
        refine w_imul dX11_fitsOf_64 ?_
        refine w_iconst dX11_fitsOf_65 ?_
        refine w_iadd dX11_fitsOf_66 ?_
        obtain ⟨o6, h⟩ := h
        refine w_iald (x := (M 140 (((3 * x2) + 1).toNat))) dX11_fitsOf_67 rfl o6 rfl (fun g7 => ?_)
        have h := h g7
        refine w_iconst dX11_fitsOf_68 ?_
        obtain ⟨o8, h⟩ := h
        refine w_zast dX11_fitsOf_69 rfl o8 (by decide) ?_
        refine w_iinc dX11_fitsOf_70 rfl (by decide) ?_
        refine w_goto dX11_fitsOf_73 rfl ?_
        exact k_pick [1, 2, 0] rfl h
theorem vX11_fitsOf_80 {E : Scr} {f : Int → Mem → Prop} {M : Mem} (x1 x2 x3 : Int) (h : ((iR (M 98 12)) → (iR x3) ∧ (iR (2 * (M 98 12))) ∧ ((x3 > (2 * (M 98 12)) → f x2 M) ∧ (x3 ≤ (2 * (M 98 12)) → (iR x3) ∧ ((x3 ≤ 0 → (KW E mX11_fitsOf (qI f) M 112 [(0, pR 98), (1, pI x1), (2, pI x2), (3, pI x3), (4, pI 1), (5, pI 0)] [])) ∧ (x3 > 0 → (iR (x3 - 1)) ∧ (iR (Int.tdiv (x3 - 1) 2)) ∧ (iR x1) ∧ (((Int.tdiv (x3 - 1) 2) ≠ x1 → (KW E mX11_fitsOf (qI f) M 112 [(0, pR 98), (1, pI x1), (2, pI x2), (3, pI x3), (4, pI 1), (5, pI 0)] [])) ∧ ((Int.tdiv (x3 - 1) 2) = x1 → (KW E mX11_fitsOf (qI f) M 80 [(0, pR 98), (1, pI x1), (2, pI x2), (3, pI (x3 + 1))] []))))))))) : KW E mX11_fitsOf (qI f) M 80 [(0, pR 98), (1, pI x1), (2, pI x2), (3, pI x3)] [] := by
  refine w_iload_n dX11_fitsOf_80 rfl ?_
  refine w_iconst dX11_fitsOf_81 ?_
  refine w_aload_n dX11_fitsOf_82 rfl ?_
  refine w_getI (x := (M 98 12)) dX11_fitsOf_83 fX11_240 rfl rfl rfl (fun g1 => ?_)
  have h := h g1
  refine w_imul dX11_fitsOf_86 ?_
  obtain ⟨o2, h⟩ := h
  obtain ⟨o3, h⟩ := h
  refine w_icmp_gt dX11_fitsOf_87 rfl ⟨o2, o3⟩ (fun c => ?_) (fun c => ?_)
  · have h := h.1 c
    refine w_iload_n dX11_fitsOf_234 rfl ?_
    exact k_iret dX11_fitsOf_235 rfl h
  · have h := h.2 c
    refine w_iload_n dX11_fitsOf_90 rfl ?_
    obtain ⟨o4, h⟩ := h
    refine w_if_le dX11_fitsOf_91 rfl o4 (fun c => ?_) (fun c => ?_)
    · have h := h.1 c
      refine w_iconst dX11_fitsOf_106 ?_
      refine w_istore dX11_fitsOf_107 (by decide) ?_
      refine w_iconst dX11_fitsOf_109 ?_
      refine w_istore dX11_fitsOf_110 (by decide) ?_
      exact k_pick [2, 3, 4, 5, 1, 0] rfl h
    · have h := h.2 c
      refine w_iload_n dX11_fitsOf_94 rfl ?_
      refine w_iconst dX11_fitsOf_95 ?_
      refine w_isub dX11_fitsOf_96 ?_
      refine w_iconst dX11_fitsOf_97 ?_
      obtain ⟨o5, h⟩ := h
      refine w_idiv dX11_fitsOf_98 ⟨o5, (by decide), (by decide)⟩ ?_
      refine w_iload_n dX11_fitsOf_99 rfl ?_
      obtain ⟨o6, h⟩ := h
      obtain ⟨o7, h⟩ := h
      refine w_icmp_ne dX11_fitsOf_100 rfl ⟨o6, o7⟩ (fun c => ?_) (fun c => ?_)
      · have h := h.1 c
        refine w_iconst dX11_fitsOf_106 ?_
        refine w_istore dX11_fitsOf_107 (by decide) ?_
        refine w_iconst dX11_fitsOf_109 ?_
        refine w_istore dX11_fitsOf_110 (by decide) ?_
        exact k_pick [2, 3, 4, 5, 1, 0] rfl h
      · have h := h.2 c
        refine w_goto dX11_fitsOf_103 rfl ?_
        refine w_iinc dX11_fitsOf_228 rfl (by decide) ?_
        refine w_goto dX11_fitsOf_231 rfl ?_
        exact k_pick [1, 2, 3, 0] rfl h
theorem vX11_fitsOf_112 {E : Scr} {f : Int → Mem → Prop} {M : Mem} (x1 x2 x3 x4 x5 : Int) (h : (CI E mX11_knownBy [pR 98] M (fun r1 M2 => (iR x5) ∧ (iR r1) ∧ ((x5 ≥ r1 → (iR x4) ∧ ((x4 = 0 → (KW E mX11_fitsOf (qI f) M2 80 [(0, pR 98), (1, pI x1), (2, pI (bOr x2 0)), (3, pI (x3 + 1))] [])) ∧ (x4 ≠ 0 → (KW E mX11_fitsOf (qI f) M2 80 [(0, pR 98), (1, pI x1), (2, pI (bOr x2 (bShl 1 x3))), (3, pI (x3 + 1))] [])))) ∧ (x5 < r1 → (0 ≤ x5 ∧ x5 < 24) ∧ ((zR (M2 141 x5.toNat)) → (((M2 141 x5.toNat) = 0 → (KW E mX11_fitsOf (qI f) M2 112 [(0, pR 98), (1, pI x1), (2, pI x2), (3, pI x3), (4, pI x4), (5, pI (x5 + 1))] [])) ∧ ((M2 141 x5.toNat) ≠ 0 → (0 ≤ (3 * x5) ∧ (3 * x5) < 72) ∧ ((iR (M2 140 ((3 * x5).toNat))) → (((M2 140 ((3 * x5).toNat)) < 0 → (KW E mX11_fitsOf (qI f) M2 112 [(0, pR 98), (1, pI x1), (2, pI x2), (3, pI x3), (4, pI x4), (5, pI (x5 + 1))] [])) ∧ ((M2 140 ((3 * x5).toNat)) ≥ 0 → (0 ≤ ((3 * x5) + 1) ∧ ((3 * x5) + 1) < 72) ∧ ((iR (M2 140 (((3 * x5) + 1).toNat))) → (iR x1) ∧ (((M2 140 (((3 * x5) + 1).toNat)) = x1 → (iR x4) ∧ ((x4 = 0 → (KW E mX11_fitsOf (qI f) M2 112 [(0, pR 98), (1, pI x1), (2, pI x2), (3, pI x3), (4, pI 0), (5, pI (x5 + 1))] [])) ∧ (x4 ≠ 0 → (0 ≤ (3 * x5) ∧ (3 * x5) < 72) ∧ ((iR (M2 140 ((3 * x5).toNat))) → (CI E mX11_isBy [pI x3, pI (M2 140 ((3 * x5).toNat))] M2 (fun r16 M17 => (0 ≤ ((3 * x5) + 2) ∧ ((3 * x5) + 2) < 72) ∧ ((iR (M17 140 (((3 * x5) + 2).toNat))) → (((M17 140 (((3 * x5) + 2).toNat)) ≠ 1 → (iR r16) ∧ ((r16 ≠ 0 → (KW E mX11_fitsOf (qI f) M17 112 [(0, pR 98), (1, pI x1), (2, pI x2), (3, pI x3), (4, pI 0), (5, pI (x5 + 1))] [])) ∧ (r16 = 0 → (KW E mX11_fitsOf (qI f) M17 112 [(0, pR 98), (1, pI x1), (2, pI x2), (3, pI x3), (4, pI 1), (5, pI (x5 + 1))] [])))) ∧ ((M17 140 (((3 * x5) + 2).toNat)) = 1 → (iR r16) ∧ ((r16 ≠ 1 → (KW E mX11_fitsOf (qI f) M17 112 [(0, pR 98), (1, pI x1), (2, pI x2), (3, pI x3), (4, pI 0), (5, pI (x5 + 1))] [])) ∧ (r16 = 1 → (KW E mX11_fitsOf (qI f) M17 112 [(0, pR 98), (1, pI x1), (2, pI x2), (3, pI x3), (4, pI 1), (5, pI (x5 + 1))] [])))))))))))) ∧ ((M2 140 (((3 * x5) + 1).toNat)) ≠ x1 → (KW E mX11_fitsOf (qI f) M2 112 [(0, pR 98), (1, pI x1), (2, pI x2), (3, pI x3), (4, pI x4), (5, pI (x5 + 1))] []))))))))))))))) : KW E mX11_fitsOf (qI f) M 112 [(0, pR 98), (1, pI x1), (2, pI x2), (3, pI x3), (4, pI x4), (5, pI x5)] [] := by
  refine w_iload dX11_fitsOf_112 rfl ?_
  refine w_aload_n dX11_fitsOf_114 rfl ?_
  refine k_vI (as := []) dX11_fitsOf_115 kX11_502 ⟨⟨Nat.le_of_ble_eq_true rfl, rfl, rfl⟩, Nat.le_of_ble_eq_true rfl⟩ rfl (by decide) rfl (Nat.le_of_ble_eq_true rfl) h ?_
  intro r1 M2 h
  obtain ⟨o3, h⟩ := h
  obtain ⟨o4, h⟩ := h
  refine w_icmp_ge dX11_fitsOf_118 rfl ⟨o3, o4⟩ (fun c => ?_) (fun c => ?_)
  · have h := h.1 c
    refine w_iload_n dX11_fitsOf_213 rfl ?_
    refine w_iload dX11_fitsOf_214 rfl ?_
    obtain ⟨o5, h⟩ := h
    refine w_if_eq dX11_fitsOf_216 rfl o5 (fun c => ?_) (fun c => ?_)
    · have h := h.1 c
      refine w_iconst dX11_fitsOf_225 ?_
      refine w_ior dX11_fitsOf_226 ?_
      refine w_istore_n dX11_fitsOf_227 (by decide) ?_
      refine w_iinc dX11_fitsOf_228 rfl (by decide) ?_
      refine w_goto dX11_fitsOf_231 rfl ?_
      exact k_pick [2, 3, 1, 0] rfl h
    · have h := h.2 c
      refine w_iconst dX11_fitsOf_219 ?_
      refine w_iload_n dX11_fitsOf_220 rfl ?_
      refine w_ishl dX11_fitsOf_221 ?_
      refine w_goto dX11_fitsOf_222 rfl ?_
      refine w_ior dX11_fitsOf_226 ?_
      refine w_istore_n dX11_fitsOf_227 (by decide) ?_
      refine w_iinc dX11_fitsOf_228 rfl (by decide) ?_
      refine w_goto dX11_fitsOf_231 rfl ?_
      exact k_pick [2, 3, 1, 0] rfl h
  · have h := h.2 c
    refine w_iconst dX11_fitsOf_121 ?_
    refine w_iload dX11_fitsOf_122 rfl ?_
    refine w_imul dX11_fitsOf_124 ?_
    refine w_istore dX11_fitsOf_125 (by decide) ?_
    refine w_aload_n dX11_fitsOf_127 rfl ?_
    refine w_getR dX11_fitsOf_128 fX11_145 rfl rfl rfl ?_
    refine w_iload dX11_fitsOf_131 rfl ?_
    obtain ⟨o6, h⟩ := h
    refine w_zald (x := (M2 141 x5.toNat)) dX11_fitsOf_133 rfl o6 rfl (fun g7 => ?_)
    have h := h g7
    refine w_if_eq dX11_fitsOf_134 rfl (z2i g7) (fun c => ?_) (fun c => ?_)
    · have h := h.1 c
      refine w_iinc dX11_fitsOf_207 rfl (by decide) ?_
      refine w_goto dX11_fitsOf_210 rfl ?_
      exact k_pick [2, 3, 4, 5, 6, 0] rfl h
    · have h := h.2 c
      refine w_aload_n dX11_fitsOf_137 rfl ?_
      refine w_getR dX11_fitsOf_138 fX11_142 rfl rfl rfl ?_
      refine w_iload dX11_fitsOf_141 rfl ?_
      obtain ⟨o8, h⟩ := h
      refine w_iald (x := (M2 140 ((3 * x5).toNat))) dX11_fitsOf_143 rfl o8 rfl (fun g9 => ?_)
      have h := h g9
      refine w_if_lt dX11_fitsOf_144 rfl g9 (fun c => ?_) (fun c => ?_)
      · have h := h.1 c
        refine w_iinc dX11_fitsOf_207 rfl (by decide) ?_
        refine w_goto dX11_fitsOf_210 rfl ?_
        exact k_pick [2, 3, 4, 5, 6, 0] rfl h
      · have h := h.2 c
        refine w_aload_n dX11_fitsOf_147 rfl ?_
        refine w_getR dX11_fitsOf_148 fX11_142 rfl rfl rfl ?_
        refine w_iload dX11_fitsOf_151 rfl ?_
        refine w_iconst dX11_fitsOf_153 ?_
        refine w_iadd dX11_fitsOf_154 ?_
        obtain ⟨o10, h⟩ := h
        refine w_iald (x := (M2 140 (((3 * x5) + 1).toNat))) dX11_fitsOf_155 rfl o10 rfl (fun g11 => ?_)
        have h := h g11
        refine w_iload_n dX11_fitsOf_156 rfl ?_
        obtain ⟨o12, h⟩ := h
        refine w_icmp_eq dX11_fitsOf_157 rfl ⟨g11, o12⟩ (fun c => ?_) (fun c => ?_)
        · have h := h.1 c
          refine w_iload dX11_fitsOf_163 rfl ?_
          obtain ⟨o13, h⟩ := h
          refine w_if_eq dX11_fitsOf_165 rfl o13 (fun c => ?_) (fun c => ?_)
          · have h := h.1 c
            refine w_iconst dX11_fitsOf_204 ?_
            refine w_istore dX11_fitsOf_205 (by decide) ?_
            refine w_iinc dX11_fitsOf_207 rfl (by decide) ?_
            refine w_goto dX11_fitsOf_210 rfl ?_
            exact k_pick [3, 4, 5, 6, 1, 0] rfl h
          · have h := h.2 c
            refine w_iload_n dX11_fitsOf_168 rfl ?_
            refine w_aload_n dX11_fitsOf_169 rfl ?_
            refine w_getR dX11_fitsOf_170 fX11_142 rfl rfl rfl ?_
            refine w_iload dX11_fitsOf_173 rfl ?_
            obtain ⟨o14, h⟩ := h
            refine w_iald (x := (M2 140 ((3 * x5).toNat))) dX11_fitsOf_175 rfl o14 rfl (fun g15 => ?_)
            have h := h g15
            refine k_sI (as := [pI x3, pI (M2 140 ((3 * x5).toNat))]) dX11_fitsOf_176 kX11_505 ⟨⟨Nat.le_of_ble_eq_true rfl, rfl, rfl⟩, Nat.le_of_ble_eq_true rfl⟩ rfl (Nat.le_of_ble_eq_true rfl) h ?_
            intro r16 M17 h
            refine w_aload_n dX11_fitsOf_179 rfl ?_
            refine w_getR dX11_fitsOf_180 fX11_142 rfl rfl rfl ?_
            refine w_iload dX11_fitsOf_183 rfl ?_
            refine w_iconst dX11_fitsOf_185 ?_
            refine w_iadd dX11_fitsOf_186 ?_
            obtain ⟨o18, h⟩ := h
            refine w_iald (x := (M17 140 (((3 * x5) + 2).toNat))) dX11_fitsOf_187 rfl o18 rfl (fun g19 => ?_)
            have h := h g19
            refine w_iconst dX11_fitsOf_188 ?_
            refine w_icmp_ne dX11_fitsOf_189 rfl ⟨g19, (by decide)⟩ (fun c => ?_) (fun c => ?_)
            · have h := h.1 c
              refine w_iconst dX11_fitsOf_196 ?_
              obtain ⟨o20, h⟩ := h
              refine w_icmp_ne dX11_fitsOf_197 rfl ⟨o20, (by decide)⟩ (fun c => ?_) (fun c => ?_)
              · have h := h.1 c
                refine w_iconst dX11_fitsOf_204 ?_
                refine w_istore dX11_fitsOf_205 (by decide) ?_
                refine w_iinc dX11_fitsOf_207 rfl (by decide) ?_
                refine w_goto dX11_fitsOf_210 rfl ?_
                exact k_pick [3, 4, 5, 6, 1, 0] rfl h
              · have h := h.2 c
                refine w_iconst dX11_fitsOf_200 ?_
                refine w_goto dX11_fitsOf_201 rfl ?_
                refine w_istore dX11_fitsOf_205 (by decide) ?_
                refine w_iinc dX11_fitsOf_207 rfl (by decide) ?_
                refine w_goto dX11_fitsOf_210 rfl ?_
                exact k_pick [3, 4, 5, 6, 1, 0] rfl h
            · have h := h.2 c
              refine w_iconst dX11_fitsOf_192 ?_
              refine w_goto dX11_fitsOf_193 rfl ?_
              obtain ⟨o21, h⟩ := h
              refine w_icmp_ne dX11_fitsOf_197 rfl ⟨o21, (by decide)⟩ (fun c => ?_) (fun c => ?_)
              · have h := h.1 c
                refine w_iconst dX11_fitsOf_204 ?_
                refine w_istore dX11_fitsOf_205 (by decide) ?_
                refine w_iinc dX11_fitsOf_207 rfl (by decide) ?_
                refine w_goto dX11_fitsOf_210 rfl ?_
                exact k_pick [3, 4, 5, 6, 1, 0] rfl h
              · have h := h.2 c
                refine w_iconst dX11_fitsOf_200 ?_
                refine w_goto dX11_fitsOf_201 rfl ?_
                refine w_istore dX11_fitsOf_205 (by decide) ?_
                refine w_iinc dX11_fitsOf_207 rfl (by decide) ?_
                refine w_goto dX11_fitsOf_210 rfl ?_
                exact k_pick [3, 4, 5, 6, 1, 0] rfl h
        · have h := h.2 c
          refine w_goto dX11_fitsOf_160 rfl ?_
          refine w_iinc dX11_fitsOf_207 rfl (by decide) ?_
          refine w_goto dX11_fitsOf_210 rfl ?_
          exact k_pick [2, 3, 4, 5, 6, 0] rfl h
theorem vX11_fits_0 {E : Scr} {f : Int → Mem → Prop} {M : Mem} (x1 : Int) (h : (CI E mX11_isLatch [pR 98, pI x1] (upM M 98 2 0) (fun r1 M2 => (iR r1) ∧ ((r1 = 0 → f (-1) M2) ∧ (r1 ≠ 0 → (CI E mX11_fitsOf [pR 98, pI x1] M2 (fun r4 M5 => f r4 M5))))))) : CI E mX11_fits [pR 98, pI x1] M f := by
  refine (show KW E mX11_fits (qI f) M 0 [(0, pR 98), (1, pI x1)] [] from ?_)
  refine w_aload_n dX11_fits_0 rfl ?_
  refine w_iconst dX11_fits_1 ?_
  refine w_putI dX11_fits_2 (Or.inl ⟨rfl, fX11_160⟩) rfl rfl (by decide) ?_
  refine w_aload_n dX11_fits_5 rfl ?_
  refine w_iload_n dX11_fits_6 rfl ?_
  refine k_vI (as := [pI x1]) dX11_fits_7 kX11_456 ⟨⟨Nat.le_of_ble_eq_true rfl, rfl, rfl⟩, Nat.le_of_ble_eq_true rfl⟩ rfl (by decide) rfl (Nat.le_of_ble_eq_true rfl) h ?_
  intro r1 M2 h
  obtain ⟨o3, h⟩ := h
  refine w_if_eq dX11_fits_10 rfl o3 (fun c => ?_) (fun c => ?_)
  · have h := h.1 c
    refine w_iconst dX11_fits_21 ?_
    exact k_iret dX11_fits_22 rfl h
  · have h := h.2 c
    refine w_aload_n dX11_fits_13 rfl ?_
    refine w_iload_n dX11_fits_14 rfl ?_
    refine k_vI (as := [pI x1]) dX11_fits_15 kX11_508 ⟨⟨Nat.le_of_ble_eq_true rfl, rfl, rfl⟩, Nat.le_of_ble_eq_true rfl⟩ rfl (by decide) rfl (Nat.le_of_ble_eq_true rfl) h ?_
    intro r4 M5 h
    refine w_goto dX11_fits_18 rfl ?_
    exact k_iret dX11_fits_22 rfl h
theorem vX11_ask_0 {E : Scr} {f : Int → Mem → Prop} {M : Mem} (x1 x2 : Int) (h : (CI E mX11_isLatch [pR 98, pI x1] (upM M 98 2 0) (fun r1 M2 => (iR r1) ∧ ((r1 = 0 → f (-1) M2) ∧ (r1 ≠ 0 → (CI E mX11_isIn [pI x2, pI 0, pI 1] M2 (fun r4 M5 => (iR r4) ∧ ((r4 ≠ 0 → (CI E mX11_fitsOf [pR 98, pI x1] M5 (fun r7 M8 => (KW E mX11_ask (qI f) M8 39 [(0, pR 98), (2, pI x2), (3, pI r7), (4, pI 0), (5, pI (-1)), (6, pI 0)] [])))) ∧ (r4 = 0 → f (-1) M5))))))))) : CI E mX11_ask [pR 98, pI x1, pI x2] M f := by
  refine (show KW E mX11_ask (qI f) M 0 [(0, pR 98), (1, pI x1), (2, pI x2)] [] from ?_)
  refine w_aload_n dX11_ask_0 rfl ?_
  refine w_iconst dX11_ask_1 ?_
  refine w_putI dX11_ask_2 (Or.inl ⟨rfl, fX11_160⟩) rfl rfl (by decide) ?_
  refine w_aload_n dX11_ask_5 rfl ?_
  refine w_iload_n dX11_ask_6 rfl ?_
  refine k_vI (as := [pI x1]) dX11_ask_7 kX11_456 ⟨⟨Nat.le_of_ble_eq_true rfl, rfl, rfl⟩, Nat.le_of_ble_eq_true rfl⟩ rfl (by decide) rfl (Nat.le_of_ble_eq_true rfl) h ?_
  intro r1 M2 h
  obtain ⟨o3, h⟩ := h
  refine w_if_eq dX11_ask_10 rfl o3 (fun c => ?_) (fun c => ?_)
  · have h := h.1 c
    refine w_iconst dX11_ask_22 ?_
    exact k_iret dX11_ask_23 rfl h
  · have h := h.2 c
    refine w_iload_n dX11_ask_13 rfl ?_
    refine w_iconst dX11_ask_14 ?_
    refine w_iconst dX11_ask_15 ?_
    refine k_sI (as := [pI x2, pI 0, pI 1]) dX11_ask_16 kX11_205 ⟨⟨Nat.le_of_ble_eq_true rfl, rfl, rfl⟩, Nat.le_of_ble_eq_true rfl⟩ rfl (Nat.le_of_ble_eq_true rfl) h ?_
    intro r4 M5 h
    obtain ⟨o6, h⟩ := h
    refine w_if_ne dX11_ask_19 rfl o6 (fun c => ?_) (fun c => ?_)
    · have h := h.1 c
      refine w_aload_n dX11_ask_24 rfl ?_
      refine w_iload_n dX11_ask_25 rfl ?_
      refine k_vI (as := [pI x1]) dX11_ask_26 kX11_508 ⟨⟨Nat.le_of_ble_eq_true rfl, rfl, rfl⟩, Nat.le_of_ble_eq_true rfl⟩ rfl (by decide) rfl (Nat.le_of_ble_eq_true rfl) h ?_
      intro r7 M8 h
      refine w_istore_n dX11_ask_29 (by decide) ?_
      refine w_iconst dX11_ask_30 ?_
      refine w_istore dX11_ask_31 (by decide) ?_
      refine w_iconst dX11_ask_33 ?_
      refine w_istore dX11_ask_34 (by decide) ?_
      refine w_iconst dX11_ask_36 ?_
      refine w_istore dX11_ask_37 (by decide) ?_
      exact k_pick [4, 6, 3, 2, 1, 0] rfl h
    · have h := h.2 c
      refine w_iconst dX11_ask_22 ?_
      exact k_iret dX11_ask_23 rfl h
theorem vX11_ask_39 {E : Scr} {f : Int → Mem → Prop} {M : Mem} (x2 x3 x4 x5 x6 : Int) (h : ((iR (M 98 12)) → (iR x6) ∧ ((x6 ≥ (bShl 1 (M 98 12)) → (iR x2) ∧ ((x2 ≠ 0 → f x5 M) ∧ (x2 = 0 → f x4 M))) ∧ (x6 < (bShl 1 (M 98 12)) → (KW E mX11_ask (qI f) M 56 [(0, pR 98), (2, pI x2), (3, pI x3), (4, pI x4), (5, pI x5), (6, pI x6), (7, pI 0), (8, pI 0)] []))))) : KW E mX11_ask (qI f) M 39 [(0, pR 98), (2, pI x2), (3, pI x3), (4, pI x4), (5, pI x5), (6, pI x6)] [] := by
  refine w_iload dX11_ask_39 rfl ?_
  refine w_iconst dX11_ask_41 ?_
  refine w_aload_n dX11_ask_42 rfl ?_
  refine w_getI (x := (M 98 12)) dX11_ask_43 fX11_240 rfl rfl rfl (fun g1 => ?_)
  have h := h g1
  refine w_ishl dX11_ask_46 ?_
  obtain ⟨o2, h⟩ := h
  refine w_icmp_ge dX11_ask_47 rfl ⟨o2, (bShl_r _ _)⟩ (fun c => ?_) (fun c => ?_)
  · have h := h.1 c
    refine w_iload_n dX11_ask_152 rfl ?_
    obtain ⟨o3, h⟩ := h
    refine w_if_ne dX11_ask_153 rfl o3 (fun c => ?_) (fun c => ?_)
    · have h := h.1 c
      refine w_iload dX11_ask_161 rfl ?_
      exact k_iret dX11_ask_163 rfl h
    · have h := h.2 c
      refine w_iload dX11_ask_156 rfl ?_
      refine w_goto dX11_ask_158 rfl ?_
      exact k_iret dX11_ask_163 rfl h
  · have h := h.2 c
    refine w_iconst dX11_ask_50 ?_
    refine w_istore dX11_ask_51 (by decide) ?_
    refine w_iconst dX11_ask_53 ?_
    refine w_istore dX11_ask_54 (by decide) ?_
    exact k_pick [2, 3, 4, 5, 6, 7, 1, 0] rfl h
theorem vX11_ask_56 {E : Scr} {f : Int → Mem → Prop} {M : Mem} (x2 x3 x4 x5 x6 x7 x8 : Int) (h : (iR x8) ∧ ((x8 ≥ 17 → (CI E mX11_manyOf [pI x3] M (fun r2 M3 => (iR x7) ∧ (iR (r2 - x7)) ∧ ((x7 ≤ (r2 - x7) → (KW E mX11_ask (qI f) M3 121 [(0, pR 98), (2, pI x2), (3, pI x3), (4, pI x4), (5, pI x5), (6, pI x6)] [pI (r2 - x7)])) ∧ (x7 > (r2 - x7) → (KW E mX11_ask (qI f) M3 121 [(0, pR 98), (2, pI x2), (3, pI x3), (4, pI x4), (5, pI x5), (6, pI x6)] [pI x7])))))) ∧ (x8 < 17 → (CI E mX11_isOf [pI x3, pI x8] M (fun r6 M7 => (iR r6) ∧ ((r6 = 0 → (KW E mX11_ask (qI f) M7 56 [(0, pR 98), (2, pI x2), (3, pI x3), (4, pI x4), (5, pI x5), (6, pI x6), (7, pI (x7 + 0)), (8, pI (x8 + 1))] [])) ∧ (r6 ≠ 0 → (CI E mX11_isBy [pI x8, pI x6] M7 (fun r9 M10 => (iR r9) ∧ ((r9 = 0 → (KW E mX11_ask (qI f) M10 56 [(0, pR 98), (2, pI x2), (3, pI x3), (4, pI x4), (5, pI x5), (6, pI x6), (7, pI (x7 + 0)), (8, pI (x8 + 1))] [])) ∧ (r9 ≠ 0 → (KW E mX11_ask (qI f) M10 56 [(0, pR 98), (2, pI x2), (3, pI x3), (4, pI x4), (5, pI x5), (6, pI x6), (7, pI (x7 + 1)), (8, pI (x8 + 1))] [])))))))))))) : KW E mX11_ask (qI f) M 56 [(0, pR 98), (2, pI x2), (3, pI x3), (4, pI x4), (5, pI x5), (6, pI x6), (7, pI x7), (8, pI x8)] [] := by
  refine w_iload dX11_ask_56 rfl ?_
  refine w_bipush dX11_ask_58 (by decide) ?_
  obtain ⟨o1, h⟩ := h
  refine w_icmp_ge dX11_ask_60 rfl ⟨o1, (by decide)⟩ (fun c => ?_) (fun c => ?_)
  · have h := h.1 c
    refine w_iload_n dX11_ask_98 rfl ?_
    refine k_sI (as := [pI x3]) dX11_ask_99 kX11_381 ⟨⟨Nat.le_of_ble_eq_true rfl, rfl, rfl⟩, Nat.le_of_ble_eq_true rfl⟩ rfl (Nat.le_of_ble_eq_true rfl) h ?_
    intro r2 M3 h
    refine w_iload dX11_ask_102 rfl ?_
    refine w_isub dX11_ask_104 ?_
    refine w_istore dX11_ask_105 (by decide) ?_
    refine w_iload dX11_ask_107 rfl ?_
    refine w_iload dX11_ask_109 rfl ?_
    obtain ⟨o4, h⟩ := h
    obtain ⟨o5, h⟩ := h
    refine w_icmp_le dX11_ask_111 rfl ⟨o4, o5⟩ (fun c => ?_) (fun c => ?_)
    · have h := h.1 c
      refine w_iload dX11_ask_119 rfl ?_
      exact k_pick [1, 2, 3, 4, 5, 6] rfl h
    · have h := h.2 c
      refine w_iload dX11_ask_114 rfl ?_
      refine w_goto dX11_ask_116 rfl ?_
      exact k_pick [1, 2, 3, 4, 5, 6] rfl h
  · have h := h.2 c
    refine w_iload dX11_ask_63 rfl ?_
    refine w_iload_n dX11_ask_65 rfl ?_
    refine w_iload dX11_ask_66 rfl ?_
    refine k_sI (as := [pI x3, pI x8]) dX11_ask_68 kX11_372 ⟨⟨Nat.le_of_ble_eq_true rfl, rfl, rfl⟩, Nat.le_of_ble_eq_true rfl⟩ rfl (Nat.le_of_ble_eq_true rfl) h ?_
    intro r6 M7 h
    obtain ⟨o8, h⟩ := h
    refine w_if_eq dX11_ask_71 rfl o8 (fun c => ?_) (fun c => ?_)
    · have h := h.1 c
      refine w_iconst dX11_ask_88 ?_
      refine w_iadd dX11_ask_89 ?_
      refine w_istore dX11_ask_90 (by decide) ?_
      refine w_iinc dX11_ask_92 rfl (by decide) ?_
      refine w_goto dX11_ask_95 rfl ?_
      exact k_pick [2, 3, 4, 5, 6, 7, 1, 0] rfl h
    · have h := h.2 c
      refine w_iload dX11_ask_74 rfl ?_
      refine w_iload dX11_ask_76 rfl ?_
      refine k_sI (as := [pI x8, pI x6]) dX11_ask_78 kX11_505 ⟨⟨Nat.le_of_ble_eq_true rfl, rfl, rfl⟩, Nat.le_of_ble_eq_true rfl⟩ rfl (Nat.le_of_ble_eq_true rfl) h ?_
      intro r9 M10 h
      obtain ⟨o11, h⟩ := h
      refine w_if_eq dX11_ask_81 rfl o11 (fun c => ?_) (fun c => ?_)
      · have h := h.1 c
        refine w_iconst dX11_ask_88 ?_
        refine w_iadd dX11_ask_89 ?_
        refine w_istore dX11_ask_90 (by decide) ?_
        refine w_iinc dX11_ask_92 rfl (by decide) ?_
        refine w_goto dX11_ask_95 rfl ?_
        exact k_pick [2, 3, 4, 5, 6, 7, 1, 0] rfl h
      · have h := h.2 c
        refine w_iconst dX11_ask_84 ?_
        refine w_goto dX11_ask_85 rfl ?_
        refine w_iadd dX11_ask_89 ?_
        refine w_istore dX11_ask_90 (by decide) ?_
        refine w_iinc dX11_ask_92 rfl (by decide) ?_
        refine w_goto dX11_ask_95 rfl ?_
        exact k_pick [2, 3, 4, 5, 6, 7, 1, 0] rfl h
theorem vX11_ask_121 {E : Scr} {f : Int → Mem → Prop} {M : Mem} (x2 x3 x4 x5 x6 s0 : Int) (h : (iR x5) ∧ ((x5 < 0 → (KW E mX11_ask (qI f) M 39 [(0, pR 98), (2, pI x2), (3, pI x3), (4, pI x6), (5, pI s0), (6, pI (x6 + 1))] [])) ∧ (x5 ≥ 0 → (iR s0) ∧ (iR x5) ∧ ((s0 < x5 → (KW E mX11_ask (qI f) M 39 [(0, pR 98), (2, pI x2), (3, pI x3), (4, pI x6), (5, pI s0), (6, pI (x6 + 1))] [])) ∧ (s0 ≥ x5 → (KW E mX11_ask (qI f) M 39 [(0, pR 98), (2, pI x2), (3, pI x3), (4, pI x4), (5, pI x5), (6, pI (x6 + 1))] [])))))) : KW E mX11_ask (qI f) M 121 [(0, pR 98), (2, pI x2), (3, pI x3), (4, pI x4), (5, pI x5), (6, pI x6)] [pI s0] := by
  refine w_istore dX11_ask_121 (by decide) ?_
  refine w_iload dX11_ask_123 rfl ?_
  obtain ⟨o1, h⟩ := h
  refine w_if_lt dX11_ask_125 rfl o1 (fun c => ?_) (fun c => ?_)
  · have h := h.1 c
    refine w_iload dX11_ask_138 rfl ?_
    refine w_istore dX11_ask_140 (by decide) ?_
    refine w_iload dX11_ask_142 rfl ?_
    refine w_istore dX11_ask_144 (by decide) ?_
    refine w_iinc dX11_ask_146 rfl (by decide) ?_
    refine w_goto dX11_ask_149 rfl ?_
    exact k_pick [4, 5, 6, 2, 1, 0] rfl h
  · have h := h.2 c
    refine w_iload dX11_ask_128 rfl ?_
    refine w_iload dX11_ask_130 rfl ?_
    obtain ⟨o2, h⟩ := h
    obtain ⟨o3, h⟩ := h
    refine w_icmp_lt dX11_ask_132 rfl ⟨o2, o3⟩ (fun c => ?_) (fun c => ?_)
    · have h := h.1 c
      refine w_iload dX11_ask_138 rfl ?_
      refine w_istore dX11_ask_140 (by decide) ?_
      refine w_iload dX11_ask_142 rfl ?_
      refine w_istore dX11_ask_144 (by decide) ?_
      refine w_iinc dX11_ask_146 rfl (by decide) ?_
      refine w_goto dX11_ask_149 rfl ?_
      exact k_pick [4, 5, 6, 2, 1, 0] rfl h
    · have h := h.2 c
      refine w_goto dX11_ask_135 rfl ?_
      refine w_iinc dX11_ask_146 rfl (by decide) ?_
      refine w_goto dX11_ask_149 rfl ?_
      exact k_pick [2, 3, 4, 5, 6, 0] rfl h
theorem vX11_chance_0 {E : Scr} {f : Int → Mem → Prop} {M : Mem} (x1 x2 x3 : Int) (h : (iR x1) ∧ ((x1 < 0 → f (-1) (upM M 98 2 0)) ∧ (x1 ≥ 0 → (CI E mX11_isIn [pI x2, pI 1, pI 99] (upM M 98 2 0) (fun r2 M3 => (iR r2) ∧ ((r2 = 0 → f (-1) M3) ∧ (r2 ≠ 0 → (CI E mX11_isLatch [pR 98, pI x3] M3 (fun r5 M6 => (iR r5) ∧ ((r5 ≠ 0 → ((lR (M6 98 59)) → (iR x1) ∧ (KW E mX11_chance (qI f) (upM M6 98 59 x1) 47 [(0, pR 98), (2, pI x2), (3, pI x3), (4, pL (M6 98 59)), (6, pI 0), (7, pI 0)] []))) ∧ (r5 = 0 → f (-1) M6))))))))))) : CI E mX11_chance [pR 98, pI x1, pI x2, pI x3] M f := by
  refine (show KW E mX11_chance (qI f) M 0 [(0, pR 98), (1, pI x1), (2, pI x2), (3, pI x3)] [] from ?_)
  refine w_aload_n dX11_chance_0 rfl ?_
  refine w_iconst dX11_chance_1 ?_
  refine w_putI dX11_chance_2 (Or.inl ⟨rfl, fX11_160⟩) rfl rfl (by decide) ?_
  refine w_iload_n dX11_chance_5 rfl ?_
  obtain ⟨o1, h⟩ := h
  refine w_if_lt dX11_chance_6 rfl o1 (fun c => ?_) (fun c => ?_)
  · have h := h.1 c
    refine w_iconst dX11_chance_27 ?_
    exact k_iret dX11_chance_28 rfl h
  · have h := h.2 c
    refine w_iload_n dX11_chance_9 rfl ?_
    refine w_iconst dX11_chance_10 ?_
    refine w_bipush dX11_chance_11 (by decide) ?_
    refine k_sI (as := [pI x2, pI 1, pI 99]) dX11_chance_13 kX11_205 ⟨⟨Nat.le_of_ble_eq_true rfl, rfl, rfl⟩, Nat.le_of_ble_eq_true rfl⟩ rfl (Nat.le_of_ble_eq_true rfl) h ?_
    intro r2 M3 h
    obtain ⟨o4, h⟩ := h
    refine w_if_eq dX11_chance_16 rfl o4 (fun c => ?_) (fun c => ?_)
    · have h := h.1 c
      refine w_iconst dX11_chance_27 ?_
      exact k_iret dX11_chance_28 rfl h
    · have h := h.2 c
      refine w_aload_n dX11_chance_19 rfl ?_
      refine w_iload_n dX11_chance_20 rfl ?_
      refine k_vI (as := [pI x3]) dX11_chance_21 kX11_456 ⟨⟨Nat.le_of_ble_eq_true rfl, rfl, rfl⟩, Nat.le_of_ble_eq_true rfl⟩ rfl (by decide) rfl (Nat.le_of_ble_eq_true rfl) h ?_
      intro r5 M6 h
      obtain ⟨o7, h⟩ := h
      refine w_if_ne dX11_chance_24 rfl o7 (fun c => ?_) (fun c => ?_)
      · have h := h.1 c
        refine w_aload_n dX11_chance_29 rfl ?_
        refine w_getL (x := (M6 98 59)) dX11_chance_30 fX11_387 rfl rfl rfl (fun g8 => ?_)
        have h := h g8
        refine w_lstore dX11_chance_33 (by decide) ?_
        refine w_aload_n dX11_chance_35 rfl ?_
        refine w_iload_n dX11_chance_36 rfl ?_
        obtain ⟨o9, h⟩ := h
        refine w_i2l dX11_chance_37 o9 ?_
        refine w_putL dX11_chance_38 (Or.inl ⟨rfl, fX11_387⟩) rfl rfl (i2l_r o9) ?_
        refine w_iconst dX11_chance_41 ?_
        refine w_istore dX11_chance_42 (by decide) ?_
        refine w_iconst dX11_chance_44 ?_
        refine w_istore dX11_chance_45 (by decide) ?_
        exact k_pick [3, 5, 6, 2, 1, 0] rfl h
      · have h := h.2 c
        refine w_iconst dX11_chance_27 ?_
        exact k_iret dX11_chance_28 rfl h
theorem vX11_chance_47 {E : Scr} {f : Int → Mem → Prop} {M : Mem} (x2 x3 x4 x6 x7 : Int) (h : (iR x7) ∧ ((x7 ≥ 10 → (lR x4) ∧ f x6 (upM (upM M 98 60 0) 98 59 x4)) ∧ (x7 < 10 → (CV E mX11_layTried [pR 98] M (fun M4 => (CV E mX11_goMany [pR 98, pI x2] (upM M4 98 60 1) (fun M6 => ((iR (M6 126 1)) → (KW E mX11_chance (qI f) M6 47 [(0, pR 98), (2, pI x2), (3, pI x3), (4, pL x4), (6, pI (x6 + (bAnd (bShr (M6 126 1) x3) 1))), (7, pI (x7 + 1))] []))))))))) : KW E mX11_chance (qI f) M 47 [(0, pR 98), (2, pI x2), (3, pI x3), (4, pL x4), (6, pI x6), (7, pI x7)] [] := by
  refine w_iload dX11_chance_47 rfl ?_
  refine w_bipush dX11_chance_49 (by decide) ?_
  obtain ⟨o1, h⟩ := h
  refine w_icmp_ge dX11_chance_51 rfl ⟨o1, (by decide)⟩ (fun c => ?_) (fun c => ?_)
  · have h := h.1 c
    refine w_aload_n dX11_chance_89 rfl ?_
    refine w_iconst dX11_chance_90 ?_
    refine w_putZ dX11_chance_91 (Or.inl ⟨rfl, fX11_403⟩) rfl rfl (by decide) ?_
    refine w_aload_n dX11_chance_94 rfl ?_
    refine w_lload dX11_chance_95 rfl ?_
    obtain ⟨o2, h⟩ := h
    refine w_putL dX11_chance_97 (Or.inl ⟨rfl, fX11_387⟩) rfl rfl o2 ?_
    refine w_iload dX11_chance_100 rfl ?_
    exact k_iret dX11_chance_102 rfl h
  · have h := h.2 c
    refine w_aload_n dX11_chance_54 rfl ?_
    refine k_vV (as := []) dX11_chance_55 kX11_470 ⟨⟨Nat.le_of_ble_eq_true rfl, rfl, rfl⟩, Nat.le_of_ble_eq_true rfl⟩ rfl (by decide) rfl (Nat.le_of_ble_eq_true rfl) h ?_
    intro M4 h
    refine w_aload_n dX11_chance_58 rfl ?_
    refine w_iconst dX11_chance_59 ?_
    refine w_putZ dX11_chance_60 (Or.inl ⟨rfl, fX11_403⟩) rfl rfl (by decide) ?_
    refine w_aload_n dX11_chance_63 rfl ?_
    refine w_iload_n dX11_chance_64 rfl ?_
    refine k_vV (as := [pI x2]) dX11_chance_65 kX11_473 ⟨⟨Nat.le_of_ble_eq_true rfl, rfl, rfl⟩, Nat.le_of_ble_eq_true rfl⟩ rfl (by decide) rfl (Nat.le_of_ble_eq_true rfl) h ?_
    intro M6 h
    refine w_iload dX11_chance_68 rfl ?_
    refine w_aload_n dX11_chance_70 rfl ?_
    refine w_getR dX11_chance_71 fX11_97 rfl rfl rfl ?_
    refine w_iconst dX11_chance_74 ?_
    refine w_iald (x := (M6 126 1)) dX11_chance_75 rfl (by decide) rfl (fun g7 => ?_)
    have h := h g7
    refine w_iload_n dX11_chance_76 rfl ?_
    refine w_ishr dX11_chance_77 ?_
    refine w_iconst dX11_chance_78 ?_
    refine w_iand dX11_chance_79 ?_
    refine w_iadd dX11_chance_80 ?_
    refine w_istore dX11_chance_81 (by decide) ?_
    refine w_iinc dX11_chance_83 rfl (by decide) ?_
    refine w_goto dX11_chance_86 rfl ?_
    exact k_pick [2, 3, 4, 5, 1, 0] rfl h
theorem vX11_tried_0 {E : Scr} {f : Int → Mem → Prop} {M : Mem} (x1 x2 x3 : Int) (h : (CI E mX11_isIn [pI x1, pI 0, pI 4] (upM M 98 2 0) (fun r1 M2 => (iR r1) ∧ ((r1 = 0 → f (-1) M2) ∧ (r1 ≠ 0 → (CI E mX11_isIn [pI x3, pI 0, pI 200] M2 (fun r4 M5 => (iR r4) ∧ ((r4 = 0 → f (-1) M5) ∧ (r4 ≠ 0 → (iR x1) ∧ ((x1 ≠ 2 → (iR x2) ∧ ((x2 = 0 → (KW E mX11_tried (qI f) M5 47 [(0, pR 98), (1, pI x1), (2, pI x2), (3, pI x3)] [])) ∧ (x2 ≠ 0 → f (-1) M5))) ∧ (x1 = 2 → (CI E mX11_isLatch [pR 98, pI x2] M5 (fun r9 M10 => (iR r9) ∧ ((r9 ≠ 0 → (KW E mX11_tried (qI f) M10 47 [(0, pR 98), (1, pI x1), (2, pI x2), (3, pI x3)] [])) ∧ (r9 = 0 → f (-1) M10))))))))))))))) : CI E mX11_tried [pR 98, pI x1, pI x2, pI x3] M f := by
  refine (show KW E mX11_tried (qI f) M 0 [(0, pR 98), (1, pI x1), (2, pI x2), (3, pI x3)] [] from ?_)
  refine w_aload_n dX11_tried_0 rfl ?_
  refine w_iconst dX11_tried_1 ?_
  refine w_putI dX11_tried_2 (Or.inl ⟨rfl, fX11_160⟩) rfl rfl (by decide) ?_
  refine w_iload_n dX11_tried_5 rfl ?_
  refine w_iconst dX11_tried_6 ?_
  refine w_iconst dX11_tried_7 ?_
  refine k_sI (as := [pI x1, pI 0, pI 4]) dX11_tried_8 kX11_205 ⟨⟨Nat.le_of_ble_eq_true rfl, rfl, rfl⟩, Nat.le_of_ble_eq_true rfl⟩ rfl (Nat.le_of_ble_eq_true rfl) h ?_
  intro r1 M2 h
  obtain ⟨o3, h⟩ := h
  refine w_if_eq dX11_tried_11 rfl o3 (fun c => ?_) (fun c => ?_)
  · have h := h.1 c
    refine w_iconst dX11_tried_45 ?_
    exact k_iret dX11_tried_46 rfl h
  · have h := h.2 c
    refine w_iload_n dX11_tried_14 rfl ?_
    refine w_iconst dX11_tried_15 ?_
    refine w_sipush dX11_tried_16 (by decide) ?_
    refine k_sI (as := [pI x3, pI 0, pI 200]) dX11_tried_19 kX11_205 ⟨⟨Nat.le_of_ble_eq_true rfl, rfl, rfl⟩, Nat.le_of_ble_eq_true rfl⟩ rfl (Nat.le_of_ble_eq_true rfl) h ?_
    intro r4 M5 h
    obtain ⟨o6, h⟩ := h
    refine w_if_eq dX11_tried_22 rfl o6 (fun c => ?_) (fun c => ?_)
    · have h := h.1 c
      refine w_iconst dX11_tried_45 ?_
      exact k_iret dX11_tried_46 rfl h
    · have h := h.2 c
      refine w_iload_n dX11_tried_25 rfl ?_
      refine w_iconst dX11_tried_26 ?_
      obtain ⟨o7, h⟩ := h
      refine w_icmp_ne dX11_tried_27 rfl ⟨o7, (by decide)⟩ (fun c => ?_) (fun c => ?_)
      · have h := h.1 c
        refine w_iload_n dX11_tried_41 rfl ?_
        obtain ⟨o8, h⟩ := h
        refine w_if_eq dX11_tried_42 rfl o8 (fun c => ?_) (fun c => ?_)
        · have h := h.1 c
          exact k_pick [0, 1, 2, 3] rfl h
        · have h := h.2 c
          refine w_iconst dX11_tried_45 ?_
          exact k_iret dX11_tried_46 rfl h
      · have h := h.2 c
        refine w_aload_n dX11_tried_30 rfl ?_
        refine w_iload_n dX11_tried_31 rfl ?_
        refine k_vI (as := [pI x2]) dX11_tried_32 kX11_456 ⟨⟨Nat.le_of_ble_eq_true rfl, rfl, rfl⟩, Nat.le_of_ble_eq_true rfl⟩ rfl (by decide) rfl (Nat.le_of_ble_eq_true rfl) h ?_
        intro r9 M10 h
        obtain ⟨o11, h⟩ := h
        refine w_if_ne dX11_tried_35 rfl o11 (fun c => ?_) (fun c => ?_)
        · have h := h.1 c
          exact k_pick [0, 1, 2, 3] rfl h
        · have h := h.2 c
          refine w_goto dX11_tried_38 rfl ?_
          refine w_iconst dX11_tried_45 ?_
          exact k_iret dX11_tried_46 rfl h
theorem vX11_tried_47 {E : Scr} {f : Int → Mem → Prop} {M : Mem} (x1 x2 x3 : Int) (h : (CV E mX11_layTried [pR 98] M (fun M2 => (iR x1) ∧ ((x1 ≠ 0 → (iR x1) ∧ ((x1 ≠ 1 → (KW E mX11_tried (qI f) (upM M2 98 61 0) 75 [(0, pR 98), (1, pI x1), (2, pI x2), (3, pI x3)] [pI 0, pR 98])) ∧ (x1 = 1 → (KW E mX11_tried (qI f) (upM M2 98 61 0) 75 [(0, pR 98), (1, pI x1), (2, pI x2), (3, pI x3)] [pI 1, pR 98])))) ∧ (x1 = 0 → (iR x1) ∧ ((x1 ≠ 1 → (KW E mX11_tried (qI f) (upM M2 98 61 1) 75 [(0, pR 98), (1, pI x1), (2, pI x2), (3, pI x3)] [pI 0, pR 98])) ∧ (x1 = 1 → (KW E mX11_tried (qI f) (upM M2 98 61 1) 75 [(0, pR 98), (1, pI x1), (2, pI x2), (3, pI x3)] [pI 1, pR 98])))))))) : KW E mX11_tried (qI f) M 47 [(0, pR 98), (1, pI x1), (2, pI x2), (3, pI x3)] [] := by
  refine w_aload_n dX11_tried_47 rfl ?_
  refine k_vV (as := []) dX11_tried_48 kX11_470 ⟨⟨Nat.le_of_ble_eq_true rfl, rfl, rfl⟩, Nat.le_of_ble_eq_true rfl⟩ rfl (by decide) rfl (Nat.le_of_ble_eq_true rfl) h ?_
  intro M2 h
  refine w_aload_n dX11_tried_51 rfl ?_
  refine w_iload_n dX11_tried_52 rfl ?_
  obtain ⟨o3, h⟩ := h
  refine w_if_ne dX11_tried_53 rfl o3 (fun c => ?_) (fun c => ?_)
  · have h := h.1 c
    refine w_iconst dX11_tried_60 ?_
    refine w_putZ dX11_tried_61 (Or.inl ⟨rfl, fX11_406⟩) rfl rfl (by decide) ?_
    refine w_aload_n dX11_tried_64 rfl ?_
    refine w_iload_n dX11_tried_65 rfl ?_
    refine w_iconst dX11_tried_66 ?_
    obtain ⟨o4, h⟩ := h
    refine w_icmp_ne dX11_tried_67 rfl ⟨o4, (by decide)⟩ (fun c => ?_) (fun c => ?_)
    · have h := h.1 c
      refine w_iconst dX11_tried_74 ?_
      exact k_pick [0, 1, 2, 3] rfl h
    · have h := h.2 c
      refine w_iconst dX11_tried_70 ?_
      refine w_goto dX11_tried_71 rfl ?_
      exact k_pick [0, 1, 2, 3] rfl h
  · have h := h.2 c
    refine w_iconst dX11_tried_56 ?_
    refine w_goto dX11_tried_57 rfl ?_
    refine w_putZ dX11_tried_61 (Or.inl ⟨rfl, fX11_406⟩) rfl rfl (by decide) ?_
    refine w_aload_n dX11_tried_64 rfl ?_
    refine w_iload_n dX11_tried_65 rfl ?_
    refine w_iconst dX11_tried_66 ?_
    obtain ⟨o5, h⟩ := h
    refine w_icmp_ne dX11_tried_67 rfl ⟨o5, (by decide)⟩ (fun c => ?_) (fun c => ?_)
    · have h := h.1 c
      refine w_iconst dX11_tried_74 ?_
      exact k_pick [0, 1, 2, 3] rfl h
    · have h := h.2 c
      refine w_iconst dX11_tried_70 ?_
      refine w_goto dX11_tried_71 rfl ?_
      exact k_pick [0, 1, 2, 3] rfl h
theorem vX11_tried_75 {E : Scr} {f : Int → Mem → Prop} {M : Mem} (x1 x2 x3 s0 : Int) (h : (zR s0) ∧ (iR x1) ∧ ((x1 ≠ 2 → (iR x1) ∧ ((x1 ≠ 3 → (KW E mX11_tried (qI f) (upM (upM M 98 62 s0) 98 65 (-1)) 103 [(0, pR 98), (1, pI x1), (3, pI x3)] [pI 0, pR 98])) ∧ (x1 = 3 → (KW E mX11_tried (qI f) (upM (upM M 98 62 s0) 98 65 (-1)) 103 [(0, pR 98), (1, pI x1), (3, pI x3)] [pI 1, pR 98])))) ∧ (x1 = 2 → (iR x2) ∧ (iR x1) ∧ ((x1 ≠ 3 → (KW E mX11_tried (qI f) (upM (upM M 98 62 s0) 98 65 x2) 103 [(0, pR 98), (1, pI x1), (3, pI x3)] [pI 0, pR 98])) ∧ (x1 = 3 → (KW E mX11_tried (qI f) (upM (upM M 98 62 s0) 98 65 x2) 103 [(0, pR 98), (1, pI x1), (3, pI x3)] [pI 1, pR 98])))))) : KW E mX11_tried (qI f) M 75 [(0, pR 98), (1, pI x1), (2, pI x2), (3, pI x3)] [pI s0, pR 98] := by
  obtain ⟨o1, h⟩ := h
  refine w_putZ dX11_tried_75 (Or.inl ⟨rfl, fX11_409⟩) rfl rfl o1 ?_
  refine w_aload_n dX11_tried_78 rfl ?_
  refine w_iload_n dX11_tried_79 rfl ?_
  refine w_iconst dX11_tried_80 ?_
  obtain ⟨o2, h⟩ := h
  refine w_icmp_ne dX11_tried_81 rfl ⟨o2, (by decide)⟩ (fun c => ?_) (fun c => ?_)
  · have h := h.1 c
    refine w_iconst dX11_tried_88 ?_
    refine w_putI dX11_tried_89 (Or.inl ⟨rfl, fX11_418⟩) rfl rfl (by decide) ?_
    refine w_aload_n dX11_tried_92 rfl ?_
    refine w_iload_n dX11_tried_93 rfl ?_
    refine w_iconst dX11_tried_94 ?_
    obtain ⟨o3, h⟩ := h
    refine w_icmp_ne dX11_tried_95 rfl ⟨o3, (by decide)⟩ (fun c => ?_) (fun c => ?_)
    · have h := h.1 c
      refine w_iconst dX11_tried_102 ?_
      exact k_pick [0, 1, 3] rfl h
    · have h := h.2 c
      refine w_iconst dX11_tried_98 ?_
      refine w_goto dX11_tried_99 rfl ?_
      exact k_pick [0, 1, 3] rfl h
  · have h := h.2 c
    refine w_iload_n dX11_tried_84 rfl ?_
    refine w_goto dX11_tried_85 rfl ?_
    obtain ⟨o4, h⟩ := h
    refine w_putI dX11_tried_89 (Or.inl ⟨rfl, fX11_418⟩) rfl rfl o4 ?_
    refine w_aload_n dX11_tried_92 rfl ?_
    refine w_iload_n dX11_tried_93 rfl ?_
    refine w_iconst dX11_tried_94 ?_
    obtain ⟨o5, h⟩ := h
    refine w_icmp_ne dX11_tried_95 rfl ⟨o5, (by decide)⟩ (fun c => ?_) (fun c => ?_)
    · have h := h.1 c
      refine w_iconst dX11_tried_102 ?_
      exact k_pick [0, 1, 3] rfl h
    · have h := h.2 c
      refine w_iconst dX11_tried_98 ?_
      refine w_goto dX11_tried_99 rfl ?_
      exact k_pick [0, 1, 3] rfl h
theorem vX11_tried_103 {E : Scr} {f : Int → Mem → Prop} {M : Mem} (x1 x3 s0 : Int) (h : (zR s0) ∧ (iR x1) ∧ ((x1 ≠ 4 → (CV E mX11_goMany [pR 98, pI x3] (upM (upM M 98 63 s0) 98 64 0) (fun M4 => (CV E mX11_plainTried [pR 98] M4 (fun M6 => ((iR (M6 127 1)) → ((iR (M6 127 0)) → f ((M6 127 1) - (M6 127 0)) M6))))))) ∧ (x1 = 4 → (CV E mX11_goMany [pR 98, pI x3] (upM (upM M 98 63 s0) 98 64 1) (fun M10 => (CV E mX11_plainTried [pR 98] M10 (fun M12 => ((iR (M12 127 1)) → ((iR (M12 127 0)) → f ((M12 127 1) - (M12 127 0)) M12))))))))) : KW E mX11_tried (qI f) M 103 [(0, pR 98), (1, pI x1), (3, pI x3)] [pI s0, pR 98] := by
  obtain ⟨o1, h⟩ := h
  refine w_putZ dX11_tried_103 (Or.inl ⟨rfl, fX11_412⟩) rfl rfl o1 ?_
  refine w_aload_n dX11_tried_106 rfl ?_
  refine w_iload_n dX11_tried_107 rfl ?_
  refine w_iconst dX11_tried_108 ?_
  obtain ⟨o2, h⟩ := h
  refine w_icmp_ne dX11_tried_109 rfl ⟨o2, (by decide)⟩ (fun c => ?_) (fun c => ?_)
  · have h := h.1 c
    refine w_iconst dX11_tried_116 ?_
    refine w_putZ dX11_tried_117 (Or.inl ⟨rfl, fX11_415⟩) rfl rfl (by decide) ?_
    refine w_aload_n dX11_tried_120 rfl ?_
    refine w_iload_n dX11_tried_121 rfl ?_
    refine k_vV (as := [pI x3]) dX11_tried_122 kX11_473 ⟨⟨Nat.le_of_ble_eq_true rfl, rfl, rfl⟩, Nat.le_of_ble_eq_true rfl⟩ rfl (by decide) rfl (Nat.le_of_ble_eq_true rfl) h ?_
    intro M4 h
    refine w_aload_n dX11_tried_125 rfl ?_
    refine k_vV (as := []) dX11_tried_126 kX11_391 ⟨⟨Nat.le_of_ble_eq_true rfl, rfl, rfl⟩, Nat.le_of_ble_eq_true rfl⟩ rfl (by decide) rfl (Nat.le_of_ble_eq_true rfl) h ?_
    intro M6 h
    refine w_aload_n dX11_tried_129 rfl ?_
    refine w_getR dX11_tried_130 fX11_100 rfl rfl rfl ?_
    refine w_iconst dX11_tried_133 ?_
    refine w_iald (x := (M6 127 1)) dX11_tried_134 rfl (by decide) rfl (fun g7 => ?_)
    have h := h g7
    refine w_aload_n dX11_tried_135 rfl ?_
    refine w_getR dX11_tried_136 fX11_100 rfl rfl rfl ?_
    refine w_iconst dX11_tried_139 ?_
    refine w_iald (x := (M6 127 0)) dX11_tried_140 rfl (by decide) rfl (fun g8 => ?_)
    have h := h g8
    refine w_isub dX11_tried_141 ?_
    exact k_iret dX11_tried_142 rfl h
  · have h := h.2 c
    refine w_iconst dX11_tried_112 ?_
    refine w_goto dX11_tried_113 rfl ?_
    refine w_putZ dX11_tried_117 (Or.inl ⟨rfl, fX11_415⟩) rfl rfl (by decide) ?_
    refine w_aload_n dX11_tried_120 rfl ?_
    refine w_iload_n dX11_tried_121 rfl ?_
    refine k_vV (as := [pI x3]) dX11_tried_122 kX11_473 ⟨⟨Nat.le_of_ble_eq_true rfl, rfl, rfl⟩, Nat.le_of_ble_eq_true rfl⟩ rfl (by decide) rfl (Nat.le_of_ble_eq_true rfl) h ?_
    intro M10 h
    refine w_aload_n dX11_tried_125 rfl ?_
    refine k_vV (as := []) dX11_tried_126 kX11_391 ⟨⟨Nat.le_of_ble_eq_true rfl, rfl, rfl⟩, Nat.le_of_ble_eq_true rfl⟩ rfl (by decide) rfl (Nat.le_of_ble_eq_true rfl) h ?_
    intro M12 h
    refine w_aload_n dX11_tried_129 rfl ?_
    refine w_getR dX11_tried_130 fX11_100 rfl rfl rfl ?_
    refine w_iconst dX11_tried_133 ?_
    refine w_iald (x := (M12 127 1)) dX11_tried_134 rfl (by decide) rfl (fun g13 => ?_)
    have h := h g13
    refine w_aload_n dX11_tried_135 rfl ?_
    refine w_getR dX11_tried_136 fX11_100 rfl rfl rfl ?_
    refine w_iconst dX11_tried_139 ?_
    refine w_iald (x := (M12 127 0)) dX11_tried_140 rfl (by decide) rfl (fun g14 => ?_)
    have h := h g14
    refine w_isub dX11_tried_141 ?_
    exact k_iret dX11_tried_142 rfl h
theorem vX11_put_0 {E : Scr} {f : Mem → Prop} {M : Mem} (x2 : Int) {aa nn : Nat} (hT : T0[aa]? = some (20, nn)) (h : ((iR (M 125 0)) → (0 ≤ x2 ∧ x2 < nn) ∧ ((iR ((upM M aa x2.toNat (M 125 0)) 126 0)) → (0 ≤ (x2 + 1) ∧ (x2 + 1) < nn) ∧ ((iR ((upM (upM M aa x2.toNat (M 125 0)) aa ((x2 + 1).toNat) ((upM M aa x2.toNat (M 125 0)) 126 0)) 127 0)) → (0 ≤ (x2 + 2) ∧ (x2 + 2) < nn) ∧ (KW E mX11_put (qV f) (upM (upM (upM M aa x2.toNat (M 125 0)) aa ((x2 + 1).toNat) ((upM M aa x2.toNat (M 125 0)) 126 0)) aa ((x2 + 2).toNat) ((upM (upM M aa x2.toNat (M 125 0)) aa ((x2 + 1).toNat) ((upM M aa x2.toNat (M 125 0)) 126 0)) 127 0)) 33 [(0, pR 98), (1, pR aa), (2, pI x2), (3, pI 0)] []))))) : CV E mX11_put [pR 98, pR aa, pI x2] M f := by
  refine (show KW E mX11_put (qV f) M 0 [(0, pR 98), (1, pR aa), (2, pI x2)] [] from ?_)
  refine w_aload_n dX11_put_0 rfl ?_
  refine w_iload_n dX11_put_1 rfl ?_
  refine w_aload_n dX11_put_2 rfl ?_
  refine w_getR dX11_put_3 fX11_94 rfl rfl rfl ?_
  refine w_iconst dX11_put_6 ?_
  refine w_iald (x := (M 125 0)) dX11_put_7 rfl (by decide) rfl (fun g1 => ?_)
  have h := h g1
  obtain ⟨o2, h⟩ := h
  refine w_iast dX11_put_8 hT o2 g1 ?_
  refine w_aload_n dX11_put_9 rfl ?_
  refine w_iload_n dX11_put_10 rfl ?_
  refine w_iconst dX11_put_11 ?_
  refine w_iadd dX11_put_12 ?_
  refine w_aload_n dX11_put_13 rfl ?_
  refine w_getR dX11_put_14 fX11_97 rfl rfl rfl ?_
  refine w_iconst dX11_put_17 ?_
  refine w_iald (x := ((upM M aa x2.toNat (M 125 0)) 126 0)) dX11_put_18 rfl (by decide) rfl (fun g3 => ?_)
  have h := h g3
  obtain ⟨o4, h⟩ := h
  refine w_iast dX11_put_19 hT o4 g3 ?_
  refine w_aload_n dX11_put_20 rfl ?_
  refine w_iload_n dX11_put_21 rfl ?_
  refine w_iconst dX11_put_22 ?_
  refine w_iadd dX11_put_23 ?_
  refine w_aload_n dX11_put_24 rfl ?_
  refine w_getR dX11_put_25 fX11_100 rfl rfl rfl ?_
  refine w_iconst dX11_put_28 ?_
  refine w_iald (x := ((upM (upM M aa x2.toNat (M 125 0)) aa ((x2 + 1).toNat) ((upM M aa x2.toNat (M 125 0)) 126 0)) 127 0)) dX11_put_29 rfl (by decide) rfl (fun g5 => ?_)
  have h := h g5
  obtain ⟨o6, h⟩ := h
  refine w_iast dX11_put_30 hT o6 g5 ?_
  refine w_iconst dX11_put_31 ?_
  refine w_istore_n dX11_put_32 (by decide) ?_
  exact k_pick [1, 2, 3, 0] rfl h
theorem vX11_put_33 {E : Scr} {f : Mem → Prop} {M : Mem} (x2 x3 : Int) {aa nn : Nat} (hT : T0[aa]? = some (20, nn)) (h : (iR x3) ∧ ((x3 ≥ 8 → f M) ∧ (x3 < 8 → (0 ≤ x3 ∧ x3 < 16) ∧ ((iR (M 130 x3.toNat)) → (0 ≤ ((x2 + 3) + x3) ∧ ((x2 + 3) + x3) < nn) ∧ (KW E mX11_put (qV f) (upM M aa (((x2 + 3) + x3).toNat) (M 130 x3.toNat)) 33 [(0, pR 98), (1, pR aa), (2, pI x2), (3, pI (x3 + 1))] []))))) : KW E mX11_put (qV f) M 33 [(0, pR 98), (1, pR aa), (2, pI x2), (3, pI x3)] [] := by
  refine w_iload_n dX11_put_33 rfl ?_
  refine w_bipush dX11_put_34 (by decide) ?_
  obtain ⟨o1, h⟩ := h
  refine w_icmp_ge dX11_put_36 rfl ⟨o1, (by decide)⟩ (fun c => ?_) (fun c => ?_)
  · have h := h.1 c
    exact k_vret dX11_put_58 rfl h
  · have h := h.2 c
    refine w_aload_n dX11_put_39 rfl ?_
    refine w_iload_n dX11_put_40 rfl ?_
    refine w_iconst dX11_put_41 ?_
    refine w_iadd dX11_put_42 ?_
    refine w_iload_n dX11_put_43 rfl ?_
    refine w_iadd dX11_put_44 ?_
    refine w_aload_n dX11_put_45 rfl ?_
    refine w_getR dX11_put_46 fX11_109 rfl rfl rfl ?_
    refine w_iload_n dX11_put_49 rfl ?_
    obtain ⟨o2, h⟩ := h
    refine w_iald (x := (M 130 x3.toNat)) dX11_put_50 rfl o2 rfl (fun g3 => ?_)
    have h := h g3
    obtain ⟨o4, h⟩ := h
    refine w_iast dX11_put_51 hT o4 g3 ?_
    refine w_iinc dX11_put_52 rfl (by decide) ?_
    refine w_goto dX11_put_55 rfl ?_
    exact k_pick [1, 2, 3, 0] rfl h
theorem vX11_take_0 {E : Scr} {f : Mem → Prop} {M : Mem} (x2 : Int) {aa nn : Nat} (hT : T0[aa]? = some (20, nn)) (h : (0 ≤ x2 ∧ x2 < nn) ∧ ((iR (M aa x2.toNat)) → (0 ≤ (x2 + 1) ∧ (x2 + 1) < nn) ∧ ((iR ((upM M 125 0 (M aa x2.toNat)) aa ((x2 + 1).toNat))) → (0 ≤ (x2 + 2) ∧ (x2 + 2) < nn) ∧ ((iR ((upM (upM M 125 0 (M aa x2.toNat)) 126 0 ((upM M 125 0 (M aa x2.toNat)) aa ((x2 + 1).toNat))) aa ((x2 + 2).toNat))) → (KW E mX11_take (qV f) (upM (upM (upM M 125 0 (M aa x2.toNat)) 126 0 ((upM M 125 0 (M aa x2.toNat)) aa ((x2 + 1).toNat))) 127 0 ((upM (upM M 125 0 (M aa x2.toNat)) 126 0 ((upM M 125 0 (M aa x2.toNat)) aa ((x2 + 1).toNat))) aa ((x2 + 2).toNat))) 33 [(0, pR 98), (1, pR aa), (2, pI x2), (3, pI 0)] []))))) : CV E mX11_take [pR 98, pR aa, pI x2] M f := by
  refine (show KW E mX11_take (qV f) M 0 [(0, pR 98), (1, pR aa), (2, pI x2)] [] from ?_)
  refine w_aload_n dX11_take_0 rfl ?_
  refine w_getR dX11_take_1 fX11_94 rfl rfl rfl ?_
  refine w_iconst dX11_take_4 ?_
  refine w_aload_n dX11_take_5 rfl ?_
  refine w_iload_n dX11_take_6 rfl ?_
  obtain ⟨o1, h⟩ := h
  refine w_iald (x := (M aa x2.toNat)) dX11_take_7 hT o1 rfl (fun g2 => ?_)
  have h := h g2
  refine w_iast dX11_take_8 rfl (by decide) g2 ?_
  refine w_aload_n dX11_take_9 rfl ?_
  refine w_getR dX11_take_10 fX11_97 rfl rfl rfl ?_
  refine w_iconst dX11_take_13 ?_
  refine w_aload_n dX11_take_14 rfl ?_
  refine w_iload_n dX11_take_15 rfl ?_
  refine w_iconst dX11_take_16 ?_
  refine w_iadd dX11_take_17 ?_
  obtain ⟨o3, h⟩ := h
  refine w_iald (x := ((upM M 125 0 (M aa x2.toNat)) aa ((x2 + 1).toNat))) dX11_take_18 hT o3 rfl (fun g4 => ?_)
  have h := h g4
  refine w_iast dX11_take_19 rfl (by decide) g4 ?_
  refine w_aload_n dX11_take_20 rfl ?_
  refine w_getR dX11_take_21 fX11_100 rfl rfl rfl ?_
  refine w_iconst dX11_take_24 ?_
  refine w_aload_n dX11_take_25 rfl ?_
  refine w_iload_n dX11_take_26 rfl ?_
  refine w_iconst dX11_take_27 ?_
  refine w_iadd dX11_take_28 ?_
  obtain ⟨o5, h⟩ := h
  refine w_iald (x := ((upM (upM M 125 0 (M aa x2.toNat)) 126 0 ((upM M 125 0 (M aa x2.toNat)) aa ((x2 + 1).toNat))) aa ((x2 + 2).toNat))) dX11_take_29 hT o5 rfl (fun g6 => ?_)
  have h := h g6
  refine w_iast dX11_take_30 rfl (by decide) g6 ?_
  refine w_iconst dX11_take_31 ?_
  refine w_istore_n dX11_take_32 (by decide) ?_
  exact k_pick [1, 2, 3, 0] rfl h
theorem vX11_take_33 {E : Scr} {f : Mem → Prop} {M : Mem} (x2 x3 : Int) {aa nn : Nat} (hT : T0[aa]? = some (20, nn)) (h : (iR x3) ∧ ((x3 ≥ 8 → f M) ∧ (x3 < 8 → (0 ≤ ((x2 + 3) + x3) ∧ ((x2 + 3) + x3) < nn) ∧ ((iR (M aa (((x2 + 3) + x3).toNat))) → (0 ≤ x3 ∧ x3 < 16) ∧ (KW E mX11_take (qV f) (upM M 130 x3.toNat (M aa (((x2 + 3) + x3).toNat))) 33 [(0, pR 98), (1, pR aa), (2, pI x2), (3, pI (x3 + 1))] []))))) : KW E mX11_take (qV f) M 33 [(0, pR 98), (1, pR aa), (2, pI x2), (3, pI x3)] [] := by
  refine w_iload_n dX11_take_33 rfl ?_
  refine w_bipush dX11_take_34 (by decide) ?_
  obtain ⟨o1, h⟩ := h
  refine w_icmp_ge dX11_take_36 rfl ⟨o1, (by decide)⟩ (fun c => ?_) (fun c => ?_)
  · have h := h.1 c
    exact k_vret dX11_take_58 rfl h
  · have h := h.2 c
    refine w_aload_n dX11_take_39 rfl ?_
    refine w_getR dX11_take_40 fX11_109 rfl rfl rfl ?_
    refine w_iload_n dX11_take_43 rfl ?_
    refine w_aload_n dX11_take_44 rfl ?_
    refine w_iload_n dX11_take_45 rfl ?_
    refine w_iconst dX11_take_46 ?_
    refine w_iadd dX11_take_47 ?_
    refine w_iload_n dX11_take_48 rfl ?_
    refine w_iadd dX11_take_49 ?_
    obtain ⟨o2, h⟩ := h
    refine w_iald (x := (M aa (((x2 + 3) + x3).toNat))) dX11_take_50 hT o2 rfl (fun g3 => ?_)
    have h := h g3
    obtain ⟨o4, h⟩ := h
    refine w_iast dX11_take_51 rfl o4 g3 ?_
    refine w_iinc dX11_take_52 rfl (by decide) ?_
    refine w_goto dX11_take_55 rfl ?_
    exact k_pick [1, 2, 3, 0] rfl h
theorem vX11_remember_0 {E : Scr} {f : Mem → Prop} {M : Mem} (h : ((iR (M 98 80)) → (((M 98 80) ≠ 20 → ((iR (M 98 80)) → (CV E mX11_put [pR 98, pR 142, pI (11 * (M 98 80))] M (fun M4 => ((iR (M4 98 80)) → (iR ((M4 98 80) + 1)) ∧ f (upM M4 98 80 ((M4 98 80) + 1))))))) ∧ ((M 98 80) = 20 → (KW E mX11_remember (qV f) M 11 [(0, pR 98), (1, pI 0)] []))))) : CV E mX11_remember [pR 98] M f := by
  refine (show KW E mX11_remember (qV f) M 0 [(0, pR 98)] [] from ?_)
  refine w_aload_n dX11_remember_0 rfl ?_
  refine w_getI (x := (M 98 80)) dX11_remember_1 fX11_397 rfl rfl rfl (fun g1 => ?_)
  have h := h g1
  refine w_bipush dX11_remember_4 (by decide) ?_
  refine w_icmp_ne dX11_remember_6 rfl ⟨g1, (by decide)⟩ (fun c => ?_) (fun c => ?_)
  · have h := h.1 c
    refine w_aload_n dX11_remember_49 rfl ?_
    refine w_aload_n dX11_remember_50 rfl ?_
    refine w_getR dX11_remember_51 fX11_148 rfl rfl rfl ?_
    refine w_bipush dX11_remember_54 (by decide) ?_
    refine w_aload_n dX11_remember_56 rfl ?_
    refine w_getI (x := (M 98 80)) dX11_remember_57 fX11_397 rfl rfl rfl (fun g2 => ?_)
    have h := h g2
    refine w_imul dX11_remember_60 ?_
    refine k_vV (as := [pR 142, pI (11 * (M 98 80))]) dX11_remember_61 kX11_511 ⟨⟨Nat.le_of_ble_eq_true rfl, rfl, rfl⟩, Nat.le_of_ble_eq_true rfl⟩ rfl (by decide) rfl (Nat.le_of_ble_eq_true rfl) h ?_
    intro M4 h
    refine w_aload_n dX11_remember_64 rfl ?_
    refine w_dup dX11_remember_65 rfl ?_
    refine w_getI (x := (M4 98 80)) dX11_remember_66 fX11_397 rfl rfl rfl (fun g5 => ?_)
    have h := h g5
    refine w_iconst dX11_remember_69 ?_
    refine w_iadd dX11_remember_70 ?_
    obtain ⟨o6, h⟩ := h
    refine w_putI dX11_remember_71 (Or.inl ⟨rfl, fX11_397⟩) rfl rfl o6 ?_
    exact k_vret dX11_remember_74 rfl h
  · have h := h.2 c
    refine w_iconst dX11_remember_9 ?_
    refine w_istore_n dX11_remember_10 (by decide) ?_
    exact k_pick [1, 0] rfl h
theorem vX11_remember_11 {E : Scr} {f : Mem → Prop} {M : Mem} (x1 : Int) (h : (iR x1) ∧ ((x1 ≥ 209 → ((iR (M 98 80)) → (iR ((M 98 80) - 1)) ∧ ((iR ((M 98 80) - 1)) → (CV E mX11_put [pR 98, pR 142, pI (11 * ((M 98 80) - 1))] (upM M 98 80 ((M 98 80) - 1)) (fun M6 => ((iR (M6 98 80)) → (iR ((M6 98 80) + 1)) ∧ f (upM M6 98 80 ((M6 98 80) + 1)))))))) ∧ (x1 < 209 → (0 ≤ (x1 + 11) ∧ (x1 + 11) < 220) ∧ ((iR (M 142 ((x1 + 11).toNat))) → (0 ≤ x1 ∧ x1 < 220) ∧ (KW E mX11_remember (qV f) (upM M 142 x1.toNat (M 142 ((x1 + 11).toNat))) 11 [(0, pR 98), (1, pI (x1 + 1))] []))))) : KW E mX11_remember (qV f) M 11 [(0, pR 98), (1, pI x1)] [] := by
  refine w_iload_n dX11_remember_11 rfl ?_
  refine w_sipush dX11_remember_12 (by decide) ?_
  obtain ⟨o1, h⟩ := h
  refine w_icmp_ge dX11_remember_15 rfl ⟨o1, (by decide)⟩ (fun c => ?_) (fun c => ?_)
  · have h := h.1 c
    refine w_aload_n dX11_remember_39 rfl ?_
    refine w_dup dX11_remember_40 rfl ?_
    refine w_getI (x := (M 98 80)) dX11_remember_41 fX11_397 rfl rfl rfl (fun g2 => ?_)
    have h := h g2
    refine w_iconst dX11_remember_44 ?_
    refine w_isub dX11_remember_45 ?_
    obtain ⟨o3, h⟩ := h
    refine w_putI dX11_remember_46 (Or.inl ⟨rfl, fX11_397⟩) rfl rfl o3 ?_
    refine w_aload_n dX11_remember_49 rfl ?_
    refine w_aload_n dX11_remember_50 rfl ?_
    refine w_getR dX11_remember_51 fX11_148 rfl rfl rfl ?_
    refine w_bipush dX11_remember_54 (by decide) ?_
    refine w_aload_n dX11_remember_56 rfl ?_
    refine w_getI (x := ((M 98 80) - 1)) dX11_remember_57 fX11_397 rfl rfl rfl (fun g4 => ?_)
    have h := h g4
    refine w_imul dX11_remember_60 ?_
    refine k_vV (as := [pR 142, pI (11 * ((M 98 80) - 1))]) dX11_remember_61 kX11_511 ⟨⟨Nat.le_of_ble_eq_true rfl, rfl, rfl⟩, Nat.le_of_ble_eq_true rfl⟩ rfl (by decide) rfl (Nat.le_of_ble_eq_true rfl) h ?_
    intro M6 h
    refine w_aload_n dX11_remember_64 rfl ?_
    refine w_dup dX11_remember_65 rfl ?_
    refine w_getI (x := (M6 98 80)) dX11_remember_66 fX11_397 rfl rfl rfl (fun g7 => ?_)
    have h := h g7
    refine w_iconst dX11_remember_69 ?_
    refine w_iadd dX11_remember_70 ?_
    obtain ⟨o8, h⟩ := h
    refine w_putI dX11_remember_71 (Or.inl ⟨rfl, fX11_397⟩) rfl rfl o8 ?_
    exact k_vret dX11_remember_74 rfl h
  · have h := h.2 c
    refine w_aload_n dX11_remember_18 rfl ?_
    refine w_getR dX11_remember_19 fX11_148 rfl rfl rfl ?_
    refine w_iload_n dX11_remember_22 rfl ?_
    refine w_aload_n dX11_remember_23 rfl ?_
    refine w_getR dX11_remember_24 fX11_148 rfl rfl rfl ?_
    refine w_iload_n dX11_remember_27 rfl ?_
    refine w_bipush dX11_remember_28 (by decide) ?_
    refine w_iadd dX11_remember_30 ?_
    obtain ⟨o9, h⟩ := h
    refine w_iald (x := (M 142 ((x1 + 11).toNat))) dX11_remember_31 rfl o9 rfl (fun g10 => ?_)
    have h := h g10
    obtain ⟨o11, h⟩ := h
    refine w_iast dX11_remember_32 rfl o11 g10 ?_
    refine w_iinc dX11_remember_33 rfl (by decide) ?_
    refine w_goto dX11_remember_36 rfl ?_
    exact k_pick [1, 0] rfl h
theorem vX11_undo_0 {E : Scr} {f : Int → Mem → Prop} {M : Mem} (h : ((iR (M 98 80)) → (((M 98 80) ≠ 0 → ((iR (M 98 80)) → (iR ((M 98 80) - 1)) ∧ ((iR ((M 98 80) - 1)) → (CV E mX11_take [pR 98, pR 142, pI (11 * ((M 98 80) - 1))] (upM (upM M 98 2 0) 98 80 ((M 98 80) - 1)) (fun M6 => ((iR (M6 98 80)) → f (M6 98 80) M6)))))) ∧ ((M 98 80) = 0 → f (-1) (upM M 98 2 0))))) : CI E mX11_undo [pR 98] M f := by
  refine (show KW E mX11_undo (qI f) M 0 [(0, pR 98)] [] from ?_)
  refine w_aload_n dX11_undo_0 rfl ?_
  refine w_iconst dX11_undo_1 ?_
  refine w_putI dX11_undo_2 (Or.inl ⟨rfl, fX11_160⟩) rfl rfl (by decide) ?_
  refine w_aload_n dX11_undo_5 rfl ?_
  refine w_getI (x := (M 98 80)) dX11_undo_6 fX11_397 rfl rfl rfl (fun g1 => ?_)
  have h := h g1
  refine w_if_ne dX11_undo_9 rfl g1 (fun c => ?_) (fun c => ?_)
  · have h := h.1 c
    refine w_aload_n dX11_undo_14 rfl ?_
    refine w_dup dX11_undo_15 rfl ?_
    refine w_getI (x := (M 98 80)) dX11_undo_16 fX11_397 rfl rfl rfl (fun g2 => ?_)
    have h := h g2
    refine w_iconst dX11_undo_19 ?_
    refine w_isub dX11_undo_20 ?_
    obtain ⟨o3, h⟩ := h
    refine w_putI dX11_undo_21 (Or.inl ⟨rfl, fX11_397⟩) rfl rfl o3 ?_
    refine w_aload_n dX11_undo_24 rfl ?_
    refine w_aload_n dX11_undo_25 rfl ?_
    refine w_getR dX11_undo_26 fX11_148 rfl rfl rfl ?_
    refine w_bipush dX11_undo_29 (by decide) ?_
    refine w_aload_n dX11_undo_31 rfl ?_
    refine w_getI (x := ((M 98 80) - 1)) dX11_undo_32 fX11_397 rfl rfl rfl (fun g4 => ?_)
    have h := h g4
    refine w_imul dX11_undo_35 ?_
    refine k_vV (as := [pR 142, pI (11 * ((M 98 80) - 1))]) dX11_undo_36 kX11_514 ⟨⟨Nat.le_of_ble_eq_true rfl, rfl, rfl⟩, Nat.le_of_ble_eq_true rfl⟩ rfl (by decide) rfl (Nat.le_of_ble_eq_true rfl) h ?_
    intro M6 h
    refine w_aload_n dX11_undo_39 rfl ?_
    refine w_getI (x := (M6 98 80)) dX11_undo_40 fX11_397 rfl rfl rfl (fun g7 => ?_)
    have h := h g7
    exact k_iret dX11_undo_43 rfl h
  · have h := h.2 c
    refine w_iconst dX11_undo_12 ?_
    exact k_iret dX11_undo_13 rfl h
theorem vX11_keep_0 {E : Scr} {f : Int → Mem → Prop} {M : Mem} (h : (CV E mX11_put [pR 98, pR 143, pI 0] (upM (upM M 98 2 0) 98 82 1) (fun M2 => ((iR (M2 128 0)) → ((iR (M2 129 0)) → ((lR (M2 98 59)) → ((iR (M2 129 0)) → f (M2 129 0) (upM (upM (upM M2 98 84 (M2 128 0)) 98 85 (M2 129 0)) 98 86 (M2 98 59))))))))) : CI E mX11_keep [pR 98] M f := by
  refine (show KW E mX11_keep (qI f) M 0 [(0, pR 98)] [] from ?_)
  refine w_aload_n dX11_keep_0 rfl ?_
  refine w_iconst dX11_keep_1 ?_
  refine w_putI dX11_keep_2 (Or.inl ⟨rfl, fX11_160⟩) rfl rfl (by decide) ?_
  refine w_aload_n dX11_keep_5 rfl ?_
  refine w_iconst dX11_keep_6 ?_
  refine w_putZ dX11_keep_7 (Or.inl ⟨rfl, fX11_400⟩) rfl rfl (by decide) ?_
  refine w_aload_n dX11_keep_10 rfl ?_
  refine w_aload_n dX11_keep_11 rfl ?_
  refine w_getR dX11_keep_12 fX11_151 rfl rfl rfl ?_
  refine w_iconst dX11_keep_15 ?_
  refine k_vV (as := [pR 143, pI 0]) dX11_keep_16 kX11_511 ⟨⟨Nat.le_of_ble_eq_true rfl, rfl, rfl⟩, Nat.le_of_ble_eq_true rfl⟩ rfl (by decide) rfl (Nat.le_of_ble_eq_true rfl) h ?_
  intro M2 h
  refine w_aload_n dX11_keep_19 rfl ?_
  refine w_aload_n dX11_keep_20 rfl ?_
  refine w_getR dX11_keep_21 fX11_103 rfl rfl rfl ?_
  refine w_iconst dX11_keep_24 ?_
  refine w_iald (x := (M2 128 0)) dX11_keep_25 rfl (by decide) rfl (fun g3 => ?_)
  have h := h g3
  refine w_putI dX11_keep_26 (Or.inl ⟨rfl, fX11_517⟩) rfl rfl g3 ?_
  refine w_aload_n dX11_keep_29 rfl ?_
  refine w_aload_n dX11_keep_30 rfl ?_
  refine w_getR dX11_keep_31 fX11_106 rfl rfl rfl ?_
  refine w_iconst dX11_keep_34 ?_
  refine w_iald (x := (M2 129 0)) dX11_keep_35 rfl (by decide) rfl (fun g4 => ?_)
  have h := h g4
  refine w_putI dX11_keep_36 (Or.inl ⟨rfl, fX11_520⟩) rfl rfl g4 ?_
  refine w_aload_n dX11_keep_39 rfl ?_
  refine w_aload_n dX11_keep_40 rfl ?_
  refine w_getL (x := (M2 98 59)) dX11_keep_41 fX11_387 rfl rfl rfl (fun g5 => ?_)
  have h := h g5
  refine w_putL dX11_keep_44 (Or.inl ⟨rfl, fX11_523⟩) rfl rfl g5 ?_
  refine w_aload_n dX11_keep_47 rfl ?_
  refine w_getR dX11_keep_48 fX11_106 rfl rfl rfl ?_
  refine w_iconst dX11_keep_51 ?_
  refine w_iald (x := (M2 129 0)) dX11_keep_52 rfl (by decide) rfl (fun g6 => ?_)
  have h := h g6
  exact k_iret dX11_keep_53 rfl h
theorem vX11_back_0 {E : Scr} {f : Int → Mem → Prop} {M : Mem} (h : ((zR (M 98 82)) → (((M 98 82) ≠ 0 → (CV E mX11_take [pR 98, pR 143, pI 0] (upM M 98 2 0) (fun M3 => ((iR (M3 98 84)) → ((iR (M3 98 85)) → ((lR (M3 98 86)) → ((iR (M3 98 85)) → f (M3 98 85) (upM (upM (upM (upM M3 128 0 (M3 98 84)) 129 0 (M3 98 85)) 98 59 (M3 98 86)) 98 80 0)))))))) ∧ ((M 98 82) = 0 → f (-1) (upM M 98 2 0))))) : CI E mX11_back [pR 98] M f := by
  refine (show KW E mX11_back (qI f) M 0 [(0, pR 98)] [] from ?_)
  refine w_aload_n dX11_back_0 rfl ?_
  refine w_iconst dX11_back_1 ?_
  refine w_putI dX11_back_2 (Or.inl ⟨rfl, fX11_160⟩) rfl rfl (by decide) ?_
  refine w_aload_n dX11_back_5 rfl ?_
  refine w_getZ (x := (M 98 82)) dX11_back_6 fX11_400 rfl rfl rfl (fun g1 => ?_)
  have h := h g1
  refine w_if_ne dX11_back_9 rfl (z2i g1) (fun c => ?_) (fun c => ?_)
  · have h := h.1 c
    refine w_aload_n dX11_back_14 rfl ?_
    refine w_aload_n dX11_back_15 rfl ?_
    refine w_getR dX11_back_16 fX11_151 rfl rfl rfl ?_
    refine w_iconst dX11_back_19 ?_
    refine k_vV (as := [pR 143, pI 0]) dX11_back_20 kX11_514 ⟨⟨Nat.le_of_ble_eq_true rfl, rfl, rfl⟩, Nat.le_of_ble_eq_true rfl⟩ rfl (by decide) rfl (Nat.le_of_ble_eq_true rfl) h ?_
    intro M3 h
    refine w_aload_n dX11_back_23 rfl ?_
    refine w_getR dX11_back_24 fX11_103 rfl rfl rfl ?_
    refine w_iconst dX11_back_27 ?_
    refine w_aload_n dX11_back_28 rfl ?_
    refine w_getI (x := (M3 98 84)) dX11_back_29 fX11_517 rfl rfl rfl (fun g4 => ?_)
    have h := h g4
    refine w_iast dX11_back_32 rfl (by decide) g4 ?_
    refine w_aload_n dX11_back_33 rfl ?_
    refine w_getR dX11_back_34 fX11_106 rfl rfl rfl ?_
    refine w_iconst dX11_back_37 ?_
    refine w_aload_n dX11_back_38 rfl ?_
    refine w_getI (x := (M3 98 85)) dX11_back_39 fX11_520 rfl rfl rfl (fun g5 => ?_)
    have h := h g5
    refine w_iast dX11_back_42 rfl (by decide) g5 ?_
    refine w_aload_n dX11_back_43 rfl ?_
    refine w_aload_n dX11_back_44 rfl ?_
    refine w_getL (x := (M3 98 86)) dX11_back_45 fX11_523 rfl rfl rfl (fun g6 => ?_)
    have h := h g6
    refine w_putL dX11_back_48 (Or.inl ⟨rfl, fX11_387⟩) rfl rfl g6 ?_
    refine w_aload_n dX11_back_51 rfl ?_
    refine w_iconst dX11_back_52 ?_
    refine w_putI dX11_back_53 (Or.inl ⟨rfl, fX11_397⟩) rfl rfl (by decide) ?_
    refine w_aload_n dX11_back_56 rfl ?_
    refine w_getR dX11_back_57 fX11_106 rfl rfl rfl ?_
    refine w_iconst dX11_back_60 ?_
    refine w_iald (x := (M3 98 85)) dX11_back_61 rfl (by decide) rfl (fun g7 => ?_)
    have h := h g7
    exact k_iret dX11_back_62 rfl h
  · have h := h.2 c
    refine w_iconst dX11_back_12 ?_
    exact k_iret dX11_back_13 rfl h
theorem vX11_count_0 {E : Scr} {f : Int → Mem → Prop} {M : Mem} (x1 : Int) (h : (iR x1) ∧ ((x1 = 0 → ((iR (M 98 12)) → f (M 98 12) (upM M 98 2 0))) ∧ (x1 = 1 → (KW E mX11_count (qI f) (upM M 98 2 0) 83 [(0, pR 98), (2, pI 0), (3, pI 0)] [])) ∧ (x1 = 2 → ((iR (M 98 13)) → f (M 98 13) (upM M 98 2 0))) ∧ (x1 = 3 → ((iR (M 98 15)) → f (M 98 15) (upM M 98 2 0))) ∧ (x1 = 4 → ((iR (M 129 0)) → f (M 129 0) (upM M 98 2 0))) ∧ (x1 = 5 → ((iR (M 125 0)) → (CI E mX11_manyOf [pI (M 125 0)] (upM M 98 2 0) (fun r7 M8 => f r7 M8)))) ∧ (x1 = 6 → ((iR (M 126 0)) → (CI E mX11_manyOf [pI (M 126 0)] (upM M 98 2 0) (fun r10 M11 => f r10 M11)))) ∧ (x1 = 7 → ((iR (M 127 0)) → f (M 127 0) (upM M 98 2 0))) ∧ (x1 = 8 → ((iR (M 128 0)) → f (M 128 0) (upM M 98 2 0))) ∧ (x1 = 9 → (KW E mX11_count (qI f) (upM M 98 2 0) 169 [(0, pR 98), (2, pI 0), (3, pI 0)] [])) ∧ (x1 = 10 → ((iR (M 98 76)) → f (M 98 76) (upM M 98 2 0))) ∧ (x1 = 11 → (CI E mX11_knownBy [pR 98] (upM M 98 2 0) (fun r15 M16 => f r15 M16))) ∧ (x1 = 12 → ((iR (M 98 80)) → f (M 98 80) (upM M 98 2 0))) ∧ (x1 < 0 ∨ 12 < x1 → f (-1) (upM M 98 2 0)))) : CI E mX11_count [pR 98, pI x1] M f := by
  refine (show KW E mX11_count (qI f) M 0 [(0, pR 98), (1, pI x1)] [] from ?_)
  refine w_aload_n dX11_count_0 rfl ?_
  refine w_iconst dX11_count_1 ?_
  refine w_putI dX11_count_2 (Or.inl ⟨rfl, fX11_160⟩) rfl rfl (by decide) ?_
  refine w_iconst dX11_count_5 ?_
  refine w_istore_n dX11_count_6 (by decide) ?_
  refine w_iload_n dX11_count_7 rfl ?_
  obtain ⟨o1, h⟩ := h
  refine w_tsw (tgs := [76, 81, 116, 121, 126, 133, 143, 153, 160, 167, 194, 199, 204]) (td := 209) dX11_count_8 o1 rfl (by decide) rfl ?_ ?_
  · intro j hj hx
    match j, hj, hx with
    | 0, _, hx =>
      have h := h.1 (by simpa using hx)
      clear hx
      refine w_aload_n dX11_count_76 rfl ?_
      refine w_getI (x := (M 98 12)) dX11_count_77 fX11_240 rfl rfl rfl (fun g2 => ?_)
      have h := h g2
      exact k_iret dX11_count_80 rfl h
    | 1, _, hx =>
      have h := h.2.1 (by simpa using hx)
      clear hx
      refine w_iconst dX11_count_81 ?_
      refine w_istore_n dX11_count_82 (by decide) ?_
      exact k_pick [2, 1, 0] rfl h
    | 2, _, hx =>
      have h := h.2.2.1 (by simpa using hx)
      clear hx
      refine w_aload_n dX11_count_116 rfl ?_
      refine w_getI (x := (M 98 13)) dX11_count_117 fX11_243 rfl rfl rfl (fun g3 => ?_)
      have h := h g3
      exact k_iret dX11_count_120 rfl h
    | 3, _, hx =>
      have h := h.2.2.2.1 (by simpa using hx)
      clear hx
      refine w_aload_n dX11_count_121 rfl ?_
      refine w_getI (x := (M 98 15)) dX11_count_122 fX11_249 rfl rfl rfl (fun g4 => ?_)
      have h := h g4
      exact k_iret dX11_count_125 rfl h
    | 4, _, hx =>
      have h := h.2.2.2.2.1 (by simpa using hx)
      clear hx
      refine w_aload_n dX11_count_126 rfl ?_
      refine w_getR dX11_count_127 fX11_106 rfl rfl rfl ?_
      refine w_iconst dX11_count_130 ?_
      refine w_iald (x := (M 129 0)) dX11_count_131 rfl (by decide) rfl (fun g5 => ?_)
      have h := h g5
      exact k_iret dX11_count_132 rfl h
    | 5, _, hx =>
      have h := h.2.2.2.2.2.1 (by simpa using hx)
      clear hx
      refine w_aload_n dX11_count_133 rfl ?_
      refine w_getR dX11_count_134 fX11_94 rfl rfl rfl ?_
      refine w_iconst dX11_count_137 ?_
      refine w_iald (x := (M 125 0)) dX11_count_138 rfl (by decide) rfl (fun g6 => ?_)
      have h := h g6
      refine k_sI (as := [pI (M 125 0)]) dX11_count_139 kX11_381 ⟨⟨Nat.le_of_ble_eq_true rfl, rfl, rfl⟩, Nat.le_of_ble_eq_true rfl⟩ rfl (Nat.le_of_ble_eq_true rfl) h ?_
      intro r7 M8 h
      exact k_iret dX11_count_142 rfl h
    | 6, _, hx =>
      have h := h.2.2.2.2.2.2.1 (by simpa using hx)
      clear hx
      refine w_aload_n dX11_count_143 rfl ?_
      refine w_getR dX11_count_144 fX11_97 rfl rfl rfl ?_
      refine w_iconst dX11_count_147 ?_
      refine w_iald (x := (M 126 0)) dX11_count_148 rfl (by decide) rfl (fun g9 => ?_)
      have h := h g9
      refine k_sI (as := [pI (M 126 0)]) dX11_count_149 kX11_381 ⟨⟨Nat.le_of_ble_eq_true rfl, rfl, rfl⟩, Nat.le_of_ble_eq_true rfl⟩ rfl (Nat.le_of_ble_eq_true rfl) h ?_
      intro r10 M11 h
      exact k_iret dX11_count_152 rfl h
    | 7, _, hx =>
      have h := h.2.2.2.2.2.2.2.1 (by simpa using hx)
      clear hx
      refine w_aload_n dX11_count_153 rfl ?_
      refine w_getR dX11_count_154 fX11_100 rfl rfl rfl ?_
      refine w_iconst dX11_count_157 ?_
      refine w_iald (x := (M 127 0)) dX11_count_158 rfl (by decide) rfl (fun g12 => ?_)
      have h := h g12
      exact k_iret dX11_count_159 rfl h
    | 8, _, hx =>
      have h := h.2.2.2.2.2.2.2.2.1 (by simpa using hx)
      clear hx
      refine w_aload_n dX11_count_160 rfl ?_
      refine w_getR dX11_count_161 fX11_103 rfl rfl rfl ?_
      refine w_iconst dX11_count_164 ?_
      refine w_iald (x := (M 128 0)) dX11_count_165 rfl (by decide) rfl (fun g13 => ?_)
      have h := h g13
      exact k_iret dX11_count_166 rfl h
    | 9, _, hx =>
      have h := h.2.2.2.2.2.2.2.2.2.1 (by simpa using hx)
      clear hx
      refine w_iconst dX11_count_167 ?_
      refine w_istore_n dX11_count_168 (by decide) ?_
      exact k_pick [2, 1, 0] rfl h
    | 10, _, hx =>
      have h := h.2.2.2.2.2.2.2.2.2.2.1 (by simpa using hx)
      clear hx
      refine w_aload_n dX11_count_194 rfl ?_
      refine w_getI (x := (M 98 76)) dX11_count_195 fX11_394 rfl rfl rfl (fun g14 => ?_)
      have h := h g14
      exact k_iret dX11_count_198 rfl h
    | 11, _, hx =>
      have h := h.2.2.2.2.2.2.2.2.2.2.2.1 (by simpa using hx)
      clear hx
      refine w_aload_n dX11_count_199 rfl ?_
      refine k_vI (as := []) dX11_count_200 kX11_502 ⟨⟨Nat.le_of_ble_eq_true rfl, rfl, rfl⟩, Nat.le_of_ble_eq_true rfl⟩ rfl (by decide) rfl (Nat.le_of_ble_eq_true rfl) h ?_
      intro r15 M16 h
      exact k_iret dX11_count_203 rfl h
    | 12, _, hx =>
      have h := h.2.2.2.2.2.2.2.2.2.2.2.2.1 (by simpa using hx)
      clear hx
      refine w_aload_n dX11_count_204 rfl ?_
      refine w_getI (x := (M 98 80)) dX11_count_205 fX11_397 rfl rfl rfl (fun g17 => ?_)
      have h := h g17
      exact k_iret dX11_count_208 rfl h
    | _ + 13, hj, _ => exact absurd hj (by simp)
  · intro c
    have h := h.2.2.2.2.2.2.2.2.2.2.2.2.2 c
    refine w_iconst dX11_count_209 ?_
    exact k_iret dX11_count_210 rfl h
theorem vX11_count_83 {E : Scr} {f : Int → Mem → Prop} {M : Mem} (x2 x3 : Int) (h : ((iR (M 98 12)) → (iR x3) ∧ ((x3 ≥ (M 98 12) → f x2 M) ∧ (x3 < (M 98 12) → (0 ≤ x3 ∧ x3 < 16) ∧ ((iR (M 105 x3.toNat)) → (((M 105 x3.toNat) < 0 → (KW E mX11_count (qI f) M 83 [(0, pR 98), (2, pI (x2 + 0)), (3, pI (x3 + 1))] [])) ∧ ((M 105 x3.toNat) ≥ 0 → (KW E mX11_count (qI f) M 83 [(0, pR 98), (2, pI (x2 + 1)), (3, pI (x3 + 1))] [])))))))) : KW E mX11_count (qI f) M 83 [(0, pR 98), (2, pI x2), (3, pI x3)] [] := by
  refine w_iload_n dX11_count_83 rfl ?_
  refine w_aload_n dX11_count_84 rfl ?_
  refine w_getI (x := (M 98 12)) dX11_count_85 fX11_240 rfl rfl rfl (fun g1 => ?_)
  have h := h g1
  obtain ⟨o2, h⟩ := h
  refine w_icmp_ge dX11_count_88 rfl ⟨o2, g1⟩ (fun c => ?_) (fun c => ?_)
  · have h := h.1 c
    refine w_iload_n dX11_count_114 rfl ?_
    exact k_iret dX11_count_115 rfl h
  · have h := h.2 c
    refine w_iload_n dX11_count_91 rfl ?_
    refine w_aload_n dX11_count_92 rfl ?_
    refine w_getR dX11_count_93 fX11_33 rfl rfl rfl ?_
    refine w_iload_n dX11_count_96 rfl ?_
    obtain ⟨o3, h⟩ := h
    refine w_iald (x := (M 105 x3.toNat)) dX11_count_97 rfl o3 rfl (fun g4 => ?_)
    have h := h g4
    refine w_if_lt dX11_count_98 rfl g4 (fun c => ?_) (fun c => ?_)
    · have h := h.1 c
      refine w_iconst dX11_count_105 ?_
      refine w_iadd dX11_count_106 ?_
      refine w_istore_n dX11_count_107 (by decide) ?_
      refine w_iinc dX11_count_108 rfl (by decide) ?_
      refine w_goto dX11_count_111 rfl ?_
      exact k_pick [2, 1, 0] rfl h
    · have h := h.2 c
      refine w_iconst dX11_count_101 ?_
      refine w_goto dX11_count_102 rfl ?_
      refine w_iadd dX11_count_106 ?_
      refine w_istore_n dX11_count_107 (by decide) ?_
      refine w_iinc dX11_count_108 rfl (by decide) ?_
      refine w_goto dX11_count_111 rfl ?_
      exact k_pick [2, 1, 0] rfl h
theorem vX11_count_169 {E : Scr} {f : Int → Mem → Prop} {M : Mem} (x2 x3 : Int) (h : ((iR (M 98 12)) → (iR x3) ∧ ((x3 ≥ (M 98 12) → f x2 M) ∧ (x3 < (M 98 12) → (0 ≤ x3 ∧ x3 < 16) ∧ ((iR (M 130 x3.toNat)) → (KW E mX11_count (qI f) M 169 [(0, pR 98), (2, pI (x2 + (M 130 x3.toNat))), (3, pI (x3 + 1))] [])))))) : KW E mX11_count (qI f) M 169 [(0, pR 98), (2, pI x2), (3, pI x3)] [] := by
  refine w_iload_n dX11_count_169 rfl ?_
  refine w_aload_n dX11_count_170 rfl ?_
  refine w_getI (x := (M 98 12)) dX11_count_171 fX11_240 rfl rfl rfl (fun g1 => ?_)
  have h := h g1
  obtain ⟨o2, h⟩ := h
  refine w_icmp_ge dX11_count_174 rfl ⟨o2, g1⟩ (fun c => ?_) (fun c => ?_)
  · have h := h.1 c
    refine w_iload_n dX11_count_192 rfl ?_
    exact k_iret dX11_count_193 rfl h
  · have h := h.2 c
    refine w_iload_n dX11_count_177 rfl ?_
    refine w_aload_n dX11_count_178 rfl ?_
    refine w_getR dX11_count_179 fX11_109 rfl rfl rfl ?_
    refine w_iload_n dX11_count_182 rfl ?_
    obtain ⟨o3, h⟩ := h
    refine w_iald (x := (M 130 x3.toNat)) dX11_count_183 rfl o3 rfl (fun g4 => ?_)
    have h := h g4
    refine w_iadd dX11_count_184 ?_
    refine w_istore_n dX11_count_185 (by decide) ?_
    refine w_iinc dX11_count_186 rfl (by decide) ?_
    refine w_goto dX11_count_189 rfl ?_
    exact k_pick [2, 1, 0] rfl h
