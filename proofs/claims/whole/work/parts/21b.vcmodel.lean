theorem vX11_standing_0 {E : Scr} {f : Int → Mem → Prop} {M : Mem} (x0 : Int) (h : (iR x0) ∧ ((x0 < 13 → (iR x0) ∧ ((x0 < 11 → (iR x0) ∧ ((x0 < 5 → (iR x0) ∧ ((x0 ≠ 2 → (iR x0) ∧ ((x0 ≠ 3 → (iR x0) ∧ ((x0 ≠ 4 → f 0 M) ∧ (x0 = 4 → f 1 M))) ∧ (x0 = 3 → f 2 M))) ∧ (x0 = 2 → f 3 M))) ∧ (x0 ≥ 5 → f 4 M))) ∧ (x0 ≥ 11 → f 5 M))) ∧ (x0 ≥ 13 → f 6 M))) : CI E mX11_standing [pI x0] M f := by
  refine (show KW E mX11_standing (qI f) M 0 [(0, pI x0)] [] from ?_)
  refine w_iload_n dX11_standing_0 rfl ?_
  refine w_bipush dX11_standing_1 (by decide) ?_
  obtain ⟨o1, h⟩ := h
  refine w_icmp_lt dX11_standing_3 rfl ⟨o1, (by decide)⟩ (fun c => ?_) (fun c => ?_)
  · have h := h.1 c
    refine w_iload_n dX11_standing_11 rfl ?_
    refine w_bipush dX11_standing_12 (by decide) ?_
    obtain ⟨o2, h⟩ := h
    refine w_icmp_lt dX11_standing_14 rfl ⟨o2, (by decide)⟩ (fun c => ?_) (fun c => ?_)
    · have h := h.1 c
      refine w_iload_n dX11_standing_21 rfl ?_
      refine w_iconst dX11_standing_22 ?_
      obtain ⟨o3, h⟩ := h
      refine w_icmp_lt dX11_standing_23 rfl ⟨o3, (by decide)⟩ (fun c => ?_) (fun c => ?_)
      · have h := h.1 c
        refine w_iload_n dX11_standing_30 rfl ?_
        refine w_iconst dX11_standing_31 ?_
        obtain ⟨o4, h⟩ := h
        refine w_icmp_ne dX11_standing_32 rfl ⟨o4, (by decide)⟩ (fun c => ?_) (fun c => ?_)
        · have h := h.1 c
          refine w_iload_n dX11_standing_39 rfl ?_
          refine w_iconst dX11_standing_40 ?_
          obtain ⟨o5, h⟩ := h
          refine w_icmp_ne dX11_standing_41 rfl ⟨o5, (by decide)⟩ (fun c => ?_) (fun c => ?_)
          · have h := h.1 c
            refine w_iload_n dX11_standing_48 rfl ?_
            refine w_iconst dX11_standing_49 ?_
            obtain ⟨o6, h⟩ := h
            refine w_icmp_ne dX11_standing_50 rfl ⟨o6, (by decide)⟩ (fun c => ?_) (fun c => ?_)
            · have h := h.1 c
              refine w_iconst dX11_standing_57 ?_
              exact k_iret dX11_standing_58 rfl h
            · have h := h.2 c
              refine w_iconst dX11_standing_53 ?_
              refine w_goto dX11_standing_54 rfl ?_
              exact k_iret dX11_standing_58 rfl h
          · have h := h.2 c
            refine w_iconst dX11_standing_44 ?_
            refine w_goto dX11_standing_45 rfl ?_
            exact k_iret dX11_standing_58 rfl h
        · have h := h.2 c
          refine w_iconst dX11_standing_35 ?_
          refine w_goto dX11_standing_36 rfl ?_
          exact k_iret dX11_standing_58 rfl h
      · have h := h.2 c
        refine w_iconst dX11_standing_26 ?_
        refine w_goto dX11_standing_27 rfl ?_
        exact k_iret dX11_standing_58 rfl h
    · have h := h.2 c
      refine w_iconst dX11_standing_17 ?_
      refine w_goto dX11_standing_18 rfl ?_
      exact k_iret dX11_standing_58 rfl h
  · have h := h.2 c
    refine w_bipush dX11_standing_6 (by decide) ?_
    refine w_goto dX11_standing_8 rfl ?_
    exact k_iret dX11_standing_58 rfl h
theorem vX11_grown_0 {E : Scr} {f : Mem → Prop} {M : Mem} (x1 x2 x3 : Int) (h : ((iR (M 98 19)) → (0 ≤ (64 + (M 98 19)) ∧ (64 + (M 98 19)) < 128) ∧ (iR x1) ∧ ((iR (M 98 19)) → (0 ≤ (64 + (M 98 19)) ∧ (64 + (M 98 19)) < 128) ∧ (iR x2) ∧ ((iR (M 98 19)) → (0 ≤ (64 + (M 98 19)) ∧ (64 + (M 98 19)) < 128) ∧ (iR x3) ∧ ((iR (M 98 43)) → ((iR (M 98 19)) → (0 ≤ (M 98 43) ∧ (M 98 43) < 96) ∧ ((iR (M 98 43)) → (iR ((M 98 43) + 1)) ∧ ((iR (M 98 19)) → (iR ((M 98 19) + 1)) ∧ f (upM (upM (upM (upM (upM (upM M 116 ((64 + (M 98 19)).toNat) x1) 117 ((64 + (M 98 19)).toNat) x2) 118 ((64 + (M 98 19)).toNat) x3) 120 ((M 98 43).toNat) (M 98 19)) 98 43 ((M 98 43) + 1)) 98 19 ((M 98 19) + 1)))))))))) : CV E mX11_grown [pR 98, pI x1, pI x2, pI x3] M f := by
  refine (show KW E mX11_grown (qV f) M 0 [(0, pR 98), (1, pI x1), (2, pI x2), (3, pI x3)] [] from ?_)
  refine w_aload_n dX11_grown_0 rfl ?_
  refine w_getR dX11_grown_1 fX11_66 rfl rfl rfl ?_
  refine w_bipush dX11_grown_4 (by decide) ?_
  refine w_aload_n dX11_grown_6 rfl ?_
  refine w_getI (x := (M 98 19)) dX11_grown_7 fX11_231 rfl rfl rfl (fun g1 => ?_)
  have h := h g1
  refine w_iadd dX11_grown_10 ?_
  refine w_iload_n dX11_grown_11 rfl ?_
  obtain ⟨o2, h⟩ := h
  obtain ⟨o3, h⟩ := h
  refine w_iast dX11_grown_12 rfl o2 o3 ?_
  refine w_aload_n dX11_grown_13 rfl ?_
  refine w_getR dX11_grown_14 fX11_69 rfl rfl rfl ?_
  refine w_bipush dX11_grown_17 (by decide) ?_
  refine w_aload_n dX11_grown_19 rfl ?_
  refine w_getI (x := (M 98 19)) dX11_grown_20 fX11_231 rfl rfl rfl (fun g4 => ?_)
  have h := h g4
  refine w_iadd dX11_grown_23 ?_
  refine w_iload_n dX11_grown_24 rfl ?_
  obtain ⟨o5, h⟩ := h
  obtain ⟨o6, h⟩ := h
  refine w_iast dX11_grown_25 rfl o5 o6 ?_
  refine w_aload_n dX11_grown_26 rfl ?_
  refine w_getR dX11_grown_27 fX11_72 rfl rfl rfl ?_
  refine w_bipush dX11_grown_30 (by decide) ?_
  refine w_aload_n dX11_grown_32 rfl ?_
  refine w_getI (x := (M 98 19)) dX11_grown_33 fX11_231 rfl rfl rfl (fun g7 => ?_)
  have h := h g7
  refine w_iadd dX11_grown_36 ?_
  refine w_iload_n dX11_grown_37 rfl ?_
  obtain ⟨o8, h⟩ := h
  obtain ⟨o9, h⟩ := h
  refine w_iast dX11_grown_38 rfl o8 o9 ?_
  refine w_aload_n dX11_grown_39 rfl ?_
  refine w_getR dX11_grown_40 fX11_78 rfl rfl rfl ?_
  refine w_aload_n dX11_grown_43 rfl ?_
  refine w_getI (x := (M 98 43)) dX11_grown_44 fX11_297 rfl rfl rfl (fun g10 => ?_)
  have h := h g10
  refine w_aload_n dX11_grown_47 rfl ?_
  refine w_getI (x := (M 98 19)) dX11_grown_48 fX11_231 rfl rfl rfl (fun g11 => ?_)
  have h := h g11
  obtain ⟨o12, h⟩ := h
  refine w_iast dX11_grown_51 rfl o12 g11 ?_
  refine w_aload_n dX11_grown_52 rfl ?_
  refine w_dup dX11_grown_53 rfl ?_
  refine w_getI (x := (M 98 43)) dX11_grown_54 fX11_297 rfl rfl rfl (fun g13 => ?_)
  have h := h g13
  refine w_iconst dX11_grown_57 ?_
  refine w_iadd dX11_grown_58 ?_
  obtain ⟨o14, h⟩ := h
  refine w_putI dX11_grown_59 (Or.inl ⟨rfl, fX11_297⟩) rfl rfl o14 ?_
  refine w_aload_n dX11_grown_62 rfl ?_
  refine w_dup dX11_grown_63 rfl ?_
  refine w_getI (x := (M 98 19)) dX11_grown_64 fX11_231 rfl rfl rfl (fun g15 => ?_)
  have h := h g15
  refine w_iconst dX11_grown_67 ?_
  refine w_iadd dX11_grown_68 ?_
  obtain ⟨o16, h⟩ := h
  refine w_putI dX11_grown_69 (Or.inl ⟨rfl, fX11_231⟩) rfl rfl o16 ?_
  exact k_vret dX11_grown_72 rfl h
theorem vX11_dropHeld_0 {E : Scr} {f : Int → Mem → Prop} {M : Mem} (h : ((iR (M 98 43)) → (iR ((M 98 43) - 1)) ∧ ((iR ((M 98 43) - 1)) → (0 ≤ ((M 98 43) - 1) ∧ ((M 98 43) - 1) < 96) ∧ ((iR (M 120 (((M 98 43) - 1).toNat))) → f (M 120 (((M 98 43) - 1).toNat)) (upM M 98 43 ((M 98 43) - 1)))))) : CI E mX11_dropHeld [pR 98] M f := by
  refine (show KW E mX11_dropHeld (qI f) M 0 [(0, pR 98)] [] from ?_)
  refine w_aload_n dX11_dropHeld_0 rfl ?_
  refine w_dup dX11_dropHeld_1 rfl ?_
  refine w_getI (x := (M 98 43)) dX11_dropHeld_2 fX11_297 rfl rfl rfl (fun g1 => ?_)
  have h := h g1
  refine w_iconst dX11_dropHeld_5 ?_
  refine w_isub dX11_dropHeld_6 ?_
  obtain ⟨o2, h⟩ := h
  refine w_putI dX11_dropHeld_7 (Or.inl ⟨rfl, fX11_297⟩) rfl rfl o2 ?_
  refine w_aload_n dX11_dropHeld_10 rfl ?_
  refine w_getR dX11_dropHeld_11 fX11_78 rfl rfl rfl ?_
  refine w_aload_n dX11_dropHeld_14 rfl ?_
  refine w_getI (x := ((M 98 43) - 1)) dX11_dropHeld_15 fX11_297 rfl rfl rfl (fun g3 => ?_)
  have h := h g3
  obtain ⟨o4, h⟩ := h
  refine w_iald (x := (M 120 (((M 98 43) - 1).toNat))) dX11_dropHeld_18 rfl o4 rfl (fun g5 => ?_)
  have h := h g5
  exact k_iret dX11_dropHeld_19 rfl h
theorem vX11_bind_in {E : Scr} {f : Mem → Prop} {M : Mem} (x1 : Int) (h : (KW E mX11_bind (qV f) M 0 [(0, pR 98), (1, pI x1)] [])) : CV E mX11_bind [pR 98, pI x1] M f := by
  refine (show KW E mX11_bind (qV f) M 0 [(0, pR 98), (1, pI x1)] [] from ?_)
  exact k_pick [0, 1] rfl h
theorem vX11_bind_0 {E : Scr} {f : Mem → Prop} {M : Mem} (x1 : Int) (h : ((iR (M 98 42)) → (((M 98 42) ≤ 0 → f M) ∧ ((M 98 42) > 0 → ((iR (M 98 42)) → (0 ≤ ((M 98 42) - 1) ∧ ((M 98 42) - 1) < 96) ∧ ((iR (M 119 (((M 98 42) - 1).toNat))) → (CI E mX11_standing [pI (M 119 (((M 98 42) - 1).toNat))] M (fun r5 M6 => (iR r5) ∧ (iR x1) ∧ ((r5 < x1 → f M6) ∧ (r5 ≥ x1 → ((iR (M6 98 42)) → (iR ((M6 98 42) - 1)) ∧ ((iR ((M6 98 42) - 1)) → (0 ≤ ((M6 98 42) - 1) ∧ ((M6 98 42) - 1) < 96) ∧ ((iR (M6 119 (((M6 98 42) - 1).toNat))) → (((M6 119 (((M6 98 42) - 1).toNat)) ≠ 2 → (CI E mX11_dropHeld [pR 98] (upM M6 98 42 ((M6 98 42) - 1)) (fun r14 M15 => (CI E mX11_dropHeld [pR 98] M15 (fun r16 M17 => (CV E mX11_grown [pR 98, pI (M6 119 (((M6 98 42) - 1).toNat)), pI r16, pI r14] M17 (fun M19 => (KW E mX11_bind (qV f) M19 0 [(0, pR 98), (1, pI x1)] [])))))))) ∧ ((M6 119 (((M6 98 42) - 1).toNat)) = 2 → (CI E mX11_dropHeld [pR 98] (upM M6 98 42 ((M6 98 42) - 1)) (fun r20 M21 => (CV E mX11_grown [pR 98, pI (M6 119 (((M6 98 42) - 1).toNat)), pI r20, pI (-1)] M21 (fun M23 => (KW E mX11_bind (qV f) M23 0 [(0, pR 98), (1, pI x1)] [])))))))))))))))))))) : KW E mX11_bind (qV f) M 0 [(0, pR 98), (1, pI x1)] [] := by
  refine w_aload_n dX11_bind_0 rfl ?_
  refine w_getI (x := (M 98 42)) dX11_bind_1 fX11_300 rfl rfl rfl (fun g1 => ?_)
  have h := h g1
  refine w_if_le dX11_bind_4 rfl g1 (fun c => ?_) (fun c => ?_)
  · have h := h.1 c
    exact k_vret dX11_bind_76 rfl h
  · have h := h.2 c
    refine w_aload_n dX11_bind_7 rfl ?_
    refine w_getR dX11_bind_8 fX11_75 rfl rfl rfl ?_
    refine w_aload_n dX11_bind_11 rfl ?_
    refine w_getI (x := (M 98 42)) dX11_bind_12 fX11_300 rfl rfl rfl (fun g2 => ?_)
    have h := h g2
    refine w_iconst dX11_bind_15 ?_
    refine w_isub dX11_bind_16 ?_
    obtain ⟨o3, h⟩ := h
    refine w_iald (x := (M 119 (((M 98 42) - 1).toNat))) dX11_bind_17 rfl o3 rfl (fun g4 => ?_)
    have h := h g4
    refine k_sI (as := [pI (M 119 (((M 98 42) - 1).toNat))]) dX11_bind_18 kX11_303 ⟨⟨Nat.le_of_ble_eq_true rfl, rfl, rfl⟩, Nat.le_of_ble_eq_true rfl⟩ rfl (Nat.le_of_ble_eq_true rfl) h ?_
    intro r5 M6 h
    refine w_iload_n dX11_bind_21 rfl ?_
    obtain ⟨o7, h⟩ := h
    obtain ⟨o8, h⟩ := h
    refine w_icmp_lt dX11_bind_22 rfl ⟨o7, o8⟩ (fun c => ?_) (fun c => ?_)
    · have h := h.1 c
      exact k_vret dX11_bind_76 rfl h
    · have h := h.2 c
      refine w_aload_n dX11_bind_25 rfl ?_
      refine w_dup dX11_bind_26 rfl ?_
      refine w_getI (x := (M6 98 42)) dX11_bind_27 fX11_300 rfl rfl rfl (fun g9 => ?_)
      have h := h g9
      refine w_iconst dX11_bind_30 ?_
      refine w_isub dX11_bind_31 ?_
      obtain ⟨o10, h⟩ := h
      refine w_putI dX11_bind_32 (Or.inl ⟨rfl, fX11_300⟩) rfl rfl o10 ?_
      refine w_aload_n dX11_bind_35 rfl ?_
      refine w_getR dX11_bind_36 fX11_75 rfl rfl rfl ?_
      refine w_aload_n dX11_bind_39 rfl ?_
      refine w_getI (x := ((M6 98 42) - 1)) dX11_bind_40 fX11_300 rfl rfl rfl (fun g11 => ?_)
      have h := h g11
      obtain ⟨o12, h⟩ := h
      refine w_iald (x := (M6 119 (((M6 98 42) - 1).toNat))) dX11_bind_43 rfl o12 rfl (fun g13 => ?_)
      have h := h g13
      refine w_istore_n dX11_bind_44 (by decide) ?_
      refine w_iload_n dX11_bind_45 rfl ?_
      refine w_iconst dX11_bind_46 ?_
      refine w_icmp_ne dX11_bind_47 rfl ⟨g13, (by decide)⟩ (fun c => ?_) (fun c => ?_)
      · have h := h.1 c
        refine w_aload_n dX11_bind_54 rfl ?_
        refine k_vI (as := []) dX11_bind_55 kX11_307 ⟨⟨Nat.le_of_ble_eq_true rfl, rfl, rfl⟩, Nat.le_of_ble_eq_true rfl⟩ rfl (by decide) rfl (Nat.le_of_ble_eq_true rfl) h ?_
        intro r14 M15 h
        refine w_istore_n dX11_bind_58 (by decide) ?_
        refine w_aload_n dX11_bind_59 rfl ?_
        refine k_vI (as := []) dX11_bind_60 kX11_307 ⟨⟨Nat.le_of_ble_eq_true rfl, rfl, rfl⟩, Nat.le_of_ble_eq_true rfl⟩ rfl (by decide) rfl (Nat.le_of_ble_eq_true rfl) h ?_
        intro r16 M17 h
        refine w_istore dX11_bind_63 (by decide) ?_
        refine w_aload_n dX11_bind_65 rfl ?_
        refine w_iload_n dX11_bind_66 rfl ?_
        refine w_iload dX11_bind_67 rfl ?_
        refine w_iload_n dX11_bind_69 rfl ?_
        refine k_vV (as := [pI (M6 119 (((M6 98 42) - 1).toNat)), pI r16, pI r14]) dX11_bind_70 kX11_311 ⟨⟨Nat.le_of_ble_eq_true rfl, rfl, rfl⟩, Nat.le_of_ble_eq_true rfl⟩ rfl (by decide) rfl (Nat.le_of_ble_eq_true rfl) h ?_
        intro M19 h
        refine w_goto dX11_bind_73 rfl ?_
        exact k_pick [3, 4] rfl h
      · have h := h.2 c
        refine w_iconst dX11_bind_50 ?_
        refine w_goto dX11_bind_51 rfl ?_
        refine w_istore_n dX11_bind_58 (by decide) ?_
        refine w_aload_n dX11_bind_59 rfl ?_
        refine k_vI (as := []) dX11_bind_60 kX11_307 ⟨⟨Nat.le_of_ble_eq_true rfl, rfl, rfl⟩, Nat.le_of_ble_eq_true rfl⟩ rfl (by decide) rfl (Nat.le_of_ble_eq_true rfl) h ?_
        intro r20 M21 h
        refine w_istore dX11_bind_63 (by decide) ?_
        refine w_aload_n dX11_bind_65 rfl ?_
        refine w_iload_n dX11_bind_66 rfl ?_
        refine w_iload dX11_bind_67 rfl ?_
        refine w_iload_n dX11_bind_69 rfl ?_
        refine k_vV (as := [pI (M6 119 (((M6 98 42) - 1).toNat)), pI r20, pI (-1)]) dX11_bind_70 kX11_311 ⟨⟨Nat.le_of_ble_eq_true rfl, rfl, rfl⟩, Nat.le_of_ble_eq_true rfl⟩ rfl (by decide) rfl (Nat.le_of_ble_eq_true rfl) h ?_
        intro M23 h
        refine w_goto dX11_bind_73 rfl ?_
        exact k_pick [3, 4] rfl h
theorem vX11_isCounted_0 {E : Scr} {f : Int → Mem → Prop} {M : Mem} (h : ((iR (M 98 45)) → (((M 98 45) ≠ 64 → ((iR (M 98 45)) → (iR ((M 98 45) + 1)) ∧ f 1 (upM M 98 45 ((M 98 45) + 1)))) ∧ ((M 98 45) = 64 → (CI E mX11_wrong [pR 98, pI 2] M (fun r4 M5 => (zR r4) ∧ f r4 M5)))))) : CI E mX11_isCounted [pR 98] M f := by
  refine (show KW E mX11_isCounted (qI f) M 0 [(0, pR 98)] [] from ?_)
  refine w_aload_n dX11_isCounted_0 rfl ?_
  refine w_getI (x := (M 98 45)) dX11_isCounted_1 fX11_237 rfl rfl rfl (fun g1 => ?_)
  have h := h g1
  refine w_bipush dX11_isCounted_4 (by decide) ?_
  refine w_icmp_ne dX11_isCounted_6 rfl ⟨g1, (by decide)⟩ (fun c => ?_) (fun c => ?_)
  · have h := h.1 c
    refine w_aload_n dX11_isCounted_15 rfl ?_
    refine w_dup dX11_isCounted_16 rfl ?_
    refine w_getI (x := (M 98 45)) dX11_isCounted_17 fX11_237 rfl rfl rfl (fun g2 => ?_)
    have h := h g2
    refine w_iconst dX11_isCounted_20 ?_
    refine w_iadd dX11_isCounted_21 ?_
    obtain ⟨o3, h⟩ := h
    refine w_putI dX11_isCounted_22 (Or.inl ⟨rfl, fX11_237⟩) rfl rfl o3 ?_
    refine w_iconst dX11_isCounted_25 ?_
    exact k_zret dX11_isCounted_26 rfl (by decide) h
  · have h := h.2 c
    refine w_aload_n dX11_isCounted_9 rfl ?_
    refine w_iconst dX11_isCounted_10 ?_
    refine k_vI (as := [pI 2]) dX11_isCounted_11 kX11_202 ⟨⟨Nat.le_of_ble_eq_true rfl, rfl, rfl⟩, Nat.le_of_ble_eq_true rfl⟩ rfl (by decide) rfl (Nat.le_of_ble_eq_true rfl) h ?_
    intro r4 M5 h
    obtain ⟨o6, h⟩ := h
    exact k_zret dX11_isCounted_14 rfl o6 h
theorem vX11_waitsFor_0 {E : Scr} {f : Mem → Prop} {M : Mem} (x1 : Int) (h : ((iR (M 98 42)) → (0 ≤ (M 98 42) ∧ (M 98 42) < 96) ∧ (iR x1) ∧ ((iR (M 98 42)) → (iR ((M 98 42) + 1)) ∧ f (upM (upM M 119 ((M 98 42).toNat) x1) 98 42 ((M 98 42) + 1))))) : CV E mX11_waitsFor [pR 98, pI x1] M f := by
  refine (show KW E mX11_waitsFor (qV f) M 0 [(0, pR 98), (1, pI x1)] [] from ?_)
  refine w_aload_n dX11_waitsFor_0 rfl ?_
  refine w_getR dX11_waitsFor_1 fX11_75 rfl rfl rfl ?_
  refine w_aload_n dX11_waitsFor_4 rfl ?_
  refine w_getI (x := (M 98 42)) dX11_waitsFor_5 fX11_300 rfl rfl rfl (fun g1 => ?_)
  have h := h g1
  refine w_iload_n dX11_waitsFor_8 rfl ?_
  obtain ⟨o2, h⟩ := h
  obtain ⟨o3, h⟩ := h
  refine w_iast dX11_waitsFor_9 rfl o2 o3 ?_
  refine w_aload_n dX11_waitsFor_10 rfl ?_
  refine w_dup dX11_waitsFor_11 rfl ?_
  refine w_getI (x := (M 98 42)) dX11_waitsFor_12 fX11_300 rfl rfl rfl (fun g4 => ?_)
  have h := h g4
  refine w_iconst dX11_waitsFor_15 ?_
  refine w_iadd dX11_waitsFor_16 ?_
  obtain ⟨o5, h⟩ := h
  refine w_putI dX11_waitsFor_17 (Or.inl ⟨rfl, fX11_300⟩) rfl rfl o5 ?_
  exact k_vret dX11_waitsFor_20 rfl h
theorem vX11_nameMet_0 {E : Scr} {f : Int → Mem → Prop} {M : Mem} (h : ((iR (M 98 8)) → (((M 98 8) ≠ 1 → f (-1) M) ∧ ((M 98 8) = 1 → ((iR (M 98 9)) → (((M 98 9) < 17 → f (-1) M) ∧ ((M 98 9) ≥ 17 → ((iR (M 98 9)) → f ((M 98 9) - 17) M)))))))) : CI E mX11_nameMet [pR 98] M f := by
  refine (show KW E mX11_nameMet (qI f) M 0 [(0, pR 98)] [] from ?_)
  refine w_aload_n dX11_nameMet_0 rfl ?_
  refine w_getI (x := (M 98 8)) dX11_nameMet_1 fX11_178 rfl rfl rfl (fun g1 => ?_)
  have h := h g1
  refine w_iconst dX11_nameMet_4 ?_
  refine w_icmp_ne dX11_nameMet_5 rfl ⟨g1, (by decide)⟩ (fun c => ?_) (fun c => ?_)
  · have h := h.1 c
    refine w_iconst dX11_nameMet_27 ?_
    exact k_iret dX11_nameMet_28 rfl h
  · have h := h.2 c
    refine w_aload_n dX11_nameMet_8 rfl ?_
    refine w_getI (x := (M 98 9)) dX11_nameMet_9 fX11_189 rfl rfl rfl (fun g2 => ?_)
    have h := h g2
    refine w_bipush dX11_nameMet_12 (by decide) ?_
    refine w_icmp_lt dX11_nameMet_14 rfl ⟨g2, (by decide)⟩ (fun c => ?_) (fun c => ?_)
    · have h := h.1 c
      refine w_iconst dX11_nameMet_27 ?_
      exact k_iret dX11_nameMet_28 rfl h
    · have h := h.2 c
      refine w_aload_n dX11_nameMet_17 rfl ?_
      refine w_getI (x := (M 98 9)) dX11_nameMet_18 fX11_189 rfl rfl rfl (fun g3 => ?_)
      have h := h g3
      refine w_bipush dX11_nameMet_21 (by decide) ?_
      refine w_isub dX11_nameMet_23 ?_
      refine w_goto dX11_nameMet_24 rfl ?_
      exact k_iret dX11_nameMet_28 rfl h
theorem vX11_leafRead_0 {E : Scr} {f : Int → Mem → Prop} {M : Mem} (h : (CI E mX11_isSign [pR 98, pI 40] M (fun r1 M2 => (iR r1) ∧ ((r1 = 0 → (CI E mX11_isKey [pR 98, pI 16] M2 (fun r4 M5 => (iR r4) ∧ ((r4 = 0 → (CI E mX11_nameMet [pR 98] M5 (fun r7 M8 => (iR r7) ∧ ((r7 ≥ 0 → (KW E mX11_leafRead (qI f) M8 109 [(0, pR 98), (1, pI r7)] [])) ∧ (r7 < 0 → ((iR (M8 98 8)) → (((M8 98 8) = 3 → (KW E mX11_leafRead (qI f) M8 109 [(0, pR 98), (1, pI r7)] [])) ∧ ((M8 98 8) ≠ 3 → (CI E mX11_wrong [pR 98, pI 1] M8 (fun r11 M12 => (zR r11) ∧ f r11 M12)))))))))) ∧ (r4 ≠ 0 → ((zR (M5 98 47)) → (((M5 98 47) = 0 → (CI E mX11_nameMet [pR 98] M5 (fun r15 M16 => (iR r15) ∧ ((r15 ≥ 0 → (KW E mX11_leafRead (qI f) M16 109 [(0, pR 98), (1, pI r15)] [])) ∧ (r15 < 0 → ((iR (M16 98 8)) → (((M16 98 8) = 3 → (KW E mX11_leafRead (qI f) M16 109 [(0, pR 98), (1, pI r15)] [])) ∧ ((M16 98 8) ≠ 3 → (CI E mX11_wrong [pR 98, pI 1] M16 (fun r19 M20 => (zR r19) ∧ f r19 M20)))))))))) ∧ ((M5 98 47) ≠ 0 → (CI E mX11_isCounted [pR 98] M5 (fun r22 M23 => (iR r22) ∧ ((r22 ≠ 0 → (CV E mX11_waitsFor [pR 98, pI 2] M23 (fun M26 => (CV E mX11_token [pR 98] M26 (fun M28 => f 1 M28))))) ∧ (r22 = 0 → f 0 M23)))))))))))) ∧ (r1 ≠ 0 → ((iR (M2 98 44)) → (((M2 98 44) ≠ 8 → ((iR (M2 98 44)) → (iR ((M2 98 44) + 1)) ∧ (CV E mX11_waitsFor [pR 98, pI 0] (upM M2 98 44 ((M2 98 44) + 1)) (fun M33 => (CV E mX11_token [pR 98] (upM M33 98 47 1) (fun M35 => f 1 M35)))))) ∧ ((M2 98 44) = 8 → (CI E mX11_wrong [pR 98, pI 2] M2 (fun r36 M37 => (zR r36) ∧ f r36 M37)))))))))) : CI E mX11_leafRead [pR 98] M f := by
  refine (show KW E mX11_leafRead (qI f) M 0 [(0, pR 98)] [] from ?_)
  refine w_aload_n dX11_leafRead_0 rfl ?_
  refine w_bipush dX11_leafRead_1 (by decide) ?_
  refine k_vI (as := [pI 40]) dX11_leafRead_3 kX11_215 ⟨⟨Nat.le_of_ble_eq_true rfl, rfl, rfl⟩, Nat.le_of_ble_eq_true rfl⟩ rfl (by decide) rfl (Nat.le_of_ble_eq_true rfl) h ?_
  intro r1 M2 h
  obtain ⟨o3, h⟩ := h
  refine w_if_eq dX11_leafRead_6 rfl o3 (fun c => ?_) (fun c => ?_)
  · have h := h.1 c
    refine w_aload_n dX11_leafRead_50 rfl ?_
    refine w_bipush dX11_leafRead_51 (by decide) ?_
    refine k_vI (as := [pI 16]) dX11_leafRead_53 kX11_326 ⟨⟨Nat.le_of_ble_eq_true rfl, rfl, rfl⟩, Nat.le_of_ble_eq_true rfl⟩ rfl (by decide) rfl (Nat.le_of_ble_eq_true rfl) h ?_
    intro r4 M5 h
    obtain ⟨o6, h⟩ := h
    refine w_if_eq dX11_leafRead_56 rfl o6 (fun c => ?_) (fun c => ?_)
    · have h := h.1 c
      refine w_aload_n dX11_leafRead_86 rfl ?_
      refine k_vI (as := []) dX11_leafRead_87 kX11_332 ⟨⟨Nat.le_of_ble_eq_true rfl, rfl, rfl⟩, Nat.le_of_ble_eq_true rfl⟩ rfl (by decide) rfl (Nat.le_of_ble_eq_true rfl) h ?_
      intro r7 M8 h
      refine w_istore_n dX11_leafRead_90 (by decide) ?_
      refine w_iload_n dX11_leafRead_91 rfl ?_
      obtain ⟨o9, h⟩ := h
      refine w_if_ge dX11_leafRead_92 rfl o9 (fun c => ?_) (fun c => ?_)
      · have h := h.1 c
        exact k_pick [1, 0] rfl h
      · have h := h.2 c
        refine w_aload_n dX11_leafRead_95 rfl ?_
        refine w_getI (x := (M8 98 8)) dX11_leafRead_96 fX11_178 rfl rfl rfl (fun g10 => ?_)
        have h := h g10
        refine w_iconst dX11_leafRead_99 ?_
        refine w_icmp_eq dX11_leafRead_100 rfl ⟨g10, (by decide)⟩ (fun c => ?_) (fun c => ?_)
        · have h := h.1 c
          exact k_pick [1, 0] rfl h
        · have h := h.2 c
          refine w_aload_n dX11_leafRead_103 rfl ?_
          refine w_iconst dX11_leafRead_104 ?_
          refine k_vI (as := [pI 1]) dX11_leafRead_105 kX11_202 ⟨⟨Nat.le_of_ble_eq_true rfl, rfl, rfl⟩, Nat.le_of_ble_eq_true rfl⟩ rfl (by decide) rfl (Nat.le_of_ble_eq_true rfl) h ?_
          intro r11 M12 h
          obtain ⟨o13, h⟩ := h
          exact k_zret dX11_leafRead_108 rfl o13 h
    · have h := h.2 c
      refine w_aload_n dX11_leafRead_59 rfl ?_
      refine w_getZ (x := (M5 98 47)) dX11_leafRead_60 fX11_322 rfl rfl rfl (fun g14 => ?_)
      have h := h g14
      refine w_if_eq dX11_leafRead_63 rfl (z2i g14) (fun c => ?_) (fun c => ?_)
      · have h := h.1 c
        refine w_aload_n dX11_leafRead_86 rfl ?_
        refine k_vI (as := []) dX11_leafRead_87 kX11_332 ⟨⟨Nat.le_of_ble_eq_true rfl, rfl, rfl⟩, Nat.le_of_ble_eq_true rfl⟩ rfl (by decide) rfl (Nat.le_of_ble_eq_true rfl) h ?_
        intro r15 M16 h
        refine w_istore_n dX11_leafRead_90 (by decide) ?_
        refine w_iload_n dX11_leafRead_91 rfl ?_
        obtain ⟨o17, h⟩ := h
        refine w_if_ge dX11_leafRead_92 rfl o17 (fun c => ?_) (fun c => ?_)
        · have h := h.1 c
          exact k_pick [1, 0] rfl h
        · have h := h.2 c
          refine w_aload_n dX11_leafRead_95 rfl ?_
          refine w_getI (x := (M16 98 8)) dX11_leafRead_96 fX11_178 rfl rfl rfl (fun g18 => ?_)
          have h := h g18
          refine w_iconst dX11_leafRead_99 ?_
          refine w_icmp_eq dX11_leafRead_100 rfl ⟨g18, (by decide)⟩ (fun c => ?_) (fun c => ?_)
          · have h := h.1 c
            exact k_pick [1, 0] rfl h
          · have h := h.2 c
            refine w_aload_n dX11_leafRead_103 rfl ?_
            refine w_iconst dX11_leafRead_104 ?_
            refine k_vI (as := [pI 1]) dX11_leafRead_105 kX11_202 ⟨⟨Nat.le_of_ble_eq_true rfl, rfl, rfl⟩, Nat.le_of_ble_eq_true rfl⟩ rfl (by decide) rfl (Nat.le_of_ble_eq_true rfl) h ?_
            intro r19 M20 h
            obtain ⟨o21, h⟩ := h
            exact k_zret dX11_leafRead_108 rfl o21 h
      · have h := h.2 c
        refine w_aload_n dX11_leafRead_66 rfl ?_
        refine k_vI (as := []) dX11_leafRead_67 kX11_329 ⟨⟨Nat.le_of_ble_eq_true rfl, rfl, rfl⟩, Nat.le_of_ble_eq_true rfl⟩ rfl (by decide) rfl (Nat.le_of_ble_eq_true rfl) h ?_
        intro r22 M23 h
        obtain ⟨o24, h⟩ := h
        refine w_if_ne dX11_leafRead_70 rfl o24 (fun c => ?_) (fun c => ?_)
        · have h := h.1 c
          refine w_aload_n dX11_leafRead_75 rfl ?_
          refine w_iconst dX11_leafRead_76 ?_
          refine k_vV (as := [pI 2]) dX11_leafRead_77 kX11_318 ⟨⟨Nat.le_of_ble_eq_true rfl, rfl, rfl⟩, Nat.le_of_ble_eq_true rfl⟩ rfl (by decide) rfl (Nat.le_of_ble_eq_true rfl) h ?_
          intro M26 h
          refine w_aload_n dX11_leafRead_80 rfl ?_
          refine k_vV (as := []) dX11_leafRead_81 kX11_212 ⟨⟨Nat.le_of_ble_eq_true rfl, rfl, rfl⟩, Nat.le_of_ble_eq_true rfl⟩ rfl (by decide) rfl (Nat.le_of_ble_eq_true rfl) h ?_
          intro M28 h
          refine w_iconst dX11_leafRead_84 ?_
          exact k_zret dX11_leafRead_85 rfl (by decide) h
        · have h := h.2 c
          refine w_iconst dX11_leafRead_73 ?_
          exact k_zret dX11_leafRead_74 rfl (by decide) h
  · have h := h.2 c
    refine w_aload_n dX11_leafRead_9 rfl ?_
    refine w_getI (x := (M2 98 44)) dX11_leafRead_10 fX11_315 rfl rfl rfl (fun g29 => ?_)
    have h := h g29
    refine w_bipush dX11_leafRead_13 (by decide) ?_
    refine w_icmp_ne dX11_leafRead_15 rfl ⟨g29, (by decide)⟩ (fun c => ?_) (fun c => ?_)
    · have h := h.1 c
      refine w_aload_n dX11_leafRead_24 rfl ?_
      refine w_dup dX11_leafRead_25 rfl ?_
      refine w_getI (x := (M2 98 44)) dX11_leafRead_26 fX11_315 rfl rfl rfl (fun g30 => ?_)
      have h := h g30
      refine w_iconst dX11_leafRead_29 ?_
      refine w_iadd dX11_leafRead_30 ?_
      obtain ⟨o31, h⟩ := h
      refine w_putI dX11_leafRead_31 (Or.inl ⟨rfl, fX11_315⟩) rfl rfl o31 ?_
      refine w_aload_n dX11_leafRead_34 rfl ?_
      refine w_iconst dX11_leafRead_35 ?_
      refine k_vV (as := [pI 0]) dX11_leafRead_36 kX11_318 ⟨⟨Nat.le_of_ble_eq_true rfl, rfl, rfl⟩, Nat.le_of_ble_eq_true rfl⟩ rfl (by decide) rfl (Nat.le_of_ble_eq_true rfl) h ?_
      intro M33 h
      refine w_aload_n dX11_leafRead_39 rfl ?_
      refine w_iconst dX11_leafRead_40 ?_
      refine w_putZ dX11_leafRead_41 (Or.inl ⟨rfl, fX11_322⟩) rfl rfl (by decide) ?_
      refine w_aload_n dX11_leafRead_44 rfl ?_
      refine k_vV (as := []) dX11_leafRead_45 kX11_212 ⟨⟨Nat.le_of_ble_eq_true rfl, rfl, rfl⟩, Nat.le_of_ble_eq_true rfl⟩ rfl (by decide) rfl (Nat.le_of_ble_eq_true rfl) h ?_
      intro M35 h
      refine w_iconst dX11_leafRead_48 ?_
      exact k_zret dX11_leafRead_49 rfl (by decide) h
    · have h := h.2 c
      refine w_aload_n dX11_leafRead_18 rfl ?_
      refine w_iconst dX11_leafRead_19 ?_
      refine k_vI (as := [pI 2]) dX11_leafRead_20 kX11_202 ⟨⟨Nat.le_of_ble_eq_true rfl, rfl, rfl⟩, Nat.le_of_ble_eq_true rfl⟩ rfl (by decide) rfl (Nat.le_of_ble_eq_true rfl) h ?_
      intro r36 M37 h
      obtain ⟨o38, h⟩ := h
      exact k_zret dX11_leafRead_23 rfl o38 h
theorem vX11_leafRead_109 {E : Scr} {f : Int → Mem → Prop} {M : Mem} (x1 : Int) (h : (iR x1) ∧ ((x1 ≥ 0 → (CI E mX11_isCounted [pR 98] M (fun r2 M3 => (iR r2) ∧ ((r2 ≠ 0 → (iR x1) ∧ ((x1 < 0 → (KW E mX11_leafRead (qI f) M3 148 [(0, pR 98), (1, pI x1)] [pI 0, pR 98])) ∧ (x1 ≥ 0 → (KW E mX11_leafRead (qI f) M3 148 [(0, pR 98), (1, pI x1)] [pI 1, pR 98])))) ∧ (r2 = 0 → f 0 M3))))) ∧ (x1 < 0 → ((iR (M 98 9)) → (((M 98 9) ≤ 9999 → (CI E mX11_isCounted [pR 98] M (fun r7 M8 => (iR r7) ∧ ((r7 ≠ 0 → (iR x1) ∧ ((x1 < 0 → (KW E mX11_leafRead (qI f) M8 148 [(0, pR 98), (1, pI x1)] [pI 0, pR 98])) ∧ (x1 ≥ 0 → (KW E mX11_leafRead (qI f) M8 148 [(0, pR 98), (1, pI x1)] [pI 1, pR 98])))) ∧ (r7 = 0 → f 0 M8))))) ∧ ((M 98 9) > 9999 → (CI E mX11_wrong [pR 98, pI 2] M (fun r11 M12 => (zR r11) ∧ f r11 M12)))))))) : KW E mX11_leafRead (qI f) M 109 [(0, pR 98), (1, pI x1)] [] := by
  refine w_iload_n dX11_leafRead_109 rfl ?_
  obtain ⟨o1, h⟩ := h
  refine w_if_ge dX11_leafRead_110 rfl o1 (fun c => ?_) (fun c => ?_)
  · have h := h.1 c
    refine w_aload_n dX11_leafRead_129 rfl ?_
    refine k_vI (as := []) dX11_leafRead_130 kX11_329 ⟨⟨Nat.le_of_ble_eq_true rfl, rfl, rfl⟩, Nat.le_of_ble_eq_true rfl⟩ rfl (by decide) rfl (Nat.le_of_ble_eq_true rfl) h ?_
    intro r2 M3 h
    obtain ⟨o4, h⟩ := h
    refine w_if_ne dX11_leafRead_133 rfl o4 (fun c => ?_) (fun c => ?_)
    · have h := h.1 c
      refine w_aload_n dX11_leafRead_138 rfl ?_
      refine w_iload_n dX11_leafRead_139 rfl ?_
      obtain ⟨o5, h⟩ := h
      refine w_if_lt dX11_leafRead_140 rfl o5 (fun c => ?_) (fun c => ?_)
      · have h := h.1 c
        refine w_iconst dX11_leafRead_147 ?_
        exact k_pick [0, 1] rfl h
      · have h := h.2 c
        refine w_iconst dX11_leafRead_143 ?_
        refine w_goto dX11_leafRead_144 rfl ?_
        exact k_pick [0, 1] rfl h
    · have h := h.2 c
      refine w_iconst dX11_leafRead_136 ?_
      exact k_zret dX11_leafRead_137 rfl (by decide) h
  · have h := h.2 c
    refine w_aload_n dX11_leafRead_113 rfl ?_
    refine w_getI (x := (M 98 9)) dX11_leafRead_114 fX11_189 rfl rfl rfl (fun g6 => ?_)
    have h := h g6
    refine w_sipush dX11_leafRead_117 (by decide) ?_
    refine w_icmp_le dX11_leafRead_120 rfl ⟨g6, (by decide)⟩ (fun c => ?_) (fun c => ?_)
    · have h := h.1 c
      refine w_aload_n dX11_leafRead_129 rfl ?_
      refine k_vI (as := []) dX11_leafRead_130 kX11_329 ⟨⟨Nat.le_of_ble_eq_true rfl, rfl, rfl⟩, Nat.le_of_ble_eq_true rfl⟩ rfl (by decide) rfl (Nat.le_of_ble_eq_true rfl) h ?_
      intro r7 M8 h
      obtain ⟨o9, h⟩ := h
      refine w_if_ne dX11_leafRead_133 rfl o9 (fun c => ?_) (fun c => ?_)
      · have h := h.1 c
        refine w_aload_n dX11_leafRead_138 rfl ?_
        refine w_iload_n dX11_leafRead_139 rfl ?_
        obtain ⟨o10, h⟩ := h
        refine w_if_lt dX11_leafRead_140 rfl o10 (fun c => ?_) (fun c => ?_)
        · have h := h.1 c
          refine w_iconst dX11_leafRead_147 ?_
          exact k_pick [0, 1] rfl h
        · have h := h.2 c
          refine w_iconst dX11_leafRead_143 ?_
          refine w_goto dX11_leafRead_144 rfl ?_
          exact k_pick [0, 1] rfl h
      · have h := h.2 c
        refine w_iconst dX11_leafRead_136 ?_
        exact k_zret dX11_leafRead_137 rfl (by decide) h
    · have h := h.2 c
      refine w_aload_n dX11_leafRead_123 rfl ?_
      refine w_iconst dX11_leafRead_124 ?_
      refine k_vI (as := [pI 2]) dX11_leafRead_125 kX11_202 ⟨⟨Nat.le_of_ble_eq_true rfl, rfl, rfl⟩, Nat.le_of_ble_eq_true rfl⟩ rfl (by decide) rfl (Nat.le_of_ble_eq_true rfl) h ?_
      intro r11 M12 h
      obtain ⟨o13, h⟩ := h
      exact k_zret dX11_leafRead_128 rfl o13 h
theorem vX11_leafRead_148 {E : Scr} {f : Int → Mem → Prop} {M : Mem} (x1 s0 : Int) (h : (iR x1) ∧ ((x1 < 0 → ((iR (M 98 9)) → (CV E mX11_grown [pR 98, pI s0, pI (M 98 9), pI 0] M (fun M4 => (CV E mX11_token [pR 98] (upM M4 98 46 0) (fun M6 => f 1 M6)))))) ∧ (x1 ≥ 0 → (CV E mX11_grown [pR 98, pI s0, pI x1, pI 0] M (fun M8 => (CV E mX11_token [pR 98] (upM M8 98 46 0) (fun M10 => f 1 M10))))))) : KW E mX11_leafRead (qI f) M 148 [(0, pR 98), (1, pI x1)] [pI s0, pR 98] := by
  refine w_iload_n dX11_leafRead_148 rfl ?_
  obtain ⟨o1, h⟩ := h
  refine w_if_lt dX11_leafRead_149 rfl o1 (fun c => ?_) (fun c => ?_)
  · have h := h.1 c
    refine w_aload_n dX11_leafRead_156 rfl ?_
    refine w_getI (x := (M 98 9)) dX11_leafRead_157 fX11_189 rfl rfl rfl (fun g2 => ?_)
    have h := h g2
    refine w_iconst dX11_leafRead_160 ?_
    refine k_vV (as := [pI s0, pI (M 98 9), pI 0]) dX11_leafRead_161 kX11_311 ⟨⟨Nat.le_of_ble_eq_true rfl, rfl, rfl⟩, Nat.le_of_ble_eq_true rfl⟩ rfl (by decide) rfl (Nat.le_of_ble_eq_true rfl) h ?_
    intro M4 h
    refine w_aload_n dX11_leafRead_164 rfl ?_
    refine w_iconst dX11_leafRead_165 ?_
    refine w_putZ dX11_leafRead_166 (Or.inl ⟨rfl, fX11_335⟩) rfl rfl (by decide) ?_
    refine w_aload_n dX11_leafRead_169 rfl ?_
    refine k_vV (as := []) dX11_leafRead_170 kX11_212 ⟨⟨Nat.le_of_ble_eq_true rfl, rfl, rfl⟩, Nat.le_of_ble_eq_true rfl⟩ rfl (by decide) rfl (Nat.le_of_ble_eq_true rfl) h ?_
    intro M6 h
    refine w_iconst dX11_leafRead_173 ?_
    exact k_zret dX11_leafRead_174 rfl (by decide) h
  · have h := h.2 c
    refine w_iload_n dX11_leafRead_152 rfl ?_
    refine w_goto dX11_leafRead_153 rfl ?_
    refine w_iconst dX11_leafRead_160 ?_
    refine k_vV (as := [pI s0, pI x1, pI 0]) dX11_leafRead_161 kX11_311 ⟨⟨Nat.le_of_ble_eq_true rfl, rfl, rfl⟩, Nat.le_of_ble_eq_true rfl⟩ rfl (by decide) rfl (Nat.le_of_ble_eq_true rfl) h ?_
    intro M8 h
    refine w_aload_n dX11_leafRead_164 rfl ?_
    refine w_iconst dX11_leafRead_165 ?_
    refine w_putZ dX11_leafRead_166 (Or.inl ⟨rfl, fX11_335⟩) rfl rfl (by decide) ?_
    refine w_aload_n dX11_leafRead_169 rfl ?_
    refine k_vV (as := []) dX11_leafRead_170 kX11_212 ⟨⟨Nat.le_of_ble_eq_true rfl, rfl, rfl⟩, Nat.le_of_ble_eq_true rfl⟩ rfl (by decide) rfl (Nat.le_of_ble_eq_true rfl) h ?_
    intro M10 h
    refine w_iconst dX11_leafRead_173 ?_
    exact k_zret dX11_leafRead_174 rfl (by decide) h
theorem vX11_signs_0 {E : Scr} {f : Int → Mem → Prop} {M : Mem} (h : (CI E mX11_isSign [pR 98, pI 41] M (fun r1 M2 => (iR r1) ∧ ((r1 = 0 → (KW E mX11_signs (qI f) M2 47 [(0, pR 98)] [])) ∧ (r1 ≠ 0 → ((iR (M2 98 44)) → (((M2 98 44) ≤ 0 → (KW E mX11_signs (qI f) M2 47 [(0, pR 98)] [])) ∧ ((M2 98 44) > 0 → (CV E mX11_bind [pR 98, pI 1] M2 (fun M6 => ((iR (M6 98 42)) → (iR ((M6 98 42) - 1)) ∧ ((iR (M6 98 44)) → (iR ((M6 98 44) - 1)) ∧ (CV E mX11_token [pR 98] (upM (upM M6 98 42 ((M6 98 42) - 1)) 98 44 ((M6 98 44) - 1)) (fun M12 => f 1 M12)))))))))))))) : CI E mX11_signs [pR 98] M f := by
  refine (show KW E mX11_signs (qI f) M 0 [(0, pR 98)] [] from ?_)
  refine w_aload_n dX11_signs_0 rfl ?_
  refine w_bipush dX11_signs_1 (by decide) ?_
  refine k_vI (as := [pI 41]) dX11_signs_3 kX11_215 ⟨⟨Nat.le_of_ble_eq_true rfl, rfl, rfl⟩, Nat.le_of_ble_eq_true rfl⟩ rfl (by decide) rfl (Nat.le_of_ble_eq_true rfl) h ?_
  intro r1 M2 h
  obtain ⟨o3, h⟩ := h
  refine w_if_eq dX11_signs_6 rfl o3 (fun c => ?_) (fun c => ?_)
  · have h := h.1 c
    exact k_pick [0] rfl h
  · have h := h.2 c
    refine w_aload_n dX11_signs_9 rfl ?_
    refine w_getI (x := (M2 98 44)) dX11_signs_10 fX11_315 rfl rfl rfl (fun g4 => ?_)
    have h := h g4
    refine w_if_le dX11_signs_13 rfl g4 (fun c => ?_) (fun c => ?_)
    · have h := h.1 c
      exact k_pick [0] rfl h
    · have h := h.2 c
      refine w_aload_n dX11_signs_16 rfl ?_
      refine w_iconst dX11_signs_17 ?_
      refine k_vV (as := [pI 1]) dX11_signs_18 kX11_338 ⟨⟨Nat.le_of_ble_eq_true rfl, rfl, rfl⟩, Nat.le_of_ble_eq_true rfl⟩ rfl (by decide) rfl (Nat.le_of_ble_eq_true rfl) h ?_
      intro M6 h
      refine w_aload_n dX11_signs_21 rfl ?_
      refine w_dup dX11_signs_22 rfl ?_
      refine w_getI (x := (M6 98 42)) dX11_signs_23 fX11_300 rfl rfl rfl (fun g7 => ?_)
      have h := h g7
      refine w_iconst dX11_signs_26 ?_
      refine w_isub dX11_signs_27 ?_
      obtain ⟨o8, h⟩ := h
      refine w_putI dX11_signs_28 (Or.inl ⟨rfl, fX11_300⟩) rfl rfl o8 ?_
      refine w_aload_n dX11_signs_31 rfl ?_
      refine w_dup dX11_signs_32 rfl ?_
      refine w_getI (x := (M6 98 44)) dX11_signs_33 fX11_315 rfl rfl rfl (fun g9 => ?_)
      have h := h g9
      refine w_iconst dX11_signs_36 ?_
      refine w_isub dX11_signs_37 ?_
      obtain ⟨o10, h⟩ := h
      refine w_putI dX11_signs_38 (Or.inl ⟨rfl, fX11_315⟩) rfl rfl o10 ?_
      refine w_aload_n dX11_signs_41 rfl ?_
      refine k_vV (as := []) dX11_signs_42 kX11_212 ⟨⟨Nat.le_of_ble_eq_true rfl, rfl, rfl⟩, Nat.le_of_ble_eq_true rfl⟩ rfl (by decide) rfl (Nat.le_of_ble_eq_true rfl) h ?_
      intro M12 h
      refine w_iconst dX11_signs_45 ?_
      exact k_zret dX11_signs_46 rfl (by decide) h
theorem vX11_signs_47 {E : Scr} {f : Int → Mem → Prop} {M : Mem} (h : (CI E mX11_isKey [pR 98, pI 14] M (fun r1 M2 => (iR r1) ∧ ((r1 = 0 → (CI E mX11_isKey [pR 98, pI 15] M2 (fun r4 M5 => (iR r4) ∧ ((r4 = 0 → ((iR (M5 98 8)) → (((M5 98 8) ≠ 5 → (CI E mX11_isSign [pR 98, pI 43] M5 (fun r8 M9 => (iR r8) ∧ ((r8 = 0 → (CI E mX11_isSign [pR 98, pI 45] M9 (fun r11 M12 => (iR r11) ∧ ((r11 = 0 → (CI E mX11_isSign [pR 98, pI 42] M12 (fun r14 M15 => (iR r14) ∧ ((r14 = 0 → (CI E mX11_isSign [pR 98, pI 47] M15 (fun r17 M18 => (iR r17) ∧ ((r17 = 0 → (KW E mX11_signs (qI f) M18 147 [(0, pR 98)] [pI 0])) ∧ (r17 ≠ 0 → (KW E mX11_signs (qI f) M18 147 [(0, pR 98)] [pI 14])))))) ∧ (r14 ≠ 0 → (KW E mX11_signs (qI f) M15 147 [(0, pR 98)] [pI 13])))))) ∧ (r11 ≠ 0 → (KW E mX11_signs (qI f) M12 147 [(0, pR 98)] [pI 12])))))) ∧ (r8 ≠ 0 → (KW E mX11_signs (qI f) M9 147 [(0, pR 98)] [pI 11])))))) ∧ ((M5 98 8) = 5 → ((iR (M5 98 9)) → (KW E mX11_signs (qI f) M5 147 [(0, pR 98)] [pI (5 + (M5 98 9))])))))) ∧ (r4 ≠ 0 → (KW E mX11_signs (qI f) M5 147 [(0, pR 98)] [pI 4])))))) ∧ (r1 ≠ 0 → (KW E mX11_signs (qI f) M2 147 [(0, pR 98)] [pI 3])))))) : KW E mX11_signs (qI f) M 47 [(0, pR 98)] [] := by
  refine w_aload_n dX11_signs_47 rfl ?_
  refine w_bipush dX11_signs_48 (by decide) ?_
  refine k_vI (as := [pI 14]) dX11_signs_50 kX11_326 ⟨⟨Nat.le_of_ble_eq_true rfl, rfl, rfl⟩, Nat.le_of_ble_eq_true rfl⟩ rfl (by decide) rfl (Nat.le_of_ble_eq_true rfl) h ?_
  intro r1 M2 h
  obtain ⟨o3, h⟩ := h
  refine w_if_eq dX11_signs_53 rfl o3 (fun c => ?_) (fun c => ?_)
  · have h := h.1 c
    refine w_aload_n dX11_signs_60 rfl ?_
    refine w_bipush dX11_signs_61 (by decide) ?_
    refine k_vI (as := [pI 15]) dX11_signs_63 kX11_326 ⟨⟨Nat.le_of_ble_eq_true rfl, rfl, rfl⟩, Nat.le_of_ble_eq_true rfl⟩ rfl (by decide) rfl (Nat.le_of_ble_eq_true rfl) h ?_
    intro r4 M5 h
    obtain ⟨o6, h⟩ := h
    refine w_if_eq dX11_signs_66 rfl o6 (fun c => ?_) (fun c => ?_)
    · have h := h.1 c
      refine w_aload_n dX11_signs_73 rfl ?_
      refine w_getI (x := (M5 98 8)) dX11_signs_74 fX11_178 rfl rfl rfl (fun g7 => ?_)
      have h := h g7
      refine w_iconst dX11_signs_77 ?_
      refine w_icmp_ne dX11_signs_78 rfl ⟨g7, (by decide)⟩ (fun c => ?_) (fun c => ?_)
      · have h := h.1 c
        refine w_aload_n dX11_signs_90 rfl ?_
        refine w_bipush dX11_signs_91 (by decide) ?_
        refine k_vI (as := [pI 43]) dX11_signs_93 kX11_215 ⟨⟨Nat.le_of_ble_eq_true rfl, rfl, rfl⟩, Nat.le_of_ble_eq_true rfl⟩ rfl (by decide) rfl (Nat.le_of_ble_eq_true rfl) h ?_
        intro r8 M9 h
        obtain ⟨o10, h⟩ := h
        refine w_if_eq dX11_signs_96 rfl o10 (fun c => ?_) (fun c => ?_)
        · have h := h.1 c
          refine w_aload_n dX11_signs_104 rfl ?_
          refine w_bipush dX11_signs_105 (by decide) ?_
          refine k_vI (as := [pI 45]) dX11_signs_107 kX11_215 ⟨⟨Nat.le_of_ble_eq_true rfl, rfl, rfl⟩, Nat.le_of_ble_eq_true rfl⟩ rfl (by decide) rfl (Nat.le_of_ble_eq_true rfl) h ?_
          intro r11 M12 h
          obtain ⟨o13, h⟩ := h
          refine w_if_eq dX11_signs_110 rfl o13 (fun c => ?_) (fun c => ?_)
          · have h := h.1 c
            refine w_aload_n dX11_signs_118 rfl ?_
            refine w_bipush dX11_signs_119 (by decide) ?_
            refine k_vI (as := [pI 42]) dX11_signs_121 kX11_215 ⟨⟨Nat.le_of_ble_eq_true rfl, rfl, rfl⟩, Nat.le_of_ble_eq_true rfl⟩ rfl (by decide) rfl (Nat.le_of_ble_eq_true rfl) h ?_
            intro r14 M15 h
            obtain ⟨o16, h⟩ := h
            refine w_if_eq dX11_signs_124 rfl o16 (fun c => ?_) (fun c => ?_)
            · have h := h.1 c
              refine w_aload_n dX11_signs_132 rfl ?_
              refine w_bipush dX11_signs_133 (by decide) ?_
              refine k_vI (as := [pI 47]) dX11_signs_135 kX11_215 ⟨⟨Nat.le_of_ble_eq_true rfl, rfl, rfl⟩, Nat.le_of_ble_eq_true rfl⟩ rfl (by decide) rfl (Nat.le_of_ble_eq_true rfl) h ?_
              intro r17 M18 h
              obtain ⟨o19, h⟩ := h
              refine w_if_eq dX11_signs_138 rfl o19 (fun c => ?_) (fun c => ?_)
              · have h := h.1 c
                refine w_iconst dX11_signs_146 ?_
                exact k_pick [0] rfl h
              · have h := h.2 c
                refine w_bipush dX11_signs_141 (by decide) ?_
                refine w_goto dX11_signs_143 rfl ?_
                exact k_pick [0] rfl h
            · have h := h.2 c
              refine w_bipush dX11_signs_127 (by decide) ?_
              refine w_goto dX11_signs_129 rfl ?_
              exact k_pick [0] rfl h
          · have h := h.2 c
            refine w_bipush dX11_signs_113 (by decide) ?_
            refine w_goto dX11_signs_115 rfl ?_
            exact k_pick [0] rfl h
        · have h := h.2 c
          refine w_bipush dX11_signs_99 (by decide) ?_
          refine w_goto dX11_signs_101 rfl ?_
          exact k_pick [0] rfl h
      · have h := h.2 c
        refine w_iconst dX11_signs_81 ?_
        refine w_aload_n dX11_signs_82 rfl ?_
        refine w_getI (x := (M5 98 9)) dX11_signs_83 fX11_189 rfl rfl rfl (fun g20 => ?_)
        have h := h g20
        refine w_iadd dX11_signs_86 ?_
        refine w_goto dX11_signs_87 rfl ?_
        exact k_pick [0] rfl h
    · have h := h.2 c
      refine w_iconst dX11_signs_69 ?_
      refine w_goto dX11_signs_70 rfl ?_
      exact k_pick [0] rfl h
  · have h := h.2 c
    refine w_iconst dX11_signs_56 ?_
    refine w_goto dX11_signs_57 rfl ?_
    exact k_pick [0] rfl h
theorem vX11_signs_147 {E : Scr} {f : Int → Mem → Prop} {M : Mem} (s0 : Int) (h : (iR s0) ∧ ((s0 ≠ 0 → (CI E mX11_standing [pI s0] M (fun r2 M3 => (iR r2) ∧ ((r2 ≠ 4 → (CI E mX11_standing [pI s0] M3 (fun r5 M6 => (KW E mX11_signs (qI f) M6 175 [(0, pR 98), (1, pI s0)] [pI r5, pR 98])))) ∧ (r2 = 4 → (KW E mX11_signs (qI f) M3 175 [(0, pR 98), (1, pI s0)] [pI 5, pR 98])))))) ∧ (s0 = 0 → (CI E mX11_wrong [pR 98, pI 1] M (fun r7 M8 => (zR r7) ∧ f r7 M8))))) : KW E mX11_signs (qI f) M 147 [(0, pR 98)] [pI s0] := by
  refine w_istore_n dX11_signs_147 (by decide) ?_
  refine w_iload_n dX11_signs_148 rfl ?_
  obtain ⟨o1, h⟩ := h
  refine w_if_ne dX11_signs_149 rfl o1 (fun c => ?_) (fun c => ?_)
  · have h := h.1 c
    refine w_aload_n dX11_signs_158 rfl ?_
    refine w_iload_n dX11_signs_159 rfl ?_
    refine k_sI (as := [pI s0]) dX11_signs_160 kX11_303 ⟨⟨Nat.le_of_ble_eq_true rfl, rfl, rfl⟩, Nat.le_of_ble_eq_true rfl⟩ rfl (Nat.le_of_ble_eq_true rfl) h ?_
    intro r2 M3 h
    refine w_iconst dX11_signs_163 ?_
    obtain ⟨o4, h⟩ := h
    refine w_icmp_ne dX11_signs_164 rfl ⟨o4, (by decide)⟩ (fun c => ?_) (fun c => ?_)
    · have h := h.1 c
      refine w_iload_n dX11_signs_171 rfl ?_
      refine k_sI (as := [pI s0]) dX11_signs_172 kX11_303 ⟨⟨Nat.le_of_ble_eq_true rfl, rfl, rfl⟩, Nat.le_of_ble_eq_true rfl⟩ rfl (Nat.le_of_ble_eq_true rfl) h ?_
      intro r5 M6 h
      exact k_pick [1, 0] rfl h
    · have h := h.2 c
      refine w_iconst dX11_signs_167 ?_
      refine w_goto dX11_signs_168 rfl ?_
      exact k_pick [1, 0] rfl h
  · have h := h.2 c
    refine w_aload_n dX11_signs_152 rfl ?_
    refine w_iconst dX11_signs_153 ?_
    refine k_vI (as := [pI 1]) dX11_signs_154 kX11_202 ⟨⟨Nat.le_of_ble_eq_true rfl, rfl, rfl⟩, Nat.le_of_ble_eq_true rfl⟩ rfl (by decide) rfl (Nat.le_of_ble_eq_true rfl) h ?_
    intro r7 M8 h
    obtain ⟨o9, h⟩ := h
    exact k_zret dX11_signs_157 rfl o9 h
theorem vX11_signs_175 {E : Scr} {f : Int → Mem → Prop} {M : Mem} (x1 s0 : Int) (h : (CV E mX11_bind [pR 98, pI s0] M (fun M2 => (CI E mX11_standing [pI x1] M2 (fun r3 M4 => (iR r3) ∧ ((r3 ≠ 4 → (KW E mX11_signs (qI f) M4 217 [(0, pR 98), (1, pI x1)] [])) ∧ (r3 = 4 → ((iR (M4 98 42)) → (((M4 98 42) ≤ 0 → (KW E mX11_signs (qI f) M4 217 [(0, pR 98), (1, pI x1)] [])) ∧ ((M4 98 42) > 0 → ((iR (M4 98 42)) → (0 ≤ ((M4 98 42) - 1) ∧ ((M4 98 42) - 1) < 96) ∧ ((iR (M4 119 (((M4 98 42) - 1).toNat))) → (CI E mX11_standing [pI (M4 119 (((M4 98 42) - 1).toNat))] M4 (fun r10 M11 => (iR r10) ∧ ((r10 ≠ 4 → (KW E mX11_signs (qI f) M11 217 [(0, pR 98), (1, pI x1)] [])) ∧ (r10 = 4 → (CI E mX11_wrong [pR 98, pI 1] M11 (fun r13 M14 => (zR r13) ∧ f r13 M14)))))))))))))))))) : KW E mX11_signs (qI f) M 175 [(0, pR 98), (1, pI x1)] [pI s0, pR 98] := by
  refine k_vV (as := [pI s0]) dX11_signs_175 kX11_338 ⟨⟨Nat.le_of_ble_eq_true rfl, rfl, rfl⟩, Nat.le_of_ble_eq_true rfl⟩ rfl (by decide) rfl (Nat.le_of_ble_eq_true rfl) h ?_
  intro M2 h
  refine w_iload_n dX11_signs_178 rfl ?_
  refine k_sI (as := [pI x1]) dX11_signs_179 kX11_303 ⟨⟨Nat.le_of_ble_eq_true rfl, rfl, rfl⟩, Nat.le_of_ble_eq_true rfl⟩ rfl (Nat.le_of_ble_eq_true rfl) h ?_
  intro r3 M4 h
  refine w_iconst dX11_signs_182 ?_
  obtain ⟨o5, h⟩ := h
  refine w_icmp_ne dX11_signs_183 rfl ⟨o5, (by decide)⟩ (fun c => ?_) (fun c => ?_)
  · have h := h.1 c
    exact k_pick [0, 1] rfl h
  · have h := h.2 c
    refine w_aload_n dX11_signs_186 rfl ?_
    refine w_getI (x := (M4 98 42)) dX11_signs_187 fX11_300 rfl rfl rfl (fun g6 => ?_)
    have h := h g6
    refine w_if_le dX11_signs_190 rfl g6 (fun c => ?_) (fun c => ?_)
    · have h := h.1 c
      exact k_pick [0, 1] rfl h
    · have h := h.2 c
      refine w_aload_n dX11_signs_193 rfl ?_
      refine w_getR dX11_signs_194 fX11_75 rfl rfl rfl ?_
      refine w_aload_n dX11_signs_197 rfl ?_
      refine w_getI (x := (M4 98 42)) dX11_signs_198 fX11_300 rfl rfl rfl (fun g7 => ?_)
      have h := h g7
      refine w_iconst dX11_signs_201 ?_
      refine w_isub dX11_signs_202 ?_
      obtain ⟨o8, h⟩ := h
      refine w_iald (x := (M4 119 (((M4 98 42) - 1).toNat))) dX11_signs_203 rfl o8 rfl (fun g9 => ?_)
      have h := h g9
      refine k_sI (as := [pI (M4 119 (((M4 98 42) - 1).toNat))]) dX11_signs_204 kX11_303 ⟨⟨Nat.le_of_ble_eq_true rfl, rfl, rfl⟩, Nat.le_of_ble_eq_true rfl⟩ rfl (Nat.le_of_ble_eq_true rfl) h ?_
      intro r10 M11 h
      refine w_iconst dX11_signs_207 ?_
      obtain ⟨o12, h⟩ := h
      refine w_icmp_ne dX11_signs_208 rfl ⟨o12, (by decide)⟩ (fun c => ?_) (fun c => ?_)
      · have h := h.1 c
        exact k_pick [0, 1] rfl h
      · have h := h.2 c
        refine w_aload_n dX11_signs_211 rfl ?_
        refine w_iconst dX11_signs_212 ?_
        refine k_vI (as := [pI 1]) dX11_signs_213 kX11_202 ⟨⟨Nat.le_of_ble_eq_true rfl, rfl, rfl⟩, Nat.le_of_ble_eq_true rfl⟩ rfl (by decide) rfl (Nat.le_of_ble_eq_true rfl) h ?_
        intro r13 M14 h
        obtain ⟨o15, h⟩ := h
        exact k_zret dX11_signs_216 rfl o15 h
theorem vX11_signs_217 {E : Scr} {f : Int → Mem → Prop} {M : Mem} (x1 : Int) (h : (CI E mX11_isCounted [pR 98] M (fun r1 M2 => (iR r1) ∧ ((r1 ≠ 0 → (CV E mX11_waitsFor [pR 98, pI x1] M2 (fun M5 => (CI E mX11_standing [pI x1] (upM M5 98 46 1) (fun r6 M7 => (iR r6) ∧ ((r6 ≥ 3 → (CV E mX11_token [pR 98] (upM M7 98 47 0) (fun M10 => f 1 M10))) ∧ (r6 < 3 → (CV E mX11_token [pR 98] (upM M7 98 47 1) (fun M12 => f 1 M12))))))))) ∧ (r1 = 0 → f 0 M2))))) : KW E mX11_signs (qI f) M 217 [(0, pR 98), (1, pI x1)] [] := by
  refine w_aload_n dX11_signs_217 rfl ?_
  refine k_vI (as := []) dX11_signs_218 kX11_329 ⟨⟨Nat.le_of_ble_eq_true rfl, rfl, rfl⟩, Nat.le_of_ble_eq_true rfl⟩ rfl (by decide) rfl (Nat.le_of_ble_eq_true rfl) h ?_
  intro r1 M2 h
  obtain ⟨o3, h⟩ := h
  refine w_if_ne dX11_signs_221 rfl o3 (fun c => ?_) (fun c => ?_)
  · have h := h.1 c
    refine w_aload_n dX11_signs_226 rfl ?_
    refine w_iload_n dX11_signs_227 rfl ?_
    refine k_vV (as := [pI x1]) dX11_signs_228 kX11_318 ⟨⟨Nat.le_of_ble_eq_true rfl, rfl, rfl⟩, Nat.le_of_ble_eq_true rfl⟩ rfl (by decide) rfl (Nat.le_of_ble_eq_true rfl) h ?_
    intro M5 h
    refine w_aload_n dX11_signs_231 rfl ?_
    refine w_iconst dX11_signs_232 ?_
    refine w_putZ dX11_signs_233 (Or.inl ⟨rfl, fX11_335⟩) rfl rfl (by decide) ?_
    refine w_aload_n dX11_signs_236 rfl ?_
    refine w_iload_n dX11_signs_237 rfl ?_
    refine k_sI (as := [pI x1]) dX11_signs_238 kX11_303 ⟨⟨Nat.le_of_ble_eq_true rfl, rfl, rfl⟩, Nat.le_of_ble_eq_true rfl⟩ rfl (Nat.le_of_ble_eq_true rfl) h ?_
    intro r6 M7 h
    refine w_iconst dX11_signs_241 ?_
    obtain ⟨o8, h⟩ := h
    refine w_icmp_ge dX11_signs_242 rfl ⟨o8, (by decide)⟩ (fun c => ?_) (fun c => ?_)
    · have h := h.1 c
      refine w_iconst dX11_signs_249 ?_
      refine w_putZ dX11_signs_250 (Or.inl ⟨rfl, fX11_322⟩) rfl rfl (by decide) ?_
      refine w_aload_n dX11_signs_253 rfl ?_
      refine k_vV (as := []) dX11_signs_254 kX11_212 ⟨⟨Nat.le_of_ble_eq_true rfl, rfl, rfl⟩, Nat.le_of_ble_eq_true rfl⟩ rfl (by decide) rfl (Nat.le_of_ble_eq_true rfl) h ?_
      intro M10 h
      refine w_iconst dX11_signs_257 ?_
      exact k_zret dX11_signs_258 rfl (by decide) h
    · have h := h.2 c
      refine w_iconst dX11_signs_245 ?_
      refine w_goto dX11_signs_246 rfl ?_
      refine w_putZ dX11_signs_250 (Or.inl ⟨rfl, fX11_322⟩) rfl rfl (by decide) ?_
      refine w_aload_n dX11_signs_253 rfl ?_
      refine k_vV (as := []) dX11_signs_254 kX11_212 ⟨⟨Nat.le_of_ble_eq_true rfl, rfl, rfl⟩, Nat.le_of_ble_eq_true rfl⟩ rfl (by decide) rfl (Nat.le_of_ble_eq_true rfl) h ?_
      intro M12 h
      refine w_iconst dX11_signs_257 ?_
      exact k_zret dX11_signs_258 rfl (by decide) h
  · have h := h.2 c
    refine w_iconst dX11_signs_224 ?_
    exact k_zret dX11_signs_225 rfl (by decide) h
theorem vX11_sumRead_0 {E : Scr} {f : Int → Mem → Prop} {M : Mem} (h : (KW E mX11_sumRead (qI f) (upM (upM (upM (upM (upM M 98 42 0) 98 43 0) 98 44 0) 98 46 1) 98 47 1) 25 [(0, pR 98)] [])) : CI E mX11_sumRead [pR 98] M f := by
  refine (show KW E mX11_sumRead (qI f) M 0 [(0, pR 98)] [] from ?_)
  refine w_aload_n dX11_sumRead_0 rfl ?_
  refine w_iconst dX11_sumRead_1 ?_
  refine w_putI dX11_sumRead_2 (Or.inl ⟨rfl, fX11_300⟩) rfl rfl (by decide) ?_
  refine w_aload_n dX11_sumRead_5 rfl ?_
  refine w_iconst dX11_sumRead_6 ?_
  refine w_putI dX11_sumRead_7 (Or.inl ⟨rfl, fX11_297⟩) rfl rfl (by decide) ?_
  refine w_aload_n dX11_sumRead_10 rfl ?_
  refine w_iconst dX11_sumRead_11 ?_
  refine w_putI dX11_sumRead_12 (Or.inl ⟨rfl, fX11_315⟩) rfl rfl (by decide) ?_
  refine w_aload_n dX11_sumRead_15 rfl ?_
  refine w_iconst dX11_sumRead_16 ?_
  refine w_putZ dX11_sumRead_17 (Or.inl ⟨rfl, fX11_335⟩) rfl rfl (by decide) ?_
  refine w_aload_n dX11_sumRead_20 rfl ?_
  refine w_iconst dX11_sumRead_21 ?_
  refine w_putZ dX11_sumRead_22 (Or.inl ⟨rfl, fX11_322⟩) rfl rfl (by decide) ?_
  exact k_pick [0] rfl h
theorem vX11_sumRead_25 {E : Scr} {f : Int → Mem → Prop} {M : Mem} (h : (CI E mX11_isSign [pR 98, pI 59] M (fun r1 M2 => (iR r1) ∧ ((r1 = 0 → (KW E mX11_sumRead (qI f) M2 48 [(0, pR 98)] [])) ∧ (r1 ≠ 0 → ((zR (M2 98 46)) → (((M2 98 46) ≠ 0 → (KW E mX11_sumRead (qI f) M2 48 [(0, pR 98)] [])) ∧ ((M2 98 46) = 0 → ((iR (M2 98 44)) → (((M2 98 44) ≤ 0 → (CV E mX11_bind [pR 98, pI 1] M2 (fun M7 => f 1 M7))) ∧ ((M2 98 44) > 0 → (KW E mX11_sumRead (qI f) M2 48 [(0, pR 98)] [])))))))))))) : KW E mX11_sumRead (qI f) M 25 [(0, pR 98)] [] := by
  refine w_aload_n dX11_sumRead_25 rfl ?_
  refine w_bipush dX11_sumRead_26 (by decide) ?_
  refine k_vI (as := [pI 59]) dX11_sumRead_28 kX11_215 ⟨⟨Nat.le_of_ble_eq_true rfl, rfl, rfl⟩, Nat.le_of_ble_eq_true rfl⟩ rfl (by decide) rfl (Nat.le_of_ble_eq_true rfl) h ?_
  intro r1 M2 h
  obtain ⟨o3, h⟩ := h
  refine w_if_eq dX11_sumRead_31 rfl o3 (fun c => ?_) (fun c => ?_)
  · have h := h.1 c
    exact k_pick [0] rfl h
  · have h := h.2 c
    refine w_aload_n dX11_sumRead_34 rfl ?_
    refine w_getZ (x := (M2 98 46)) dX11_sumRead_35 fX11_335 rfl rfl rfl (fun g4 => ?_)
    have h := h g4
    refine w_if_ne dX11_sumRead_38 rfl (z2i g4) (fun c => ?_) (fun c => ?_)
    · have h := h.1 c
      exact k_pick [0] rfl h
    · have h := h.2 c
      refine w_aload_n dX11_sumRead_41 rfl ?_
      refine w_getI (x := (M2 98 44)) dX11_sumRead_42 fX11_315 rfl rfl rfl (fun g5 => ?_)
      have h := h g5
      refine w_if_le dX11_sumRead_45 rfl g5 (fun c => ?_) (fun c => ?_)
      · have h := h.1 c
        refine w_aload_n dX11_sumRead_74 rfl ?_
        refine w_iconst dX11_sumRead_75 ?_
        refine k_vV (as := [pI 1]) dX11_sumRead_76 kX11_338 ⟨⟨Nat.le_of_ble_eq_true rfl, rfl, rfl⟩, Nat.le_of_ble_eq_true rfl⟩ rfl (by decide) rfl (Nat.le_of_ble_eq_true rfl) h ?_
        intro M7 h
        refine w_iconst dX11_sumRead_79 ?_
        exact k_zret dX11_sumRead_80 rfl (by decide) h
      · have h := h.2 c
        exact k_pick [0] rfl h
theorem vX11_sumRead_48 {E : Scr} {f : Int → Mem → Prop} {M : Mem} (h : ((zR (M 98 46)) → (((M 98 46) = 0 → (CI E mX11_signs [pR 98] M (fun r2 M3 => (iR r2) ∧ ((r2 ≠ 0 → (KW E mX11_sumRead (qI f) M3 25 [(0, pR 98)] [])) ∧ (r2 = 0 → f 0 M3))))) ∧ ((M 98 46) ≠ 0 → (CI E mX11_leafRead [pR 98] M (fun r5 M6 => (iR r5) ∧ ((r5 = 0 → f 0 M6) ∧ (r5 ≠ 0 → (KW E mX11_sumRead (qI f) M6 25 [(0, pR 98)] []))))))))) : KW E mX11_sumRead (qI f) M 48 [(0, pR 98)] [] := by
  refine w_aload_n dX11_sumRead_48 rfl ?_
  refine w_getZ (x := (M 98 46)) dX11_sumRead_49 fX11_335 rfl rfl rfl (fun g1 => ?_)
  have h := h g1
  refine w_if_eq dX11_sumRead_52 rfl (z2i g1) (fun c => ?_) (fun c => ?_)
  · have h := h.1 c
    refine w_aload_n dX11_sumRead_65 rfl ?_
    refine k_vI (as := []) dX11_sumRead_66 kX11_344 ⟨⟨Nat.le_of_ble_eq_true rfl, rfl, rfl⟩, Nat.le_of_ble_eq_true rfl⟩ rfl (by decide) rfl (Nat.le_of_ble_eq_true rfl) h ?_
    intro r2 M3 h
    obtain ⟨o4, h⟩ := h
    refine w_if_ne dX11_sumRead_69 rfl o4 (fun c => ?_) (fun c => ?_)
    · have h := h.1 c
      exact k_pick [0] rfl h
    · have h := h.2 c
      refine w_iconst dX11_sumRead_72 ?_
      exact k_zret dX11_sumRead_73 rfl (by decide) h
  · have h := h.2 c
    refine w_aload_n dX11_sumRead_55 rfl ?_
    refine k_vI (as := []) dX11_sumRead_56 kX11_341 ⟨⟨Nat.le_of_ble_eq_true rfl, rfl, rfl⟩, Nat.le_of_ble_eq_true rfl⟩ rfl (by decide) rfl (Nat.le_of_ble_eq_true rfl) h ?_
    intro r5 M6 h
    obtain ⟨o7, h⟩ := h
    refine w_if_eq dX11_sumRead_59 rfl o7 (fun c => ?_) (fun c => ?_)
    · have h := h.1 c
      refine w_iconst dX11_sumRead_72 ?_
      exact k_zret dX11_sumRead_73 rfl (by decide) h
    · have h := h.2 c
      refine w_goto dX11_sumRead_62 rfl ?_
      exact k_pick [0] rfl h
theorem vX11_bounded_0 {E : Scr} {f : Int → Mem → Prop} {M : Mem} (x1 : Int) (h : ((zR (M 98 50)) → (((M 98 50) ≠ 0 → ((zR 1) → f 0 (upM M 98 50 1))) ∧ ((M 98 50) = 0 → (lR x1) ∧ ((x1 > 1000000000000 → ((zR 1) → f 0 (upM M 98 50 1))) ∧ (x1 ≤ 1000000000000 → (lR x1) ∧ ((x1 ≥ (-1000000000000) → ((zR 0) → f x1 (upM M 98 50 0))) ∧ (x1 < (-1000000000000) → ((zR 1) → f 0 (upM M 98 50 1)))))))))) : CL E mX11_bounded [pR 98, pL x1] M f := by
  refine (show KW E mX11_bounded (qL f) M 0 [(0, pR 98), (1, pL x1)] [] from ?_)
  refine w_aload_n dX11_bounded_0 rfl ?_
  refine w_aload_n dX11_bounded_1 rfl ?_
  refine w_getZ (x := (M 98 50)) dX11_bounded_2 fX11_347 rfl rfl rfl (fun g1 => ?_)
  have h := h g1
  refine w_if_ne dX11_bounded_5 rfl (z2i g1) (fun c => ?_) (fun c => ?_)
  · have h := h.1 c
    refine w_iconst dX11_bounded_24 ?_
    refine w_goto dX11_bounded_25 rfl ?_
    refine w_putZ dX11_bounded_29 (Or.inl ⟨rfl, fX11_347⟩) rfl rfl (by decide) ?_
    refine w_aload_n dX11_bounded_32 rfl ?_
    refine w_getZ (x := 1) dX11_bounded_33 fX11_347 rfl rfl rfl (fun g2 => ?_)
    have h := h g2
    refine w_if_eq dX11_bounded_36 rfl (z2i g2) (fun c => absurd c (by decide)) (fun _ => ?_)
    refine w_lconst (x := 0) dX11_bounded_39 rfl ?_
    refine w_goto dX11_bounded_40 rfl ?_
    exact k_lret dX11_bounded_44 rfl h
  · have h := h.2 c
    refine w_lload_n dX11_bounded_8 rfl ?_
    refine w_ldc2 dX11_bounded_9 qX11_350 ?_
    obtain ⟨o3, h⟩ := h
    refine w_lcmp_gt dX11_bounded_12 dX11_bounded_13 rfl ⟨o3, (by decide)⟩ (fun c => ?_) (fun c => ?_)
    · have h := h.1 c
      refine w_iconst dX11_bounded_24 ?_
      refine w_goto dX11_bounded_25 rfl ?_
      refine w_putZ dX11_bounded_29 (Or.inl ⟨rfl, fX11_347⟩) rfl rfl (by decide) ?_
      refine w_aload_n dX11_bounded_32 rfl ?_
      refine w_getZ (x := 1) dX11_bounded_33 fX11_347 rfl rfl rfl (fun g4 => ?_)
      have h := h g4
      refine w_if_eq dX11_bounded_36 rfl (z2i g4) (fun c => absurd c (by decide)) (fun _ => ?_)
      refine w_lconst (x := 0) dX11_bounded_39 rfl ?_
      refine w_goto dX11_bounded_40 rfl ?_
      exact k_lret dX11_bounded_44 rfl h
    · have h := h.2 c
      refine w_lload_n dX11_bounded_16 rfl ?_
      refine w_ldc2 dX11_bounded_17 qX11_352 ?_
      obtain ⟨o5, h⟩ := h
      refine w_lcmp_ge dX11_bounded_20 dX11_bounded_21 rfl ⟨o5, (by decide)⟩ (fun c => ?_) (fun c => ?_)
      · have h := h.1 c
        refine w_iconst dX11_bounded_28 ?_
        refine w_putZ dX11_bounded_29 (Or.inl ⟨rfl, fX11_347⟩) rfl rfl (by decide) ?_
        refine w_aload_n dX11_bounded_32 rfl ?_
        refine w_getZ (x := 0) dX11_bounded_33 fX11_347 rfl rfl rfl (fun g6 => ?_)
        have h := h g6
        refine w_if_eq dX11_bounded_36 rfl (z2i g6) (fun _ => ?_) (fun c => absurd c (by decide))
        refine w_lload_n dX11_bounded_43 rfl ?_
        exact k_lret dX11_bounded_44 rfl h
      · have h := h.2 c
        refine w_iconst dX11_bounded_24 ?_
        refine w_goto dX11_bounded_25 rfl ?_
        refine w_putZ dX11_bounded_29 (Or.inl ⟨rfl, fX11_347⟩) rfl rfl (by decide) ?_
        refine w_aload_n dX11_bounded_32 rfl ?_
        refine w_getZ (x := 1) dX11_bounded_33 fX11_347 rfl rfl rfl (fun g7 => ?_)
        have h := h g7
        refine w_if_eq dX11_bounded_36 rfl (z2i g7) (fun c => absurd c (by decide)) (fun _ => ?_)
        refine w_lconst (x := 0) dX11_bounded_39 rfl ?_
        refine w_goto dX11_bounded_40 rfl ?_
        exact k_lret dX11_bounded_44 rfl h
theorem vX11_compares_0 {E : Scr} {f : Int → Mem → Prop} {M : Mem} (x0 x1 x3 : Int) (h : (iR x0) ∧ ((x0 = 5 → (lR x1) ∧ (lR x3) ∧ ((x1 ≥ x3 → f 0 M) ∧ (x1 < x3 → f 1 M))) ∧ (x0 = 6 → (lR x1) ∧ (lR x3) ∧ ((x1 > x3 → f 0 M) ∧ (x1 ≤ x3 → f 1 M))) ∧ (x0 = 7 → (lR x1) ∧ (lR x3) ∧ ((x1 ≠ x3 → f 0 M) ∧ (x1 = x3 → f 1 M))) ∧ (x0 = 8 → (lR x1) ∧ (lR x3) ∧ ((x1 = x3 → f 0 M) ∧ (x1 ≠ x3 → f 1 M))) ∧ (x0 = 9 → (lR x1) ∧ (lR x3) ∧ ((x1 < x3 → f 0 M) ∧ (x1 ≥ x3 → f 1 M))) ∧ (x0 < 5 ∨ 9 < x0 → (lR x1) ∧ (lR x3) ∧ ((x1 ≤ x3 → f 0 M) ∧ (x1 > x3 → f 1 M))))) : CI E mX11_compares [pI x0, pL x1, pL x3] M f := by
  refine (show KW E mX11_compares (qI f) M 0 [(0, pI x0), (1, pL x1), (3, pL x3)] [] from ?_)
  refine w_iload_n dX11_compares_0 rfl ?_
  obtain ⟨o1, h⟩ := h
  refine w_tsw (tgs := [36, 48, 60, 72, 84]) (td := 96) dX11_compares_1 o1 rfl (by decide) rfl ?_ ?_
  · intro j hj hx
    match j, hj, hx with
    | 0, _, hx =>
      have h := h.1 (by simpa using hx)
      clear hx
      refine w_lload_n dX11_compares_36 rfl ?_
      refine w_lload_n dX11_compares_37 rfl ?_
      obtain ⟨o2, h⟩ := h
      obtain ⟨o3, h⟩ := h
      refine w_lcmp_ge dX11_compares_38 dX11_compares_39 rfl ⟨o2, o3⟩ (fun c => ?_) (fun c => ?_)
      · have h := h.1 c
        refine w_iconst dX11_compares_46 ?_
        exact k_zret dX11_compares_47 rfl (by decide) h
      · have h := h.2 c
        refine w_iconst dX11_compares_42 ?_
        refine w_goto dX11_compares_43 rfl ?_
        exact k_zret dX11_compares_47 rfl (by decide) h
    | 1, _, hx =>
      have h := h.2.1 (by simpa using hx)
      clear hx
      refine w_lload_n dX11_compares_48 rfl ?_
      refine w_lload_n dX11_compares_49 rfl ?_
      obtain ⟨o4, h⟩ := h
      obtain ⟨o5, h⟩ := h
      refine w_lcmp_gt dX11_compares_50 dX11_compares_51 rfl ⟨o4, o5⟩ (fun c => ?_) (fun c => ?_)
      · have h := h.1 c
        refine w_iconst dX11_compares_58 ?_
        exact k_zret dX11_compares_59 rfl (by decide) h
      · have h := h.2 c
        refine w_iconst dX11_compares_54 ?_
        refine w_goto dX11_compares_55 rfl ?_
        exact k_zret dX11_compares_59 rfl (by decide) h
    | 2, _, hx =>
      have h := h.2.2.1 (by simpa using hx)
      clear hx
      refine w_lload_n dX11_compares_60 rfl ?_
      refine w_lload_n dX11_compares_61 rfl ?_
      obtain ⟨o6, h⟩ := h
      obtain ⟨o7, h⟩ := h
      refine w_lcmp_ne dX11_compares_62 dX11_compares_63 rfl ⟨o6, o7⟩ (fun c => ?_) (fun c => ?_)
      · have h := h.1 c
        refine w_iconst dX11_compares_70 ?_
        exact k_zret dX11_compares_71 rfl (by decide) h
      · have h := h.2 c
        refine w_iconst dX11_compares_66 ?_
        refine w_goto dX11_compares_67 rfl ?_
        exact k_zret dX11_compares_71 rfl (by decide) h
    | 3, _, hx =>
      have h := h.2.2.2.1 (by simpa using hx)
      clear hx
      refine w_lload_n dX11_compares_72 rfl ?_
      refine w_lload_n dX11_compares_73 rfl ?_
      obtain ⟨o8, h⟩ := h
      obtain ⟨o9, h⟩ := h
      refine w_lcmp_eq dX11_compares_74 dX11_compares_75 rfl ⟨o8, o9⟩ (fun c => ?_) (fun c => ?_)
      · have h := h.1 c
        refine w_iconst dX11_compares_82 ?_
        exact k_zret dX11_compares_83 rfl (by decide) h
      · have h := h.2 c
        refine w_iconst dX11_compares_78 ?_
        refine w_goto dX11_compares_79 rfl ?_
        exact k_zret dX11_compares_83 rfl (by decide) h
    | 4, _, hx =>
      have h := h.2.2.2.2.1 (by simpa using hx)
      clear hx
      refine w_lload_n dX11_compares_84 rfl ?_
      refine w_lload_n dX11_compares_85 rfl ?_
      obtain ⟨o10, h⟩ := h
      obtain ⟨o11, h⟩ := h
      refine w_lcmp_lt dX11_compares_86 dX11_compares_87 rfl ⟨o10, o11⟩ (fun c => ?_) (fun c => ?_)
      · have h := h.1 c
        refine w_iconst dX11_compares_94 ?_
        exact k_zret dX11_compares_95 rfl (by decide) h
      · have h := h.2 c
        refine w_iconst dX11_compares_90 ?_
        refine w_goto dX11_compares_91 rfl ?_
        exact k_zret dX11_compares_95 rfl (by decide) h
    | _ + 5, hj, _ => exact absurd hj (by simp)
  · intro c
    have h := h.2.2.2.2.2 c
    refine w_lload_n dX11_compares_96 rfl ?_
    refine w_lload_n dX11_compares_97 rfl ?_
    obtain ⟨o12, h⟩ := h
    obtain ⟨o13, h⟩ := h
    refine w_lcmp_le dX11_compares_98 dX11_compares_99 rfl ⟨o12, o13⟩ (fun c => ?_) (fun c => ?_)
    · have h := h.1 c
      refine w_iconst dX11_compares_106 ?_
      exact k_zret dX11_compares_107 rfl (by decide) h
    · have h := h.2 c
      refine w_iconst dX11_compares_102 ?_
      refine w_goto dX11_compares_103 rfl ?_
      exact k_zret dX11_compares_107 rfl (by decide) h
theorem vX11_times_0 {E : Scr} {f : Int → Mem → Prop} {M : Mem} (x1 x3 : Int) (h : (lR x1) ∧ ((x1 = 0 → (KW E mX11_times (qL f) M 48 [(0, pR 98), (1, pL x1), (3, pL x3)] [])) ∧ (x1 ≠ 0 → (lR x3) ∧ ((x3 = 0 → (KW E mX11_times (qL f) M 48 [(0, pR 98), (1, pL x1), (3, pL x3)] [])) ∧ (x3 ≠ 0 → (lR x3) ∧ ((x3 ≥ 0 → (KW E mX11_times (qL f) M 24 [(0, pR 98), (1, pL x1), (3, pL x3)] [pL x3])) ∧ (x3 < 0 → (KW E mX11_times (qL f) M 24 [(0, pR 98), (1, pL x1), (3, pL x3)] [pL (-x3)])))))))) : CL E mX11_times [pR 98, pL x1, pL x3] M f := by
  refine (show KW E mX11_times (qL f) M 0 [(0, pR 98), (1, pL x1), (3, pL x3)] [] from ?_)
  refine w_lload_n dX11_times_0 rfl ?_
  refine w_lconst (x := 0) dX11_times_1 rfl ?_
  obtain ⟨o1, h⟩ := h
  refine w_lcmp_eq dX11_times_2 dX11_times_3 rfl ⟨o1, (by decide)⟩ (fun c => ?_) (fun c => ?_)
  · have h := h.1 c
    exact k_pick [0, 1, 2] rfl h
  · have h := h.2 c
    refine w_lload_n dX11_times_6 rfl ?_
    refine w_lconst (x := 0) dX11_times_7 rfl ?_
    obtain ⟨o2, h⟩ := h
    refine w_lcmp_eq dX11_times_8 dX11_times_9 rfl ⟨o2, (by decide)⟩ (fun c => ?_) (fun c => ?_)
    · have h := h.1 c
      exact k_pick [0, 1, 2] rfl h
    · have h := h.2 c
      refine w_lload_n dX11_times_12 rfl ?_
      refine w_lconst (x := 0) dX11_times_13 rfl ?_
      obtain ⟨o3, h⟩ := h
      refine w_lcmp_ge dX11_times_14 dX11_times_15 rfl ⟨o3, (by decide)⟩ (fun c => ?_) (fun c => ?_)
      · have h := h.1 c
        refine w_lload_n dX11_times_23 rfl ?_
        exact k_pick [0, 1, 2] rfl h
      · have h := h.2 c
        refine w_lload_n dX11_times_18 rfl ?_
        refine w_lneg dX11_times_19 ?_
        refine w_goto dX11_times_20 rfl ?_
        exact k_pick [0, 1, 2] rfl h
theorem vX11_times_48 {E : Scr} {f : Int → Mem → Prop} {M : Mem} (x1 x3 : Int) (h : ((zR (M 98 50)) → (((M 98 50) ≠ 0 → ((zR 1) → f 0 (upM M 98 50 1))) ∧ ((M 98 50) = 0 → ((zR 0) → f (x1 * x3) (upM M 98 50 0)))))) : KW E mX11_times (qL f) M 48 [(0, pR 98), (1, pL x1), (3, pL x3)] [] := by
  refine w_iconst dX11_times_48 ?_
  refine w_istore dX11_times_49 (by decide) ?_
  refine w_aload_n dX11_times_51 rfl ?_
  refine w_aload_n dX11_times_52 rfl ?_
  refine w_getZ (x := (M 98 50)) dX11_times_53 fX11_347 rfl rfl rfl (fun g1 => ?_)
  have h := h g1
  refine w_if_ne dX11_times_56 rfl (z2i g1) (fun c => ?_) (fun c => ?_)
  · have h := h.1 c
    refine w_iconst dX11_times_64 ?_
    refine w_goto dX11_times_65 rfl ?_
    refine w_putZ dX11_times_69 (Or.inl ⟨rfl, fX11_347⟩) rfl rfl (by decide) ?_
    refine w_aload_n dX11_times_72 rfl ?_
    refine w_getZ (x := 1) dX11_times_73 fX11_347 rfl rfl rfl (fun g2 => ?_)
    have h := h g2
    refine w_if_eq dX11_times_76 rfl (z2i g2) (fun c => absurd c (by decide)) (fun _ => ?_)
    refine w_lconst (x := 0) dX11_times_79 rfl ?_
    refine w_goto dX11_times_80 rfl ?_
    exact k_lret dX11_times_86 rfl h
  · have h := h.2 c
    refine w_iload dX11_times_59 rfl ?_
    refine w_if_eq dX11_times_61 rfl (by decide) (fun _ => ?_) (fun c => absurd c (by decide))
    refine w_iconst dX11_times_68 ?_
    refine w_putZ dX11_times_69 (Or.inl ⟨rfl, fX11_347⟩) rfl rfl (by decide) ?_
    refine w_aload_n dX11_times_72 rfl ?_
    refine w_getZ (x := 0) dX11_times_73 fX11_347 rfl rfl rfl (fun g3 => ?_)
    have h := h g3
    refine w_if_eq dX11_times_76 rfl (z2i g3) (fun _ => ?_) (fun c => absurd c (by decide))
    refine w_lload_n dX11_times_83 rfl ?_
    refine w_lload_n dX11_times_84 rfl ?_
    refine w_lmul dX11_times_85 ?_
    exact k_lret dX11_times_86 rfl h
theorem vX11_times_24 {E : Scr} {f : Int → Mem → Prop} {M : Mem} (x1 x3 s0 : Int) (h : (lR x1) ∧ ((x1 ≥ 0 → (lR x1) ∧ (x1 ≠ 0) ∧ (lR s0) ∧ (lR (Int.tdiv 1000000000000 x1)) ∧ ((s0 ≤ (Int.tdiv 1000000000000 x1) → (KW E mX11_times (qL f) M 48 [(0, pR 98), (1, pL x1), (3, pL x3)] [])) ∧ (s0 > (Int.tdiv 1000000000000 x1) → ((zR (M 98 50)) → (((M 98 50) ≠ 0 → ((zR 1) → f 0 (upM M 98 50 1))) ∧ ((M 98 50) = 0 → ((zR 1) → f 0 (upM M 98 50 1)))))))) ∧ (x1 < 0 → (lR (-x1)) ∧ ((-x1) ≠ 0) ∧ (lR s0) ∧ (lR (Int.tdiv 1000000000000 (-x1))) ∧ ((s0 ≤ (Int.tdiv 1000000000000 (-x1)) → (KW E mX11_times (qL f) M 48 [(0, pR 98), (1, pL x1), (3, pL x3)] [])) ∧ (s0 > (Int.tdiv 1000000000000 (-x1)) → ((zR (M 98 50)) → (((M 98 50) ≠ 0 → ((zR 1) → f 0 (upM M 98 50 1))) ∧ ((M 98 50) = 0 → ((zR 1) → f 0 (upM M 98 50 1)))))))))) : KW E mX11_times (qL f) M 24 [(0, pR 98), (1, pL x1), (3, pL x3)] [pL s0] := by
  refine w_ldc2 dX11_times_24 qX11_350 ?_
  refine w_lload_n dX11_times_27 rfl ?_
  refine w_lconst (x := 0) dX11_times_28 rfl ?_
  obtain ⟨o1, h⟩ := h
  refine w_lcmp_ge dX11_times_29 dX11_times_30 rfl ⟨o1, (by decide)⟩ (fun c => ?_) (fun c => ?_)
  · have h := h.1 c
    refine w_lload_n dX11_times_38 rfl ?_
    obtain ⟨o2, h⟩ := h
    obtain ⟨o3, h⟩ := h
    refine w_ldiv dX11_times_39 ⟨(by decide), o2, o3⟩ ?_
    obtain ⟨o4, h⟩ := h
    obtain ⟨o5, h⟩ := h
    refine w_lcmp_le dX11_times_40 dX11_times_41 rfl ⟨o4, o5⟩ (fun c => ?_) (fun c => ?_)
    · have h := h.1 c
      exact k_pick [0, 1, 2] rfl h
    · have h := h.2 c
      refine w_iconst dX11_times_44 ?_
      refine w_goto dX11_times_45 rfl ?_
      refine w_istore dX11_times_49 (by decide) ?_
      refine w_aload_n dX11_times_51 rfl ?_
      refine w_aload_n dX11_times_52 rfl ?_
      refine w_getZ (x := (M 98 50)) dX11_times_53 fX11_347 rfl rfl rfl (fun g6 => ?_)
      have h := h g6
      refine w_if_ne dX11_times_56 rfl (z2i g6) (fun c => ?_) (fun c => ?_)
      · have h := h.1 c
        refine w_iconst dX11_times_64 ?_
        refine w_goto dX11_times_65 rfl ?_
        refine w_putZ dX11_times_69 (Or.inl ⟨rfl, fX11_347⟩) rfl rfl (by decide) ?_
        refine w_aload_n dX11_times_72 rfl ?_
        refine w_getZ (x := 1) dX11_times_73 fX11_347 rfl rfl rfl (fun g7 => ?_)
        have h := h g7
        refine w_if_eq dX11_times_76 rfl (z2i g7) (fun c => absurd c (by decide)) (fun _ => ?_)
        refine w_lconst (x := 0) dX11_times_79 rfl ?_
        refine w_goto dX11_times_80 rfl ?_
        exact k_lret dX11_times_86 rfl h
      · have h := h.2 c
        refine w_iload dX11_times_59 rfl ?_
        refine w_if_eq dX11_times_61 rfl (by decide) (fun c => absurd c (by decide)) (fun _ => ?_)
        refine w_iconst dX11_times_64 ?_
        refine w_goto dX11_times_65 rfl ?_
        refine w_putZ dX11_times_69 (Or.inl ⟨rfl, fX11_347⟩) rfl rfl (by decide) ?_
        refine w_aload_n dX11_times_72 rfl ?_
        refine w_getZ (x := 1) dX11_times_73 fX11_347 rfl rfl rfl (fun g8 => ?_)
        have h := h g8
        refine w_if_eq dX11_times_76 rfl (z2i g8) (fun c => absurd c (by decide)) (fun _ => ?_)
        refine w_lconst (x := 0) dX11_times_79 rfl ?_
        refine w_goto dX11_times_80 rfl ?_
        exact k_lret dX11_times_86 rfl h
  · have h := h.2 c
    refine w_lload_n dX11_times_33 rfl ?_
    refine w_lneg dX11_times_34 ?_
    refine w_goto dX11_times_35 rfl ?_
    obtain ⟨o9, h⟩ := h
    obtain ⟨o10, h⟩ := h
    refine w_ldiv dX11_times_39 ⟨(by decide), o9, o10⟩ ?_
    obtain ⟨o11, h⟩ := h
    obtain ⟨o12, h⟩ := h
    refine w_lcmp_le dX11_times_40 dX11_times_41 rfl ⟨o11, o12⟩ (fun c => ?_) (fun c => ?_)
    · have h := h.1 c
      exact k_pick [0, 1, 2] rfl h
    · have h := h.2 c
      refine w_iconst dX11_times_44 ?_
      refine w_goto dX11_times_45 rfl ?_
      refine w_istore dX11_times_49 (by decide) ?_
      refine w_aload_n dX11_times_51 rfl ?_
      refine w_aload_n dX11_times_52 rfl ?_
      refine w_getZ (x := (M 98 50)) dX11_times_53 fX11_347 rfl rfl rfl (fun g13 => ?_)
      have h := h g13
      refine w_if_ne dX11_times_56 rfl (z2i g13) (fun c => ?_) (fun c => ?_)
      · have h := h.1 c
        refine w_iconst dX11_times_64 ?_
        refine w_goto dX11_times_65 rfl ?_
        refine w_putZ dX11_times_69 (Or.inl ⟨rfl, fX11_347⟩) rfl rfl (by decide) ?_
        refine w_aload_n dX11_times_72 rfl ?_
        refine w_getZ (x := 1) dX11_times_73 fX11_347 rfl rfl rfl (fun g14 => ?_)
        have h := h g14
        refine w_if_eq dX11_times_76 rfl (z2i g14) (fun c => absurd c (by decide)) (fun _ => ?_)
        refine w_lconst (x := 0) dX11_times_79 rfl ?_
        refine w_goto dX11_times_80 rfl ?_
        exact k_lret dX11_times_86 rfl h
      · have h := h.2 c
        refine w_iload dX11_times_59 rfl ?_
        refine w_if_eq dX11_times_61 rfl (by decide) (fun c => absurd c (by decide)) (fun _ => ?_)
        refine w_iconst dX11_times_64 ?_
        refine w_goto dX11_times_65 rfl ?_
        refine w_putZ dX11_times_69 (Or.inl ⟨rfl, fX11_347⟩) rfl rfl (by decide) ?_
        refine w_aload_n dX11_times_72 rfl ?_
        refine w_getZ (x := 1) dX11_times_73 fX11_347 rfl rfl rfl (fun g15 => ?_)
        have h := h g15
        refine w_if_eq dX11_times_76 rfl (z2i g15) (fun c => absurd c (by decide)) (fun _ => ?_)
        refine w_lconst (x := 0) dX11_times_79 rfl ?_
        refine w_goto dX11_times_80 rfl ?_
        exact k_lret dX11_times_86 rfl h
theorem vX11_valueOf_0 {E : Scr} {f : Int → Mem → Prop} {M : Mem} (x1 : Int) (h : (0 ≤ x1 ∧ x1 < 128) ∧ ((iR (M 116 x1.toNat)) → (((M 116 x1.toNat) ≠ 0 → (0 ≤ x1 ∧ x1 < 128) ∧ ((iR (M 116 x1.toNat)) → (((M 116 x1.toNat) ≠ 1 → (0 ≤ x1 ∧ x1 < 128) ∧ ((iR (M 117 x1.toNat)) → (0 ≤ (M 117 x1.toNat) ∧ (M 117 x1.toNat) < 64) ∧ ((lR (M 122 ((M 117 x1.toNat).toNat))) → (0 ≤ x1 ∧ x1 < 128) ∧ ((iR (M 116 x1.toNat)) → (((M 116 x1.toNat) ≠ 2 → (0 ≤ x1 ∧ x1 < 128) ∧ ((iR (M 118 x1.toNat)) → (0 ≤ (M 118 x1.toNat) ∧ (M 118 x1.toNat) < 64) ∧ ((lR (M 122 ((M 118 x1.toNat).toNat))) → (0 ≤ x1 ∧ x1 < 128) ∧ ((iR (M 116 x1.toNat)) → (((M 116 x1.toNat) = 3 → (((M 122 ((M 117 x1.toNat).toNat)) = 0 → f 0 M) ∧ ((M 122 ((M 117 x1.toNat).toNat)) ≠ 0 → (((M 122 ((M 118 x1.toNat).toNat)) = 0 → f 0 M) ∧ ((M 122 ((M 118 x1.toNat).toNat)) ≠ 0 → f 1 M))))) ∧ ((M 116 x1.toNat) = 4 → (((M 122 ((M 117 x1.toNat).toNat)) ≠ 0 → f 1 M) ∧ ((M 122 ((M 117 x1.toNat).toNat)) = 0 → (((M 122 ((M 118 x1.toNat).toNat)) = 0 → f 0 M) ∧ ((M 122 ((M 118 x1.toNat).toNat)) ≠ 0 → f 1 M))))) ∧ ((M 116 x1.toNat) = 5 → (KW E mX11_valueOf (qL f) M 259 [(0, pR 98), (1, pI x1), (2, pL (M 122 ((M 117 x1.toNat).toNat))), (4, pL (M 122 ((M 118 x1.toNat).toNat)))] [])) ∧ ((M 116 x1.toNat) = 6 → (KW E mX11_valueOf (qL f) M 259 [(0, pR 98), (1, pI x1), (2, pL (M 122 ((M 117 x1.toNat).toNat))), (4, pL (M 122 ((M 118 x1.toNat).toNat)))] [])) ∧ ((M 116 x1.toNat) = 7 → (KW E mX11_valueOf (qL f) M 259 [(0, pR 98), (1, pI x1), (2, pL (M 122 ((M 117 x1.toNat).toNat))), (4, pL (M 122 ((M 118 x1.toNat).toNat)))] [])) ∧ ((M 116 x1.toNat) = 8 → (KW E mX11_valueOf (qL f) M 259 [(0, pR 98), (1, pI x1), (2, pL (M 122 ((M 117 x1.toNat).toNat))), (4, pL (M 122 ((M 118 x1.toNat).toNat)))] [])) ∧ ((M 116 x1.toNat) = 9 → (KW E mX11_valueOf (qL f) M 259 [(0, pR 98), (1, pI x1), (2, pL (M 122 ((M 117 x1.toNat).toNat))), (4, pL (M 122 ((M 118 x1.toNat).toNat)))] [])) ∧ ((M 116 x1.toNat) = 10 → (KW E mX11_valueOf (qL f) M 259 [(0, pR 98), (1, pI x1), (2, pL (M 122 ((M 117 x1.toNat).toNat))), (4, pL (M 122 ((M 118 x1.toNat).toNat)))] [])) ∧ ((M 116 x1.toNat) = 11 → (CL E mX11_bounded [pR 98, pL ((M 122 ((M 117 x1.toNat).toNat)) + (M 122 ((M 118 x1.toNat).toNat)))] M (fun r17 M18 => f r17 M18))) ∧ ((M 116 x1.toNat) = 12 → (CL E mX11_bounded [pR 98, pL ((M 122 ((M 117 x1.toNat).toNat)) - (M 122 ((M 118 x1.toNat).toNat)))] M (fun r19 M20 => f r19 M20))) ∧ ((M 116 x1.toNat) = 13 → (CL E mX11_times [pR 98, pL (M 122 ((M 117 x1.toNat).toNat)), pL (M 122 ((M 118 x1.toNat).toNat))] M (fun r21 M22 => f r21 M22))) ∧ ((M 116 x1.toNat) = 14 → ((zR (M 98 50)) → (((M 98 50) ≠ 0 → ((zR 1) → f 0 (upM M 98 50 1))) ∧ ((M 98 50) = 0 → (((M 122 ((M 118 x1.toNat).toNat)) ≠ 0 → ((zR 0) → ((M 122 ((M 118 x1.toNat).toNat)) ≠ 0) ∧ f (Int.tdiv (M 122 ((M 117 x1.toNat).toNat)) (M 122 ((M 118 x1.toNat).toNat))) (upM M 98 50 0))) ∧ ((M 122 ((M 118 x1.toNat).toNat)) = 0 → ((zR 1) → f 0 (upM M 98 50 1)))))))) ∧ ((M 116 x1.toNat) < 3 ∨ 14 < (M 116 x1.toNat) → (KW E mX11_valueOf (qL f) M 259 [(0, pR 98), (1, pI x1), (2, pL (M 122 ((M 117 x1.toNat).toNat))), (4, pL (M 122 ((M 118 x1.toNat).toNat)))] []))))))) ∧ ((M 116 x1.toNat) = 2 → (((M 122 ((M 117 x1.toNat).toNat)) ≠ 0 → f 0 M) ∧ ((M 122 ((M 117 x1.toNat).toNat)) = 0 → f 1 M)))))))) ∧ ((M 116 x1.toNat) = 1 → (0 ≤ x1 ∧ x1 < 128) ∧ ((iR (M 117 x1.toNat)) → (0 ≤ (M 117 x1.toNat) ∧ (M 117 x1.toNat) < 7) ∧ ((lR (M 121 ((M 117 x1.toNat).toNat))) → f (M 121 ((M 117 x1.toNat).toNat)) M)))))) ∧ ((M 116 x1.toNat) = 0 → (0 ≤ x1 ∧ x1 < 128) ∧ ((iR (M 117 x1.toNat)) → f (M 117 x1.toNat) M))))) : CL E mX11_valueOf [pR 98, pI x1] M f := by
  refine (show KW E mX11_valueOf (qL f) M 0 [(0, pR 98), (1, pI x1)] [] from ?_)
  refine w_aload_n dX11_valueOf_0 rfl ?_
  refine w_getR dX11_valueOf_1 fX11_66 rfl rfl rfl ?_
  refine w_iload_n dX11_valueOf_4 rfl ?_
  obtain ⟨o1, h⟩ := h
  refine w_iald (x := (M 116 x1.toNat)) dX11_valueOf_5 rfl o1 rfl (fun g2 => ?_)
  have h := h g2
  refine w_if_ne dX11_valueOf_6 rfl g2 (fun c => ?_) (fun c => ?_)
  · have h := h.1 c
    refine w_aload_n dX11_valueOf_17 rfl ?_
    refine w_getR dX11_valueOf_18 fX11_66 rfl rfl rfl ?_
    refine w_iload_n dX11_valueOf_21 rfl ?_
    obtain ⟨o3, h⟩ := h
    refine w_iald (x := (M 116 x1.toNat)) dX11_valueOf_22 rfl o3 rfl (fun g4 => ?_)
    have h := h g4
    refine w_iconst dX11_valueOf_23 ?_
    refine w_icmp_ne dX11_valueOf_24 rfl ⟨g4, (by decide)⟩ (fun c => ?_) (fun c => ?_)
    · have h := h.1 c
      refine w_aload_n dX11_valueOf_39 rfl ?_
      refine w_getR dX11_valueOf_40 fX11_85 rfl rfl rfl ?_
      refine w_aload_n dX11_valueOf_43 rfl ?_
      refine w_getR dX11_valueOf_44 fX11_69 rfl rfl rfl ?_
      refine w_iload_n dX11_valueOf_47 rfl ?_
      obtain ⟨o5, h⟩ := h
      refine w_iald (x := (M 117 x1.toNat)) dX11_valueOf_48 rfl o5 rfl (fun g6 => ?_)
      have h := h g6
      obtain ⟨o7, h⟩ := h
      refine w_lald (x := (M 122 ((M 117 x1.toNat).toNat))) dX11_valueOf_49 rfl o7 rfl (fun g8 => ?_)
      have h := h g8
      refine w_lstore_n dX11_valueOf_50 (by decide) ?_
      refine w_aload_n dX11_valueOf_51 rfl ?_
      refine w_getR dX11_valueOf_52 fX11_66 rfl rfl rfl ?_
      refine w_iload_n dX11_valueOf_55 rfl ?_
      obtain ⟨o9, h⟩ := h
      refine w_iald (x := (M 116 x1.toNat)) dX11_valueOf_56 rfl o9 rfl (fun g10 => ?_)
      have h := h g10
      refine w_iconst dX11_valueOf_57 ?_
      refine w_icmp_ne dX11_valueOf_58 rfl ⟨g10, (by decide)⟩ (fun c => ?_) (fun c => ?_)
      · have h := h.1 c
        refine w_aload_n dX11_valueOf_73 rfl ?_
        refine w_getR dX11_valueOf_74 fX11_85 rfl rfl rfl ?_
        refine w_aload_n dX11_valueOf_77 rfl ?_
        refine w_getR dX11_valueOf_78 fX11_72 rfl rfl rfl ?_
        refine w_iload_n dX11_valueOf_81 rfl ?_
        obtain ⟨o11, h⟩ := h
        refine w_iald (x := (M 118 x1.toNat)) dX11_valueOf_82 rfl o11 rfl (fun g12 => ?_)
        have h := h g12
        obtain ⟨o13, h⟩ := h
        refine w_lald (x := (M 122 ((M 118 x1.toNat).toNat))) dX11_valueOf_83 rfl o13 rfl (fun g14 => ?_)
        have h := h g14
        refine w_lstore dX11_valueOf_84 (by decide) ?_
        refine w_aload_n dX11_valueOf_86 rfl ?_
        refine w_getR dX11_valueOf_87 fX11_66 rfl rfl rfl ?_
        refine w_iload_n dX11_valueOf_90 rfl ?_
        obtain ⟨o15, h⟩ := h
        refine w_iald (x := (M 116 x1.toNat)) dX11_valueOf_91 rfl o15 rfl (fun g16 => ?_)
        have h := h g16
        refine w_tsw (tgs := [156, 175, 259, 259, 259, 259, 259, 259, 194, 203, 212, 220]) (td := 259) dX11_valueOf_92 g16 rfl (by decide) rfl ?_ ?_
        · intro j hj hx
          match j, hj, hx with
          | 0, _, hx =>
            have h := h.1 (by simpa using hx)
            clear hx
            refine w_lload_n dX11_valueOf_156 rfl ?_
            refine w_lconst (x := 0) dX11_valueOf_157 rfl ?_
            refine w_lcmp_eq dX11_valueOf_158 dX11_valueOf_159 rfl ⟨g8, (by decide)⟩ (fun c => ?_) (fun c => ?_)
            · have h := h.1 c
              refine w_lconst (x := 0) dX11_valueOf_173 rfl ?_
              exact k_lret dX11_valueOf_174 rfl h
            · have h := h.2 c
              refine w_lload dX11_valueOf_162 rfl ?_
              refine w_lconst (x := 0) dX11_valueOf_164 rfl ?_
              refine w_lcmp_eq dX11_valueOf_165 dX11_valueOf_166 rfl ⟨g14, (by decide)⟩ (fun c => ?_) (fun c => ?_)
              · have h := h.1 c
                refine w_lconst (x := 0) dX11_valueOf_173 rfl ?_
                exact k_lret dX11_valueOf_174 rfl h
              · have h := h.2 c
                refine w_lconst (x := 1) dX11_valueOf_169 rfl ?_
                refine w_goto dX11_valueOf_170 rfl ?_
                exact k_lret dX11_valueOf_174 rfl h
          | 1, _, hx =>
            have h := h.2.1 (by simpa using hx)
            clear hx
            refine w_lload_n dX11_valueOf_175 rfl ?_
            refine w_lconst (x := 0) dX11_valueOf_176 rfl ?_
            refine w_lcmp_ne dX11_valueOf_177 dX11_valueOf_178 rfl ⟨g8, (by decide)⟩ (fun c => ?_) (fun c => ?_)
            · have h := h.1 c
              refine w_lconst (x := 1) dX11_valueOf_188 rfl ?_
              refine w_goto dX11_valueOf_189 rfl ?_
              exact k_lret dX11_valueOf_193 rfl h
            · have h := h.2 c
              refine w_lload dX11_valueOf_181 rfl ?_
              refine w_lconst (x := 0) dX11_valueOf_183 rfl ?_
              refine w_lcmp_eq dX11_valueOf_184 dX11_valueOf_185 rfl ⟨g14, (by decide)⟩ (fun c => ?_) (fun c => ?_)
              · have h := h.1 c
                refine w_lconst (x := 0) dX11_valueOf_192 rfl ?_
                exact k_lret dX11_valueOf_193 rfl h
              · have h := h.2 c
                refine w_lconst (x := 1) dX11_valueOf_188 rfl ?_
                refine w_goto dX11_valueOf_189 rfl ?_
                exact k_lret dX11_valueOf_193 rfl h
          | 2, _, hx =>
            have h := h.2.2.1 (by simpa using hx)
            clear hx
            exact k_pick [2, 3, 1, 0] rfl h
          | 3, _, hx =>
            have h := h.2.2.2.1 (by simpa using hx)
            clear hx
            exact k_pick [2, 3, 1, 0] rfl h
          | 4, _, hx =>
            have h := h.2.2.2.2.1 (by simpa using hx)
            clear hx
            exact k_pick [2, 3, 1, 0] rfl h
          | 5, _, hx =>
            have h := h.2.2.2.2.2.1 (by simpa using hx)
            clear hx
            exact k_pick [2, 3, 1, 0] rfl h
          | 6, _, hx =>
            have h := h.2.2.2.2.2.2.1 (by simpa using hx)
            clear hx
            exact k_pick [2, 3, 1, 0] rfl h
          | 7, _, hx =>
            have h := h.2.2.2.2.2.2.2.1 (by simpa using hx)
            clear hx
            exact k_pick [2, 3, 1, 0] rfl h
          | 8, _, hx =>
            have h := h.2.2.2.2.2.2.2.2.1 (by simpa using hx)
            clear hx
            refine w_aload_n dX11_valueOf_194 rfl ?_
            refine w_lload_n dX11_valueOf_195 rfl ?_
            refine w_lload dX11_valueOf_196 rfl ?_
            refine w_ladd dX11_valueOf_198 ?_
            refine k_vL (as := [pL ((M 122 ((M 117 x1.toNat).toNat)) + (M 122 ((M 118 x1.toNat).toNat)))]) dX11_valueOf_199 kX11_354 ⟨⟨Nat.le_of_ble_eq_true rfl, rfl, rfl⟩, Nat.le_of_ble_eq_true rfl⟩ rfl (by decide) rfl (Nat.le_of_ble_eq_true rfl) h ?_
            intro r17 M18 h
            exact k_lret dX11_valueOf_202 rfl h
          | 9, _, hx =>
            have h := h.2.2.2.2.2.2.2.2.2.1 (by simpa using hx)
            clear hx
            refine w_aload_n dX11_valueOf_203 rfl ?_
            refine w_lload_n dX11_valueOf_204 rfl ?_
            refine w_lload dX11_valueOf_205 rfl ?_
            refine w_lsub dX11_valueOf_207 ?_
            refine k_vL (as := [pL ((M 122 ((M 117 x1.toNat).toNat)) - (M 122 ((M 118 x1.toNat).toNat)))]) dX11_valueOf_208 kX11_354 ⟨⟨Nat.le_of_ble_eq_true rfl, rfl, rfl⟩, Nat.le_of_ble_eq_true rfl⟩ rfl (by decide) rfl (Nat.le_of_ble_eq_true rfl) h ?_
            intro r19 M20 h
            exact k_lret dX11_valueOf_211 rfl h
          | 10, _, hx =>
            have h := h.2.2.2.2.2.2.2.2.2.2.1 (by simpa using hx)
            clear hx
            refine w_aload_n dX11_valueOf_212 rfl ?_
            refine w_lload_n dX11_valueOf_213 rfl ?_
            refine w_lload dX11_valueOf_214 rfl ?_
            refine k_vL (as := [pL (M 122 ((M 117 x1.toNat).toNat)), pL (M 122 ((M 118 x1.toNat).toNat))]) dX11_valueOf_216 kX11_358 ⟨⟨Nat.le_of_ble_eq_true rfl, rfl, rfl⟩, Nat.le_of_ble_eq_true rfl⟩ rfl (by decide) rfl (Nat.le_of_ble_eq_true rfl) h ?_
            intro r21 M22 h
            exact k_lret dX11_valueOf_219 rfl h
          | 11, _, hx =>
            have h := h.2.2.2.2.2.2.2.2.2.2.2.1 (by simpa using hx)
            clear hx
            refine w_aload_n dX11_valueOf_220 rfl ?_
            refine w_aload_n dX11_valueOf_221 rfl ?_
            refine w_getZ (x := (M 98 50)) dX11_valueOf_222 fX11_347 rfl rfl rfl (fun g23 => ?_)
            have h := h g23
            refine w_if_ne dX11_valueOf_225 rfl (z2i g23) (fun c => ?_) (fun c => ?_)
            · have h := h.1 c
              refine w_iconst dX11_valueOf_235 ?_
              refine w_goto dX11_valueOf_236 rfl ?_
              refine w_putZ dX11_valueOf_240 (Or.inl ⟨rfl, fX11_347⟩) rfl rfl (by decide) ?_
              refine w_aload_n dX11_valueOf_243 rfl ?_
              refine w_getZ (x := 1) dX11_valueOf_244 fX11_347 rfl rfl rfl (fun g24 => ?_)
              have h := h g24
              refine w_if_eq dX11_valueOf_247 rfl (z2i g24) (fun c => absurd c (by decide)) (fun _ => ?_)
              refine w_lconst (x := 0) dX11_valueOf_250 rfl ?_
              refine w_goto dX11_valueOf_251 rfl ?_
              exact k_lret dX11_valueOf_258 rfl h
            · have h := h.2 c
              refine w_lload dX11_valueOf_228 rfl ?_
              refine w_lconst (x := 0) dX11_valueOf_230 rfl ?_
              refine w_lcmp_ne dX11_valueOf_231 dX11_valueOf_232 rfl ⟨g14, (by decide)⟩ (fun c => ?_) (fun c => ?_)
              · have h := h.1 c
                refine w_iconst dX11_valueOf_239 ?_
                refine w_putZ dX11_valueOf_240 (Or.inl ⟨rfl, fX11_347⟩) rfl rfl (by decide) ?_
                refine w_aload_n dX11_valueOf_243 rfl ?_
                refine w_getZ (x := 0) dX11_valueOf_244 fX11_347 rfl rfl rfl (fun g25 => ?_)
                have h := h g25
                refine w_if_eq dX11_valueOf_247 rfl (z2i g25) (fun _ => ?_) (fun c => absurd c (by decide))
                refine w_lload_n dX11_valueOf_254 rfl ?_
                refine w_lload dX11_valueOf_255 rfl ?_
                obtain ⟨o26, h⟩ := h
                refine w_ldiv dX11_valueOf_257 ⟨g8, g14, o26⟩ ?_
                exact k_lret dX11_valueOf_258 rfl h
              · have h := h.2 c
                refine w_iconst dX11_valueOf_235 ?_
                refine w_goto dX11_valueOf_236 rfl ?_
                refine w_putZ dX11_valueOf_240 (Or.inl ⟨rfl, fX11_347⟩) rfl rfl (by decide) ?_
                refine w_aload_n dX11_valueOf_243 rfl ?_
                refine w_getZ (x := 1) dX11_valueOf_244 fX11_347 rfl rfl rfl (fun g27 => ?_)
                have h := h g27
                refine w_if_eq dX11_valueOf_247 rfl (z2i g27) (fun c => absurd c (by decide)) (fun _ => ?_)
                refine w_lconst (x := 0) dX11_valueOf_250 rfl ?_
                refine w_goto dX11_valueOf_251 rfl ?_
                exact k_lret dX11_valueOf_258 rfl h
          | _ + 12, hj, _ => exact absurd hj (by simp)
        · intro c
          have h := h.2.2.2.2.2.2.2.2.2.2.2.2 c
          exact k_pick [2, 3, 1, 0] rfl h
      · have h := h.2 c
        refine w_lload_n dX11_valueOf_61 rfl ?_
        refine w_lconst (x := 0) dX11_valueOf_62 rfl ?_
        refine w_lcmp_ne dX11_valueOf_63 dX11_valueOf_64 rfl ⟨g8, (by decide)⟩ (fun c => ?_) (fun c => ?_)
        · have h := h.1 c
          refine w_lconst (x := 0) dX11_valueOf_71 rfl ?_
          exact k_lret dX11_valueOf_72 rfl h
        · have h := h.2 c
          refine w_lconst (x := 1) dX11_valueOf_67 rfl ?_
          refine w_goto dX11_valueOf_68 rfl ?_
          exact k_lret dX11_valueOf_72 rfl h
    · have h := h.2 c
      refine w_aload_n dX11_valueOf_27 rfl ?_
      refine w_getR dX11_valueOf_28 fX11_81 rfl rfl rfl ?_
      refine w_aload_n dX11_valueOf_31 rfl ?_
      refine w_getR dX11_valueOf_32 fX11_69 rfl rfl rfl ?_
      refine w_iload_n dX11_valueOf_35 rfl ?_
      obtain ⟨o28, h⟩ := h
      refine w_iald (x := (M 117 x1.toNat)) dX11_valueOf_36 rfl o28 rfl (fun g29 => ?_)
      have h := h g29
      obtain ⟨o30, h⟩ := h
      refine w_lald (x := (M 121 ((M 117 x1.toNat).toNat))) dX11_valueOf_37 rfl o30 rfl (fun g31 => ?_)
      have h := h g31
      exact k_lret dX11_valueOf_38 rfl h
  · have h := h.2 c
    refine w_aload_n dX11_valueOf_9 rfl ?_
    refine w_getR dX11_valueOf_10 fX11_69 rfl rfl rfl ?_
    refine w_iload_n dX11_valueOf_13 rfl ?_
    obtain ⟨o32, h⟩ := h
    refine w_iald (x := (M 117 x1.toNat)) dX11_valueOf_14 rfl o32 rfl (fun g33 => ?_)
    have h := h g33
    refine w_i2l dX11_valueOf_15 g33 ?_
    exact k_lret dX11_valueOf_16 rfl h
theorem vX11_valueOf_259 {E : Scr} {f : Int → Mem → Prop} {M : Mem} (x1 x2 x4 : Int) (h : (0 ≤ x1 ∧ x1 < 128) ∧ ((iR (M 116 x1.toNat)) → (CI E mX11_compares [pI (M 116 x1.toNat), pL x2, pL x4] M (fun r3 M4 => (iR r3) ∧ ((r3 = 0 → f 0 M4) ∧ (r3 ≠ 0 → f 1 M4)))))) : KW E mX11_valueOf (qL f) M 259 [(0, pR 98), (1, pI x1), (2, pL x2), (4, pL x4)] [] := by
  refine w_aload_n dX11_valueOf_259 rfl ?_
  refine w_getR dX11_valueOf_260 fX11_66 rfl rfl rfl ?_
  refine w_iload_n dX11_valueOf_263 rfl ?_
  obtain ⟨o1, h⟩ := h
  refine w_iald (x := (M 116 x1.toNat)) dX11_valueOf_264 rfl o1 rfl (fun g2 => ?_)
  have h := h g2
  refine w_lload_n dX11_valueOf_265 rfl ?_
  refine w_lload dX11_valueOf_266 rfl ?_
  refine k_sI (as := [pI (M 116 x1.toNat), pL x2, pL x4]) dX11_valueOf_268 kX11_362 ⟨⟨Nat.le_of_ble_eq_true rfl, rfl, rfl⟩, Nat.le_of_ble_eq_true rfl⟩ rfl (Nat.le_of_ble_eq_true rfl) h ?_
  intro r3 M4 h
  obtain ⟨o5, h⟩ := h
  refine w_if_eq dX11_valueOf_271 rfl o5 (fun c => ?_) (fun c => ?_)
  · have h := h.1 c
    refine w_lconst (x := 0) dX11_valueOf_278 rfl ?_
    exact k_lret dX11_valueOf_279 rfl h
  · have h := h.2 c
    refine w_lconst (x := 1) dX11_valueOf_274 rfl ?_
    refine w_goto dX11_valueOf_275 rfl ?_
    exact k_lret dX11_valueOf_279 rfl h
theorem vX11_waitsBy_0 {E : Scr} {f : Int → Mem → Prop} {M : Mem} (x0 : Int) (h : (iR x0) ∧ ((x0 ≠ 16 → (iR x0) ∧ ((x0 ≠ 14 → (iR x0) ∧ ((x0 ≠ 15 → f 0 M) ∧ (x0 = 15 → f 1 M))) ∧ (x0 = 14 → f 2 M))) ∧ (x0 = 16 → f 3 M))) : CI E mX11_waitsBy [pI x0] M f := by
  refine (show KW E mX11_waitsBy (qI f) M 0 [(0, pI x0)] [] from ?_)
  refine w_iload_n dX11_waitsBy_0 rfl ?_
  refine w_bipush dX11_waitsBy_1 (by decide) ?_
  obtain ⟨o1, h⟩ := h
  refine w_icmp_ne dX11_waitsBy_3 rfl ⟨o1, (by decide)⟩ (fun c => ?_) (fun c => ?_)
  · have h := h.1 c
    refine w_iload_n dX11_waitsBy_10 rfl ?_
    refine w_bipush dX11_waitsBy_11 (by decide) ?_
    obtain ⟨o2, h⟩ := h
    refine w_icmp_ne dX11_waitsBy_13 rfl ⟨o2, (by decide)⟩ (fun c => ?_) (fun c => ?_)
    · have h := h.1 c
      refine w_iload_n dX11_waitsBy_20 rfl ?_
      refine w_bipush dX11_waitsBy_21 (by decide) ?_
      obtain ⟨o3, h⟩ := h
      refine w_icmp_ne dX11_waitsBy_23 rfl ⟨o3, (by decide)⟩ (fun c => ?_) (fun c => ?_)
      · have h := h.1 c
        refine w_iconst dX11_waitsBy_30 ?_
        exact k_iret dX11_waitsBy_31 rfl h
      · have h := h.2 c
        refine w_iconst dX11_waitsBy_26 ?_
        refine w_goto dX11_waitsBy_27 rfl ?_
        exact k_iret dX11_waitsBy_31 rfl h
    · have h := h.2 c
      refine w_iconst dX11_waitsBy_16 ?_
      refine w_goto dX11_waitsBy_17 rfl ?_
      exact k_iret dX11_waitsBy_31 rfl h
  · have h := h.2 c
    refine w_iconst dX11_waitsBy_6 ?_
    refine w_goto dX11_waitsBy_7 rfl ?_
    exact k_iret dX11_waitsBy_31 rfl h
theorem vX11_leans_0 {E : Scr} {f : Mem → Prop} {M : Mem} (x1 x2 x3 : Int) (h : ((iR (M 98 33)) → (0 ≤ (64 + (M 98 33)) ∧ (64 + (M 98 33)) < 128) ∧ (iR x1) ∧ ((iR (M 98 33)) → (0 ≤ (64 + (M 98 33)) ∧ (64 + (M 98 33)) < 128) ∧ (iR x2) ∧ ((iR (M 98 33)) → (0 ≤ (64 + (M 98 33)) ∧ (64 + (M 98 33)) < 128) ∧ (iR x3) ∧ ((iR (M 98 43)) → ((iR (M 98 33)) → (0 ≤ (M 98 43) ∧ (M 98 43) < 96) ∧ ((iR (M 98 43)) → (iR ((M 98 43) + 1)) ∧ ((iR (M 98 33)) → (iR ((M 98 33) + 1)) ∧ f (upM (upM (upM (upM (upM (upM M 110 ((64 + (M 98 33)).toNat) x1) 111 ((64 + (M 98 33)).toNat) x2) 112 ((64 + (M 98 33)).toNat) x3) 120 ((M 98 43).toNat) (M 98 33)) 98 43 ((M 98 43) + 1)) 98 33 ((M 98 33) + 1)))))))))) : CV E mX11_leans [pR 98, pI x1, pI x2, pI x3] M f := by
  refine (show KW E mX11_leans (qV f) M 0 [(0, pR 98), (1, pI x1), (2, pI x2), (3, pI x3)] [] from ?_)
  refine w_aload_n dX11_leans_0 rfl ?_
  refine w_getR dX11_leans_1 fX11_48 rfl rfl rfl ?_
  refine w_bipush dX11_leans_4 (by decide) ?_
  refine w_aload_n dX11_leans_6 rfl ?_
  refine w_getI (x := (M 98 33)) dX11_leans_7 fX11_234 rfl rfl rfl (fun g1 => ?_)
  have h := h g1
  refine w_iadd dX11_leans_10 ?_
  refine w_iload_n dX11_leans_11 rfl ?_
  obtain ⟨o2, h⟩ := h
  obtain ⟨o3, h⟩ := h
  refine w_iast dX11_leans_12 rfl o2 o3 ?_
  refine w_aload_n dX11_leans_13 rfl ?_
  refine w_getR dX11_leans_14 fX11_51 rfl rfl rfl ?_
  refine w_bipush dX11_leans_17 (by decide) ?_
  refine w_aload_n dX11_leans_19 rfl ?_
  refine w_getI (x := (M 98 33)) dX11_leans_20 fX11_234 rfl rfl rfl (fun g4 => ?_)
  have h := h g4
  refine w_iadd dX11_leans_23 ?_
  refine w_iload_n dX11_leans_24 rfl ?_
  obtain ⟨o5, h⟩ := h
  obtain ⟨o6, h⟩ := h
  refine w_iast dX11_leans_25 rfl o5 o6 ?_
  refine w_aload_n dX11_leans_26 rfl ?_
  refine w_getR dX11_leans_27 fX11_54 rfl rfl rfl ?_
  refine w_bipush dX11_leans_30 (by decide) ?_
  refine w_aload_n dX11_leans_32 rfl ?_
  refine w_getI (x := (M 98 33)) dX11_leans_33 fX11_234 rfl rfl rfl (fun g7 => ?_)
  have h := h g7
  refine w_iadd dX11_leans_36 ?_
  refine w_iload_n dX11_leans_37 rfl ?_
  obtain ⟨o8, h⟩ := h
  obtain ⟨o9, h⟩ := h
  refine w_iast dX11_leans_38 rfl o8 o9 ?_
  refine w_aload_n dX11_leans_39 rfl ?_
  refine w_getR dX11_leans_40 fX11_78 rfl rfl rfl ?_
  refine w_aload_n dX11_leans_43 rfl ?_
  refine w_getI (x := (M 98 43)) dX11_leans_44 fX11_297 rfl rfl rfl (fun g10 => ?_)
  have h := h g10
  refine w_aload_n dX11_leans_47 rfl ?_
  refine w_getI (x := (M 98 33)) dX11_leans_48 fX11_234 rfl rfl rfl (fun g11 => ?_)
  have h := h g11
  obtain ⟨o12, h⟩ := h
  refine w_iast dX11_leans_51 rfl o12 g11 ?_
  refine w_aload_n dX11_leans_52 rfl ?_
  refine w_dup dX11_leans_53 rfl ?_
  refine w_getI (x := (M 98 43)) dX11_leans_54 fX11_297 rfl rfl rfl (fun g13 => ?_)
  have h := h g13
  refine w_iconst dX11_leans_57 ?_
  refine w_iadd dX11_leans_58 ?_
  obtain ⟨o14, h⟩ := h
  refine w_putI dX11_leans_59 (Or.inl ⟨rfl, fX11_297⟩) rfl rfl o14 ?_
  refine w_aload_n dX11_leans_62 rfl ?_
  refine w_dup dX11_leans_63 rfl ?_
  refine w_getI (x := (M 98 33)) dX11_leans_64 fX11_234 rfl rfl rfl (fun g15 => ?_)
  have h := h g15
  refine w_iconst dX11_leans_67 ?_
  refine w_iadd dX11_leans_68 ?_
  obtain ⟨o16, h⟩ := h
  refine w_putI dX11_leans_69 (Or.inl ⟨rfl, fX11_234⟩) rfl rfl o16 ?_
  exact k_vret dX11_leans_72 rfl h
theorem vX11_binds_in {E : Scr} {f : Mem → Prop} {M : Mem} (x1 : Int) (h : (KW E mX11_binds (qV f) M 0 [(0, pR 98), (1, pI x1)] [])) : CV E mX11_binds [pR 98, pI x1] M f := by
  refine (show KW E mX11_binds (qV f) M 0 [(0, pR 98), (1, pI x1)] [] from ?_)
  exact k_pick [0, 1] rfl h
theorem vX11_binds_0 {E : Scr} {f : Mem → Prop} {M : Mem} (x1 : Int) (h : ((iR (M 98 42)) → (((M 98 42) ≤ 0 → f M) ∧ ((M 98 42) > 0 → ((iR (M 98 42)) → (0 ≤ ((M 98 42) - 1) ∧ ((M 98 42) - 1) < 96) ∧ ((iR (M 119 (((M 98 42) - 1).toNat))) → (CI E mX11_waitsBy [pI (M 119 (((M 98 42) - 1).toNat))] M (fun r5 M6 => (iR r5) ∧ (iR x1) ∧ ((r5 < x1 → f M6) ∧ (r5 ≥ x1 → ((iR (M6 98 42)) → (iR ((M6 98 42) - 1)) ∧ ((iR ((M6 98 42) - 1)) → (0 ≤ ((M6 98 42) - 1) ∧ ((M6 98 42) - 1) < 96) ∧ ((iR (M6 119 (((M6 98 42) - 1).toNat))) → (((M6 119 (((M6 98 42) - 1).toNat)) ≠ 16 → (CI E mX11_dropHeld [pR 98] (upM M6 98 42 ((M6 98 42) - 1)) (fun r14 M15 => (KW E mX11_binds (qV f) M15 59 [(0, pR 98), (1, pI x1), (2, pI (M6 119 (((M6 98 42) - 1).toNat)))] [pI r14])))) ∧ ((M6 119 (((M6 98 42) - 1).toNat)) = 16 → (KW E mX11_binds (qV f) (upM M6 98 42 ((M6 98 42) - 1)) 59 [(0, pR 98), (1, pI x1), (2, pI (M6 119 (((M6 98 42) - 1).toNat)))] [pI (-1)])))))))))))))))) : KW E mX11_binds (qV f) M 0 [(0, pR 98), (1, pI x1)] [] := by
  refine w_aload_n dX11_binds_0 rfl ?_
  refine w_getI (x := (M 98 42)) dX11_binds_1 fX11_300 rfl rfl rfl (fun g1 => ?_)
  have h := h g1
  refine w_if_le dX11_binds_4 rfl g1 (fun c => ?_) (fun c => ?_)
  · have h := h.1 c
    exact k_vret dX11_binds_98 rfl h
  · have h := h.2 c
    refine w_aload_n dX11_binds_7 rfl ?_
    refine w_getR dX11_binds_8 fX11_75 rfl rfl rfl ?_
    refine w_aload_n dX11_binds_11 rfl ?_
    refine w_getI (x := (M 98 42)) dX11_binds_12 fX11_300 rfl rfl rfl (fun g2 => ?_)
    have h := h g2
    refine w_iconst dX11_binds_15 ?_
    refine w_isub dX11_binds_16 ?_
    obtain ⟨o3, h⟩ := h
    refine w_iald (x := (M 119 (((M 98 42) - 1).toNat))) dX11_binds_17 rfl o3 rfl (fun g4 => ?_)
    have h := h g4
    refine k_sI (as := [pI (M 119 (((M 98 42) - 1).toNat))]) dX11_binds_18 kX11_366 ⟨⟨Nat.le_of_ble_eq_true rfl, rfl, rfl⟩, Nat.le_of_ble_eq_true rfl⟩ rfl (Nat.le_of_ble_eq_true rfl) h ?_
    intro r5 M6 h
    refine w_iload_n dX11_binds_21 rfl ?_
    obtain ⟨o7, h⟩ := h
    obtain ⟨o8, h⟩ := h
    refine w_icmp_lt dX11_binds_22 rfl ⟨o7, o8⟩ (fun c => ?_) (fun c => ?_)
    · have h := h.1 c
      exact k_vret dX11_binds_98 rfl h
    · have h := h.2 c
      refine w_aload_n dX11_binds_25 rfl ?_
      refine w_dup dX11_binds_26 rfl ?_
      refine w_getI (x := (M6 98 42)) dX11_binds_27 fX11_300 rfl rfl rfl (fun g9 => ?_)
      have h := h g9
      refine w_iconst dX11_binds_30 ?_
      refine w_isub dX11_binds_31 ?_
      obtain ⟨o10, h⟩ := h
      refine w_putI dX11_binds_32 (Or.inl ⟨rfl, fX11_300⟩) rfl rfl o10 ?_
      refine w_aload_n dX11_binds_35 rfl ?_
      refine w_getR dX11_binds_36 fX11_75 rfl rfl rfl ?_
      refine w_aload_n dX11_binds_39 rfl ?_
      refine w_getI (x := ((M6 98 42) - 1)) dX11_binds_40 fX11_300 rfl rfl rfl (fun g11 => ?_)
      have h := h g11
      obtain ⟨o12, h⟩ := h
      refine w_iald (x := (M6 119 (((M6 98 42) - 1).toNat))) dX11_binds_43 rfl o12 rfl (fun g13 => ?_)
      have h := h g13
      refine w_istore_n dX11_binds_44 (by decide) ?_
      refine w_iload_n dX11_binds_45 rfl ?_
      refine w_bipush dX11_binds_46 (by decide) ?_
      refine w_icmp_ne dX11_binds_48 rfl ⟨g13, (by decide)⟩ (fun c => ?_) (fun c => ?_)
      · have h := h.1 c
        refine w_aload_n dX11_binds_55 rfl ?_
        refine k_vI (as := []) dX11_binds_56 kX11_307 ⟨⟨Nat.le_of_ble_eq_true rfl, rfl, rfl⟩, Nat.le_of_ble_eq_true rfl⟩ rfl (by decide) rfl (Nat.le_of_ble_eq_true rfl) h ?_
        intro r14 M15 h
        exact k_pick [1, 2, 0] rfl h
      · have h := h.2 c
        refine w_iconst dX11_binds_51 ?_
        refine w_goto dX11_binds_52 rfl ?_
        exact k_pick [1, 2, 0] rfl h
theorem vX11_binds_59 {E : Scr} {f : Mem → Prop} {M : Mem} (x1 x2 s0 : Int) (h : (CI E mX11_dropHeld [pR 98] M (fun r1 M2 => (iR x2) ∧ ((x2 ≠ 16 → (iR x2) ∧ ((x2 ≠ 14 → (CV E mX11_leans [pR 98, pI 6, pI r1, pI s0] M2 (fun M6 => (KW E mX11_binds (qV f) M6 0 [(0, pR 98), (1, pI x1)] [])))) ∧ (x2 = 14 → (CV E mX11_leans [pR 98, pI 5, pI r1, pI s0] M2 (fun M8 => (KW E mX11_binds (qV f) M8 0 [(0, pR 98), (1, pI x1)] [])))))) ∧ (x2 = 16 → (CV E mX11_leans [pR 98, pI 4, pI r1, pI s0] M2 (fun M10 => (KW E mX11_binds (qV f) M10 0 [(0, pR 98), (1, pI x1)] [])))))))) : KW E mX11_binds (qV f) M 59 [(0, pR 98), (1, pI x1), (2, pI x2)] [pI s0] := by
  refine w_istore_n dX11_binds_59 (by decide) ?_
  refine w_aload_n dX11_binds_60 rfl ?_
  refine k_vI (as := []) dX11_binds_61 kX11_307 ⟨⟨Nat.le_of_ble_eq_true rfl, rfl, rfl⟩, Nat.le_of_ble_eq_true rfl⟩ rfl (by decide) rfl (Nat.le_of_ble_eq_true rfl) h ?_
  intro r1 M2 h
  refine w_istore dX11_binds_64 (by decide) ?_
  refine w_aload_n dX11_binds_66 rfl ?_
  refine w_iload_n dX11_binds_67 rfl ?_
  refine w_bipush dX11_binds_68 (by decide) ?_
  obtain ⟨o3, h⟩ := h
  refine w_icmp_ne dX11_binds_70 rfl ⟨o3, (by decide)⟩ (fun c => ?_) (fun c => ?_)
  · have h := h.1 c
    refine w_iload_n dX11_binds_77 rfl ?_
    refine w_bipush dX11_binds_78 (by decide) ?_
    obtain ⟨o4, h⟩ := h
    refine w_icmp_ne dX11_binds_80 rfl ⟨o4, (by decide)⟩ (fun c => ?_) (fun c => ?_)
    · have h := h.1 c
      refine w_bipush dX11_binds_87 (by decide) ?_
      refine w_iload dX11_binds_89 rfl ?_
      refine w_iload_n dX11_binds_91 rfl ?_
      refine k_vV (as := [pI 6, pI r1, pI s0]) dX11_binds_92 kX11_369 ⟨⟨Nat.le_of_ble_eq_true rfl, rfl, rfl⟩, Nat.le_of_ble_eq_true rfl⟩ rfl (by decide) rfl (Nat.le_of_ble_eq_true rfl) h ?_
      intro M6 h
      refine w_goto dX11_binds_95 rfl ?_
      exact k_pick [2, 3] rfl h
    · have h := h.2 c
      refine w_iconst dX11_binds_83 ?_
      refine w_goto dX11_binds_84 rfl ?_
      refine w_iload dX11_binds_89 rfl ?_
      refine w_iload_n dX11_binds_91 rfl ?_
      refine k_vV (as := [pI 5, pI r1, pI s0]) dX11_binds_92 kX11_369 ⟨⟨Nat.le_of_ble_eq_true rfl, rfl, rfl⟩, Nat.le_of_ble_eq_true rfl⟩ rfl (by decide) rfl (Nat.le_of_ble_eq_true rfl) h ?_
      intro M8 h
      refine w_goto dX11_binds_95 rfl ?_
      exact k_pick [2, 3] rfl h
  · have h := h.2 c
    refine w_iconst dX11_binds_73 ?_
    refine w_goto dX11_binds_74 rfl ?_
    refine w_iload dX11_binds_89 rfl ?_
    refine w_iload_n dX11_binds_91 rfl ?_
    refine k_vV (as := [pI 4, pI r1, pI s0]) dX11_binds_92 kX11_369 ⟨⟨Nat.le_of_ble_eq_true rfl, rfl, rfl⟩, Nat.le_of_ble_eq_true rfl⟩ rfl (by decide) rfl (Nat.le_of_ble_eq_true rfl) h ?_
    intro M10 h
    refine w_goto dX11_binds_95 rfl ?_
    exact k_pick [2, 3] rfl h
theorem vX11_simpleRead_0 {E : Scr} {f : Int → Mem → Prop} {M : Mem} (x1 : Int) (h : ((iR (M 98 9)) → (CI E mX11_isCounted [pR 98] M (fun r2 M3 => (iR r2) ∧ ((r2 ≠ 0 → (CV E mX11_token [pR 98] M3 (fun M6 => (iR ((M 98 9) - 10)) ∧ ((((M 98 9) - 10) ≠ 2 → ((iR (M6 98 10)) → (CI E mX11_latchThere [pR 98] M6 (fun r9 M10 => (iR r9) ∧ ((r9 ≠ 0 → ((iR (M10 98 11)) → (iR ((M 98 9) - 10)) ∧ ((((M 98 9) - 10) ≥ 2 → (0 ≤ (8 + (M10 98 11)) ∧ (8 + (M10 98 11)) < 16) ∧ ((iR (M10 105 ((8 + (M10 98 11)).toNat))) → (((M10 105 ((8 + (M10 98 11)).toNat)) ≥ 0 → (0 ≤ (8 + (M10 98 11)) ∧ (8 + (M10 98 11)) < 16) ∧ ((iR (M10 106 ((8 + (M10 98 11)).toNat))) → (CI E mX11_isOf [pI (M10 106 ((8 + (M10 98 11)).toNat)), pI x1] M10 (fun r18 M19 => (iR r18) ∧ ((r18 = 0 → (KW E mX11_simpleRead (qI f) M19 127 [(0, pR 98), (1, pI x1), (2, pI ((M 98 9) - 10)), (3, pI (M6 98 10)), (4, pI (8 + (M10 98 11)))] [pI 0])) ∧ (r18 ≠ 0 → (KW E mX11_simpleRead (qI f) M19 127 [(0, pR 98), (1, pI x1), (2, pI ((M 98 9) - 10)), (3, pI (M6 98 10)), (4, pI (8 + (M10 98 11)))] [pI 5]))))))) ∧ ((M10 105 ((8 + (M10 98 11)).toNat)) < 0 → (KW E mX11_simpleRead (qI f) M10 127 [(0, pR 98), (1, pI x1), (2, pI ((M 98 9) - 10)), (3, pI (M6 98 10)), (4, pI (8 + (M10 98 11)))] [pI 4]))))) ∧ (((M 98 9) - 10) < 2 → ((iR (M10 98 11)) → (iR x1) ∧ (((M10 98 11) ≠ x1 → (KW E mX11_simpleRead (qI f) M10 127 [(0, pR 98), (1, pI x1), (2, pI ((M 98 9) - 10)), (3, pI (M6 98 10)), (4, pI (8 + (M10 98 11)))] [pI 0])) ∧ ((M10 98 11) = x1 → (KW E mX11_simpleRead (qI f) M10 127 [(0, pR 98), (1, pI x1), (2, pI ((M 98 9) - 10)), (3, pI (M6 98 10)), (4, pI (8 + (M10 98 11)))] [pI 5])))))))) ∧ (r9 = 0 → f 0 M10)))))) ∧ (((M 98 9) - 10) = 2 → (CI E mX11_number [pR 98, pI 0, pI 8] M6 (fun r23 M24 => (iR r23) ∧ ((r23 ≠ 0 → ((iR (M24 98 11)) → (CV E mX11_leans [pR 98, pI 2, pI (M24 98 11), pI (-1)] M24 (fun M28 => f 1 M28)))) ∧ (r23 = 0 → f 0 M24))))))))) ∧ (r2 = 0 → f 0 M3)))))) : CI E mX11_simpleRead [pR 98, pI x1] M f := by
  refine (show KW E mX11_simpleRead (qI f) M 0 [(0, pR 98), (1, pI x1)] [] from ?_)
  refine w_aload_n dX11_simpleRead_0 rfl ?_
  refine w_getI (x := (M 98 9)) dX11_simpleRead_1 fX11_189 rfl rfl rfl (fun g1 => ?_)
  have h := h g1
  refine w_bipush dX11_simpleRead_4 (by decide) ?_
  refine w_isub dX11_simpleRead_6 ?_
  refine w_istore_n dX11_simpleRead_7 (by decide) ?_
  refine w_aload_n dX11_simpleRead_8 rfl ?_
  refine k_vI (as := []) dX11_simpleRead_9 kX11_329 ⟨⟨Nat.le_of_ble_eq_true rfl, rfl, rfl⟩, Nat.le_of_ble_eq_true rfl⟩ rfl (by decide) rfl (Nat.le_of_ble_eq_true rfl) h ?_
  intro r2 M3 h
  obtain ⟨o4, h⟩ := h
  refine w_if_ne dX11_simpleRead_12 rfl o4 (fun c => ?_) (fun c => ?_)
  · have h := h.1 c
    refine w_aload_n dX11_simpleRead_17 rfl ?_
    refine k_vV (as := []) dX11_simpleRead_18 kX11_212 ⟨⟨Nat.le_of_ble_eq_true rfl, rfl, rfl⟩, Nat.le_of_ble_eq_true rfl⟩ rfl (by decide) rfl (Nat.le_of_ble_eq_true rfl) h ?_
    intro M6 h
    refine w_iload_n dX11_simpleRead_21 rfl ?_
    refine w_iconst dX11_simpleRead_22 ?_
    obtain ⟨o7, h⟩ := h
    refine w_icmp_ne dX11_simpleRead_23 rfl ⟨o7, (by decide)⟩ (fun c => ?_) (fun c => ?_)
    · have h := h.1 c
      refine w_aload_n dX11_simpleRead_50 rfl ?_
      refine w_getI (x := (M6 98 10)) dX11_simpleRead_51 fX11_169 rfl rfl rfl (fun g8 => ?_)
      have h := h g8
      refine w_istore_n dX11_simpleRead_54 (by decide) ?_
      refine w_aload_n dX11_simpleRead_55 rfl ?_
      refine k_vI (as := []) dX11_simpleRead_56 kX11_269 ⟨⟨Nat.le_of_ble_eq_true rfl, rfl, rfl⟩, Nat.le_of_ble_eq_true rfl⟩ rfl (by decide) rfl (Nat.le_of_ble_eq_true rfl) h ?_
      intro r9 M10 h
      obtain ⟨o11, h⟩ := h
      refine w_if_ne dX11_simpleRead_59 rfl o11 (fun c => ?_) (fun c => ?_)
      · have h := h.1 c
        refine w_bipush dX11_simpleRead_64 (by decide) ?_
        refine w_aload_n dX11_simpleRead_66 rfl ?_
        refine w_getI (x := (M10 98 11)) dX11_simpleRead_67 fX11_209 rfl rfl rfl (fun g12 => ?_)
        have h := h g12
        refine w_iadd dX11_simpleRead_70 ?_
        refine w_istore dX11_simpleRead_71 (by decide) ?_
        refine w_iload_n dX11_simpleRead_73 rfl ?_
        refine w_iconst dX11_simpleRead_74 ?_
        obtain ⟨o13, h⟩ := h
        refine w_icmp_ge dX11_simpleRead_75 rfl ⟨o13, (by decide)⟩ (fun c => ?_) (fun c => ?_)
        · have h := h.1 c
          refine w_aload_n dX11_simpleRead_94 rfl ?_
          refine w_getR dX11_simpleRead_95 fX11_33 rfl rfl rfl ?_
          refine w_iload dX11_simpleRead_98 rfl ?_
          obtain ⟨o14, h⟩ := h
          refine w_iald (x := (M10 105 ((8 + (M10 98 11)).toNat))) dX11_simpleRead_100 rfl o14 rfl (fun g15 => ?_)
          have h := h g15
          refine w_if_ge dX11_simpleRead_101 rfl g15 (fun c => ?_) (fun c => ?_)
          · have h := h.1 c
            refine w_aload_n dX11_simpleRead_108 rfl ?_
            refine w_getR dX11_simpleRead_109 fX11_36 rfl rfl rfl ?_
            refine w_iload dX11_simpleRead_112 rfl ?_
            obtain ⟨o16, h⟩ := h
            refine w_iald (x := (M10 106 ((8 + (M10 98 11)).toNat))) dX11_simpleRead_114 rfl o16 rfl (fun g17 => ?_)
            have h := h g17
            refine w_iload_n dX11_simpleRead_115 rfl ?_
            refine k_sI (as := [pI (M10 106 ((8 + (M10 98 11)).toNat)), pI x1]) dX11_simpleRead_116 kX11_372 ⟨⟨Nat.le_of_ble_eq_true rfl, rfl, rfl⟩, Nat.le_of_ble_eq_true rfl⟩ rfl (Nat.le_of_ble_eq_true rfl) h ?_
            intro r18 M19 h
            obtain ⟨o20, h⟩ := h
            refine w_if_eq dX11_simpleRead_119 rfl o20 (fun c => ?_) (fun c => ?_)
            · have h := h.1 c
              refine w_iconst dX11_simpleRead_126 ?_
              exact k_pick [3, 4, 2, 1, 0] rfl h
            · have h := h.2 c
              refine w_iconst dX11_simpleRead_122 ?_
              refine w_goto dX11_simpleRead_123 rfl ?_
              exact k_pick [3, 4, 2, 1, 0] rfl h
          · have h := h.2 c
            refine w_iconst dX11_simpleRead_104 ?_
            refine w_goto dX11_simpleRead_105 rfl ?_
            exact k_pick [3, 4, 2, 1, 0] rfl h
        · have h := h.2 c
          refine w_aload_n dX11_simpleRead_78 rfl ?_
          refine w_getI (x := (M10 98 11)) dX11_simpleRead_79 fX11_209 rfl rfl rfl (fun g21 => ?_)
          have h := h g21
          refine w_iload_n dX11_simpleRead_82 rfl ?_
          obtain ⟨o22, h⟩ := h
          refine w_icmp_ne dX11_simpleRead_83 rfl ⟨g21, o22⟩ (fun c => ?_) (fun c => ?_)
          · have h := h.1 c
            refine w_iconst dX11_simpleRead_90 ?_
            refine w_goto dX11_simpleRead_91 rfl ?_
            exact k_pick [3, 4, 2, 1, 0] rfl h
          · have h := h.2 c
            refine w_iconst dX11_simpleRead_86 ?_
            refine w_goto dX11_simpleRead_87 rfl ?_
            exact k_pick [3, 4, 2, 1, 0] rfl h
      · have h := h.2 c
        refine w_iconst dX11_simpleRead_62 ?_
        exact k_zret dX11_simpleRead_63 rfl (by decide) h
    · have h := h.2 c
      refine w_aload_n dX11_simpleRead_26 rfl ?_
      refine w_iconst dX11_simpleRead_27 ?_
      refine w_bipush dX11_simpleRead_28 (by decide) ?_
      refine k_vI (as := [pI 0, pI 8]) dX11_simpleRead_30 kX11_218 ⟨⟨Nat.le_of_ble_eq_true rfl, rfl, rfl⟩, Nat.le_of_ble_eq_true rfl⟩ rfl (by decide) rfl (Nat.le_of_ble_eq_true rfl) h ?_
      intro r23 M24 h
      obtain ⟨o25, h⟩ := h
      refine w_if_ne dX11_simpleRead_33 rfl o25 (fun c => ?_) (fun c => ?_)
      · have h := h.1 c
        refine w_aload_n dX11_simpleRead_38 rfl ?_
        refine w_iconst dX11_simpleRead_39 ?_
        refine w_aload_n dX11_simpleRead_40 rfl ?_
        refine w_getI (x := (M24 98 11)) dX11_simpleRead_41 fX11_209 rfl rfl rfl (fun g26 => ?_)
        have h := h g26
        refine w_iconst dX11_simpleRead_44 ?_
        refine k_vV (as := [pI 2, pI (M24 98 11), pI (-1)]) dX11_simpleRead_45 kX11_369 ⟨⟨Nat.le_of_ble_eq_true rfl, rfl, rfl⟩, Nat.le_of_ble_eq_true rfl⟩ rfl (by decide) rfl (Nat.le_of_ble_eq_true rfl) h ?_
        intro M28 h
        refine w_iconst dX11_simpleRead_48 ?_
        exact k_zret dX11_simpleRead_49 rfl (by decide) h
      · have h := h.2 c
        refine w_iconst dX11_simpleRead_36 ?_
        exact k_zret dX11_simpleRead_37 rfl (by decide) h
  · have h := h.2 c
    refine w_iconst dX11_simpleRead_15 ?_
    exact k_zret dX11_simpleRead_16 rfl (by decide) h
theorem vX11_simpleRead_127 {E : Scr} {f : Int → Mem → Prop} {M : Mem} (x1 x2 x3 x4 s0 : Int) (h : (iR s0) ∧ ((s0 ≤ 0 → (0 ≤ (8 + x1) ∧ (8 + x1) < 16) ∧ ((iR (M 106 ((8 + x1).toNat))) → (iR x2) ∧ ((x2 ≥ 2 → (0 ≤ x4 ∧ x4 < 16) ∧ ((iR (M 106 x4.toNat)) → (KW E mX11_simpleRead (qI f) M 177 [(0, pR 98), (2, pI x2), (4, pI x4)] [pI (M 106 x4.toNat), pI (M 106 ((8 + x1).toNat)), pI (8 + x1), pR 106]))) ∧ (x2 < 2 → ((iR (M 98 11)) → (KW E mX11_simpleRead (qI f) M 177 [(0, pR 98), (2, pI x2), (4, pI x4)] [pI (bShl 1 (M 98 11)), pI (M 106 ((8 + x1).toNat)), pI (8 + x1), pR 106])))))) ∧ (s0 > 0 → (iR x3) ∧ (CI E mX11_wrong [pR 98, pI s0] (upM M 98 10 x3) (fun r9 M10 => (zR r9) ∧ f r9 M10))))) : KW E mX11_simpleRead (qI f) M 127 [(0, pR 98), (1, pI x1), (2, pI x2), (3, pI x3), (4, pI x4)] [pI s0] := by
  refine w_istore dX11_simpleRead_127 (by decide) ?_
  refine w_iload dX11_simpleRead_129 rfl ?_
  obtain ⟨o1, h⟩ := h
  refine w_if_le dX11_simpleRead_131 rfl o1 (fun c => ?_) (fun c => ?_)
  · have h := h.1 c
    refine w_aload_n dX11_simpleRead_146 rfl ?_
    refine w_getR dX11_simpleRead_147 fX11_36 rfl rfl rfl ?_
    refine w_bipush dX11_simpleRead_150 (by decide) ?_
    refine w_iload_n dX11_simpleRead_152 rfl ?_
    refine w_iadd dX11_simpleRead_153 ?_
    refine w_dup2 dX11_simpleRead_154 ⟨rfl, rfl⟩ ?_
    obtain ⟨o2, h⟩ := h
    refine w_iald (x := (M 106 ((8 + x1).toNat))) dX11_simpleRead_155 rfl o2 rfl (fun g3 => ?_)
    have h := h g3
    refine w_iload_n dX11_simpleRead_156 rfl ?_
    refine w_iconst dX11_simpleRead_157 ?_
    obtain ⟨o4, h⟩ := h
    refine w_icmp_ge dX11_simpleRead_158 rfl ⟨o4, (by decide)⟩ (fun c => ?_) (fun c => ?_)
    · have h := h.1 c
      refine w_aload_n dX11_simpleRead_170 rfl ?_
      refine w_getR dX11_simpleRead_171 fX11_36 rfl rfl rfl ?_
      refine w_iload dX11_simpleRead_174 rfl ?_
      obtain ⟨o5, h⟩ := h
      refine w_iald (x := (M 106 x4.toNat)) dX11_simpleRead_176 rfl o5 rfl (fun g6 => ?_)
      have h := h g6
      exact k_pick [1, 3, 5] rfl h
    · have h := h.2 c
      refine w_iconst dX11_simpleRead_161 ?_
      refine w_aload_n dX11_simpleRead_162 rfl ?_
      refine w_getI (x := (M 98 11)) dX11_simpleRead_163 fX11_209 rfl rfl rfl (fun g7 => ?_)
      have h := h g7
      refine w_ishl dX11_simpleRead_166 ?_
      refine w_goto dX11_simpleRead_167 rfl ?_
      exact k_pick [1, 3, 5] rfl h
  · have h := h.2 c
    refine w_aload_n dX11_simpleRead_134 rfl ?_
    refine w_iload_n dX11_simpleRead_135 rfl ?_
    obtain ⟨o8, h⟩ := h
    refine w_putI dX11_simpleRead_136 (Or.inl ⟨rfl, fX11_169⟩) rfl rfl o8 ?_
    refine w_aload_n dX11_simpleRead_139 rfl ?_
    refine w_iload dX11_simpleRead_140 rfl ?_
    refine k_vI (as := [pI s0]) dX11_simpleRead_142 kX11_202 ⟨⟨Nat.le_of_ble_eq_true rfl, rfl, rfl⟩, Nat.le_of_ble_eq_true rfl⟩ rfl (by decide) rfl (Nat.le_of_ble_eq_true rfl) h ?_
    intro r9 M10 h
    obtain ⟨o11, h⟩ := h
    exact k_zret dX11_simpleRead_145 rfl o11 h
theorem vX11_simpleRead_177 {E : Scr} {f : Int → Mem → Prop} {M : Mem} (x2 x4 s0 s1 s2 : Int) (h : (0 ≤ s2 ∧ s2 < 16) ∧ (iR x2) ∧ ((x2 ≥ 2 → (0 ≤ x4 ∧ x4 < 16) ∧ ((iR (M 105 x4.toNat)) → (CV E mX11_leans [pR 98, pI x2, pI (M 105 x4.toNat), pI (-1)] (upM M 106 s2.toNat (bOr s1 s0)) (fun M6 => f 1 M6)))) ∧ (x2 < 2 → ((iR (M 98 11)) → (CV E mX11_leans [pR 98, pI x2, pI (M 98 11), pI (-1)] (upM M 106 s2.toNat (bOr s1 s0)) (fun M9 => f 1 M9)))))) : KW E mX11_simpleRead (qI f) M 177 [(0, pR 98), (2, pI x2), (4, pI x4)] [pI s0, pI s1, pI s2, pR 106] := by
  refine w_ior dX11_simpleRead_177 ?_
  obtain ⟨o1, h⟩ := h
  refine w_iast dX11_simpleRead_178 rfl o1 (bOr_r _ _) ?_
  refine w_aload_n dX11_simpleRead_179 rfl ?_
  refine w_iload_n dX11_simpleRead_180 rfl ?_
  refine w_iload_n dX11_simpleRead_181 rfl ?_
  refine w_iconst dX11_simpleRead_182 ?_
  obtain ⟨o2, h⟩ := h
  refine w_icmp_ge dX11_simpleRead_183 rfl ⟨o2, (by decide)⟩ (fun c => ?_) (fun c => ?_)
  · have h := h.1 c
    refine w_aload_n dX11_simpleRead_193 rfl ?_
    refine w_getR dX11_simpleRead_194 fX11_33 rfl rfl rfl ?_
    refine w_iload dX11_simpleRead_197 rfl ?_
    obtain ⟨o3, h⟩ := h
    refine w_iald (x := (M 105 x4.toNat)) dX11_simpleRead_199 rfl o3 rfl (fun g4 => ?_)
    have h := h g4
    refine w_iconst dX11_simpleRead_200 ?_
    refine k_vV (as := [pI x2, pI (M 105 x4.toNat), pI (-1)]) dX11_simpleRead_201 kX11_369 ⟨⟨Nat.le_of_ble_eq_true rfl, rfl, rfl⟩, Nat.le_of_ble_eq_true rfl⟩ rfl (by decide) rfl (Nat.le_of_ble_eq_true rfl) h ?_
    intro M6 h
    refine w_iconst dX11_simpleRead_204 ?_
    exact k_zret dX11_simpleRead_205 rfl (by decide) h
  · have h := h.2 c
    refine w_aload_n dX11_simpleRead_186 rfl ?_
    refine w_getI (x := (M 98 11)) dX11_simpleRead_187 fX11_209 rfl rfl rfl (fun g7 => ?_)
    have h := h g7
    refine w_goto dX11_simpleRead_190 rfl ?_
    refine w_iconst dX11_simpleRead_200 ?_
    refine k_vV (as := [pI x2, pI (M 98 11), pI (-1)]) dX11_simpleRead_201 kX11_369 ⟨⟨Nat.le_of_ble_eq_true rfl, rfl, rfl⟩, Nat.le_of_ble_eq_true rfl⟩ rfl (by decide) rfl (Nat.le_of_ble_eq_true rfl) h ?_
    intro M9 h
    refine w_iconst dX11_simpleRead_204 ?_
    exact k_zret dX11_simpleRead_205 rfl (by decide) h
theorem vX11_leaningRead_0 {E : Scr} {f : Int → Mem → Prop} {M : Mem} (x1 : Int) (h : (KW E mX11_leaningRead (qI f) (upM (upM (upM M 98 42 0) 98 43 0) 98 44 0) 17 [(0, pR 98), (1, pI x1), (2, pI 1)] [])) : CI E mX11_leaningRead [pR 98, pI x1] M f := by
  refine (show KW E mX11_leaningRead (qI f) M 0 [(0, pR 98), (1, pI x1)] [] from ?_)
  refine w_aload_n dX11_leaningRead_0 rfl ?_
  refine w_iconst dX11_leaningRead_1 ?_
  refine w_putI dX11_leaningRead_2 (Or.inl ⟨rfl, fX11_300⟩) rfl rfl (by decide) ?_
  refine w_aload_n dX11_leaningRead_5 rfl ?_
  refine w_iconst dX11_leaningRead_6 ?_
  refine w_putI dX11_leaningRead_7 (Or.inl ⟨rfl, fX11_297⟩) rfl rfl (by decide) ?_
  refine w_aload_n dX11_leaningRead_10 rfl ?_
  refine w_iconst dX11_leaningRead_11 ?_
  refine w_putI dX11_leaningRead_12 (Or.inl ⟨rfl, fX11_315⟩) rfl rfl (by decide) ?_
  refine w_iconst dX11_leaningRead_15 ?_
  refine w_istore_n dX11_leaningRead_16 (by decide) ?_
  exact k_pick [1, 2, 0] rfl h
theorem vX11_leaningRead_17 {E : Scr} {f : Int → Mem → Prop} {M : Mem} (x1 x2 : Int) (h : (iR x2) ∧ ((x2 = 0 → (KW E mX11_leaningRead (qI f) M 52 [(0, pR 98), (1, pI x1), (2, pI x2)] [])) ∧ (x2 ≠ 0 → (CI E mX11_isKey [pR 98, pI 16] M (fun r2 M3 => (iR r2) ∧ ((r2 = 0 → (KW E mX11_leaningRead (qI f) M3 52 [(0, pR 98), (1, pI x1), (2, pI x2)] [])) ∧ (r2 ≠ 0 → (CI E mX11_isCounted [pR 98] M3 (fun r5 M6 => (iR r5) ∧ ((r5 ≠ 0 → (CV E mX11_waitsFor [pR 98, pI 16] M6 (fun M9 => (CV E mX11_token [pR 98] M9 (fun M11 => (KW E mX11_leaningRead (qI f) M11 17 [(0, pR 98), (1, pI x1), (2, pI x2)] [])))))) ∧ (r5 = 0 → f 0 M6))))))))))) : KW E mX11_leaningRead (qI f) M 17 [(0, pR 98), (1, pI x1), (2, pI x2)] [] := by
  refine w_iload_n dX11_leaningRead_17 rfl ?_
  obtain ⟨o1, h⟩ := h
  refine w_if_eq dX11_leaningRead_18 rfl o1 (fun c => ?_) (fun c => ?_)
  · have h := h.1 c
    exact k_pick [0, 1, 2] rfl h
  · have h := h.2 c
    refine w_aload_n dX11_leaningRead_21 rfl ?_
    refine w_bipush dX11_leaningRead_22 (by decide) ?_
    refine k_vI (as := [pI 16]) dX11_leaningRead_24 kX11_326 ⟨⟨Nat.le_of_ble_eq_true rfl, rfl, rfl⟩, Nat.le_of_ble_eq_true rfl⟩ rfl (by decide) rfl (Nat.le_of_ble_eq_true rfl) h ?_
    intro r2 M3 h
    obtain ⟨o4, h⟩ := h
    refine w_if_eq dX11_leaningRead_27 rfl o4 (fun c => ?_) (fun c => ?_)
    · have h := h.1 c
      exact k_pick [0, 1, 2] rfl h
    · have h := h.2 c
      refine w_aload_n dX11_leaningRead_30 rfl ?_
      refine k_vI (as := []) dX11_leaningRead_31 kX11_329 ⟨⟨Nat.le_of_ble_eq_true rfl, rfl, rfl⟩, Nat.le_of_ble_eq_true rfl⟩ rfl (by decide) rfl (Nat.le_of_ble_eq_true rfl) h ?_
      intro r5 M6 h
      obtain ⟨o7, h⟩ := h
      refine w_if_ne dX11_leaningRead_34 rfl o7 (fun c => ?_) (fun c => ?_)
      · have h := h.1 c
        refine w_aload_n dX11_leaningRead_39 rfl ?_
        refine w_bipush dX11_leaningRead_40 (by decide) ?_
        refine k_vV (as := [pI 16]) dX11_leaningRead_42 kX11_318 ⟨⟨Nat.le_of_ble_eq_true rfl, rfl, rfl⟩, Nat.le_of_ble_eq_true rfl⟩ rfl (by decide) rfl (Nat.le_of_ble_eq_true rfl) h ?_
        intro M9 h
        refine w_aload_n dX11_leaningRead_45 rfl ?_
        refine k_vV (as := []) dX11_leaningRead_46 kX11_212 ⟨⟨Nat.le_of_ble_eq_true rfl, rfl, rfl⟩, Nat.le_of_ble_eq_true rfl⟩ rfl (by decide) rfl (Nat.le_of_ble_eq_true rfl) h ?_
        intro M11 h
        refine w_goto dX11_leaningRead_49 rfl ?_
        exact k_pick [0, 1, 2] rfl h
      · have h := h.2 c
        refine w_iconst dX11_leaningRead_37 ?_
        exact k_zret dX11_leaningRead_38 rfl (by decide) h
theorem vX11_leaningRead_52 {E : Scr} {f : Int → Mem → Prop} {M : Mem} (x1 x2 : Int) (h : (iR x2) ∧ ((x2 = 0 → (KW E mX11_leaningRead (qI f) M 102 [(0, pR 98), (1, pI x1), (2, pI x2)] [])) ∧ (x2 ≠ 0 → (CI E mX11_isSign [pR 98, pI 40] M (fun r2 M3 => (iR r2) ∧ ((r2 = 0 → (KW E mX11_leaningRead (qI f) M3 102 [(0, pR 98), (1, pI x1), (2, pI x2)] [])) ∧ (r2 ≠ 0 → ((iR (M3 98 44)) → (((M3 98 44) ≠ 8 → ((iR (M3 98 44)) → (iR ((M3 98 44) + 1)) ∧ (CV E mX11_waitsFor [pR 98, pI (-1)] (upM M3 98 44 ((M3 98 44) + 1)) (fun M9 => (CV E mX11_token [pR 98] M9 (fun M11 => (KW E mX11_leaningRead (qI f) M11 17 [(0, pR 98), (1, pI x1), (2, pI x2)] []))))))) ∧ ((M3 98 44) = 8 → (CI E mX11_wrong [pR 98, pI 2] M3 (fun r12 M13 => (zR r12) ∧ f r12 M13)))))))))))) : KW E mX11_leaningRead (qI f) M 52 [(0, pR 98), (1, pI x1), (2, pI x2)] [] := by
  refine w_iload_n dX11_leaningRead_52 rfl ?_
  obtain ⟨o1, h⟩ := h
  refine w_if_eq dX11_leaningRead_53 rfl o1 (fun c => ?_) (fun c => ?_)
  · have h := h.1 c
    exact k_pick [0, 1, 2] rfl h
  · have h := h.2 c
    refine w_aload_n dX11_leaningRead_56 rfl ?_
    refine w_bipush dX11_leaningRead_57 (by decide) ?_
    refine k_vI (as := [pI 40]) dX11_leaningRead_59 kX11_215 ⟨⟨Nat.le_of_ble_eq_true rfl, rfl, rfl⟩, Nat.le_of_ble_eq_true rfl⟩ rfl (by decide) rfl (Nat.le_of_ble_eq_true rfl) h ?_
    intro r2 M3 h
    obtain ⟨o4, h⟩ := h
    refine w_if_eq dX11_leaningRead_62 rfl o4 (fun c => ?_) (fun c => ?_)
    · have h := h.1 c
      exact k_pick [0, 1, 2] rfl h
    · have h := h.2 c
      refine w_aload_n dX11_leaningRead_65 rfl ?_
      refine w_getI (x := (M3 98 44)) dX11_leaningRead_66 fX11_315 rfl rfl rfl (fun g5 => ?_)
      have h := h g5
      refine w_bipush dX11_leaningRead_69 (by decide) ?_
      refine w_icmp_ne dX11_leaningRead_71 rfl ⟨g5, (by decide)⟩ (fun c => ?_) (fun c => ?_)
      · have h := h.1 c
        refine w_aload_n dX11_leaningRead_80 rfl ?_
        refine w_dup dX11_leaningRead_81 rfl ?_
        refine w_getI (x := (M3 98 44)) dX11_leaningRead_82 fX11_315 rfl rfl rfl (fun g6 => ?_)
        have h := h g6
        refine w_iconst dX11_leaningRead_85 ?_
        refine w_iadd dX11_leaningRead_86 ?_
        obtain ⟨o7, h⟩ := h
        refine w_putI dX11_leaningRead_87 (Or.inl ⟨rfl, fX11_315⟩) rfl rfl o7 ?_
        refine w_aload_n dX11_leaningRead_90 rfl ?_
        refine w_iconst dX11_leaningRead_91 ?_
        refine k_vV (as := [pI (-1)]) dX11_leaningRead_92 kX11_318 ⟨⟨Nat.le_of_ble_eq_true rfl, rfl, rfl⟩, Nat.le_of_ble_eq_true rfl⟩ rfl (by decide) rfl (Nat.le_of_ble_eq_true rfl) h ?_
        intro M9 h
        refine w_aload_n dX11_leaningRead_95 rfl ?_
        refine k_vV (as := []) dX11_leaningRead_96 kX11_212 ⟨⟨Nat.le_of_ble_eq_true rfl, rfl, rfl⟩, Nat.le_of_ble_eq_true rfl⟩ rfl (by decide) rfl (Nat.le_of_ble_eq_true rfl) h ?_
        intro M11 h
        refine w_goto dX11_leaningRead_99 rfl ?_
        exact k_pick [0, 1, 2] rfl h
      · have h := h.2 c
        refine w_aload_n dX11_leaningRead_74 rfl ?_
        refine w_iconst dX11_leaningRead_75 ?_
        refine k_vI (as := [pI 2]) dX11_leaningRead_76 kX11_202 ⟨⟨Nat.le_of_ble_eq_true rfl, rfl, rfl⟩, Nat.le_of_ble_eq_true rfl⟩ rfl (by decide) rfl (Nat.le_of_ble_eq_true rfl) h ?_
        intro r12 M13 h
        obtain ⟨o14, h⟩ := h
        exact k_zret dX11_leaningRead_79 rfl o14 h
theorem vX11_leaningRead_102 {E : Scr} {f : Int → Mem → Prop} {M : Mem} (x1 x2 : Int) (h : (iR x2) ∧ ((x2 = 0 → (CI E mX11_isKey [pR 98, pI 14] M (fun r2 M3 => (iR r2) ∧ ((r2 ≠ 0 → (CI E mX11_isCounted [pR 98] M3 (fun r5 M6 => (iR r5) ∧ ((r5 ≠ 0 → ((iR (M6 98 9)) → (CI E mX11_waitsBy [pI (M6 98 9)] M6 (fun r9 M10 => (CV E mX11_binds [pR 98, pI r9] M10 (fun M12 => ((iR (M12 98 9)) → (CV E mX11_waitsFor [pR 98, pI (M12 98 9)] M12 (fun M15 => (CV E mX11_token [pR 98] M15 (fun M17 => (KW E mX11_leaningRead (qI f) M17 17 [(0, pR 98), (1, pI x1), (2, pI 1)] [])))))))))))) ∧ (r5 = 0 → f 0 M6))))) ∧ (r2 = 0 → (CI E mX11_isKey [pR 98, pI 15] M3 (fun r18 M19 => (iR r18) ∧ ((r18 = 0 → ((iR (M19 98 44)) → (((M19 98 44) ≤ 0 → (CV E mX11_binds [pR 98, pI 1] M19 (fun M23 => f 1 M23))) ∧ ((M19 98 44) > 0 → (CI E mX11_isSign [pR 98, pI 41] M19 (fun r24 M25 => (iR r24) ∧ ((r24 ≠ 0 → (CV E mX11_binds [pR 98, pI 1] M25 (fun M28 => ((iR (M28 98 42)) → (iR ((M28 98 42) - 1)) ∧ ((iR (M28 98 44)) → (iR ((M28 98 44) - 1)) ∧ (CV E mX11_token [pR 98] (upM (upM M28 98 42 ((M28 98 42) - 1)) 98 44 ((M28 98 44) - 1)) (fun M34 => (KW E mX11_leaningRead (qI f) M34 17 [(0, pR 98), (1, pI x1), (2, pI x2)] [])))))))) ∧ (r24 = 0 → (CI E mX11_wrong [pR 98, pI 1] M25 (fun r35 M36 => (zR r35) ∧ f r35 M36)))))))))) ∧ (r18 ≠ 0 → (CI E mX11_isCounted [pR 98] M19 (fun r38 M39 => (iR r38) ∧ ((r38 ≠ 0 → ((iR (M39 98 9)) → (CI E mX11_waitsBy [pI (M39 98 9)] M39 (fun r42 M43 => (CV E mX11_binds [pR 98, pI r42] M43 (fun M45 => ((iR (M45 98 9)) → (CV E mX11_waitsFor [pR 98, pI (M45 98 9)] M45 (fun M48 => (CV E mX11_token [pR 98] M48 (fun M50 => (KW E mX11_leaningRead (qI f) M50 17 [(0, pR 98), (1, pI x1), (2, pI 1)] [])))))))))))) ∧ (r38 = 0 → f 0 M39))))))))))))) ∧ (x2 ≠ 0 → ((iR (M 98 8)) → (((M 98 8) ≠ 1 → (CI E mX11_wrong [pR 98, pI 1] M (fun r52 M53 => (zR r52) ∧ f r52 M53))) ∧ ((M 98 8) = 1 → ((iR (M 98 9)) → (((M 98 9) < 10 → (CI E mX11_wrong [pR 98, pI 1] M (fun r56 M57 => (zR r56) ∧ f r56 M57))) ∧ ((M 98 9) ≥ 10 → ((iR (M 98 9)) → (((M 98 9) ≤ 13 → (CI E mX11_simpleRead [pR 98, pI x1] M (fun r60 M61 => (iR r60) ∧ ((r60 ≠ 0 → (KW E mX11_leaningRead (qI f) M61 17 [(0, pR 98), (1, pI x1), (2, pI 0)] [])) ∧ (r60 = 0 → f 0 M61))))) ∧ ((M 98 9) > 13 → (CI E mX11_wrong [pR 98, pI 1] M (fun r63 M64 => (zR r63) ∧ f r63 M64)))))))))))))) : KW E mX11_leaningRead (qI f) M 102 [(0, pR 98), (1, pI x1), (2, pI x2)] [] := by
  refine w_iload_n dX11_leaningRead_102 rfl ?_
  obtain ⟨o1, h⟩ := h
  refine w_if_eq dX11_leaningRead_103 rfl o1 (fun c => ?_) (fun c => ?_)
  · have h := h.1 c
    refine w_aload_n dX11_leaningRead_153 rfl ?_
    refine w_bipush dX11_leaningRead_154 (by decide) ?_
    refine k_vI (as := [pI 14]) dX11_leaningRead_156 kX11_326 ⟨⟨Nat.le_of_ble_eq_true rfl, rfl, rfl⟩, Nat.le_of_ble_eq_true rfl⟩ rfl (by decide) rfl (Nat.le_of_ble_eq_true rfl) h ?_
    intro r2 M3 h
    obtain ⟨o4, h⟩ := h
    refine w_if_ne dX11_leaningRead_159 rfl o4 (fun c => ?_) (fun c => ?_)
    · have h := h.1 c
      refine w_aload_n dX11_leaningRead_171 rfl ?_
      refine k_vI (as := []) dX11_leaningRead_172 kX11_329 ⟨⟨Nat.le_of_ble_eq_true rfl, rfl, rfl⟩, Nat.le_of_ble_eq_true rfl⟩ rfl (by decide) rfl (Nat.le_of_ble_eq_true rfl) h ?_
      intro r5 M6 h
      obtain ⟨o7, h⟩ := h
      refine w_if_ne dX11_leaningRead_175 rfl o7 (fun c => ?_) (fun c => ?_)
      · have h := h.1 c
        refine w_aload_n dX11_leaningRead_180 rfl ?_
        refine w_aload_n dX11_leaningRead_181 rfl ?_
        refine w_getI (x := (M6 98 9)) dX11_leaningRead_182 fX11_189 rfl rfl rfl (fun g8 => ?_)
        have h := h g8
        refine k_sI (as := [pI (M6 98 9)]) dX11_leaningRead_185 kX11_366 ⟨⟨Nat.le_of_ble_eq_true rfl, rfl, rfl⟩, Nat.le_of_ble_eq_true rfl⟩ rfl (Nat.le_of_ble_eq_true rfl) h ?_
        intro r9 M10 h
        refine k_vV (as := [pI r9]) dX11_leaningRead_188 kX11_378 ⟨⟨Nat.le_of_ble_eq_true rfl, rfl, rfl⟩, Nat.le_of_ble_eq_true rfl⟩ rfl (by decide) rfl (Nat.le_of_ble_eq_true rfl) h ?_
        intro M12 h
        refine w_aload_n dX11_leaningRead_191 rfl ?_
        refine w_aload_n dX11_leaningRead_192 rfl ?_
        refine w_getI (x := (M12 98 9)) dX11_leaningRead_193 fX11_189 rfl rfl rfl (fun g13 => ?_)
        have h := h g13
        refine k_vV (as := [pI (M12 98 9)]) dX11_leaningRead_196 kX11_318 ⟨⟨Nat.le_of_ble_eq_true rfl, rfl, rfl⟩, Nat.le_of_ble_eq_true rfl⟩ rfl (by decide) rfl (Nat.le_of_ble_eq_true rfl) h ?_
        intro M15 h
        refine w_aload_n dX11_leaningRead_199 rfl ?_
        refine k_vV (as := []) dX11_leaningRead_200 kX11_212 ⟨⟨Nat.le_of_ble_eq_true rfl, rfl, rfl⟩, Nat.le_of_ble_eq_true rfl⟩ rfl (by decide) rfl (Nat.le_of_ble_eq_true rfl) h ?_
        intro M17 h
        refine w_iconst dX11_leaningRead_203 ?_
        refine w_istore_n dX11_leaningRead_204 (by decide) ?_
        refine w_goto dX11_leaningRead_205 rfl ?_
        exact k_pick [1, 2, 0] rfl h
      · have h := h.2 c
        refine w_iconst dX11_leaningRead_178 ?_
        exact k_zret dX11_leaningRead_179 rfl (by decide) h
    · have h := h.2 c
      refine w_aload_n dX11_leaningRead_162 rfl ?_
      refine w_bipush dX11_leaningRead_163 (by decide) ?_
      refine k_vI (as := [pI 15]) dX11_leaningRead_165 kX11_326 ⟨⟨Nat.le_of_ble_eq_true rfl, rfl, rfl⟩, Nat.le_of_ble_eq_true rfl⟩ rfl (by decide) rfl (Nat.le_of_ble_eq_true rfl) h ?_
      intro r18 M19 h
      obtain ⟨o20, h⟩ := h
      refine w_if_eq dX11_leaningRead_168 rfl o20 (fun c => ?_) (fun c => ?_)
      · have h := h.1 c
        refine w_aload_n dX11_leaningRead_208 rfl ?_
        refine w_getI (x := (M19 98 44)) dX11_leaningRead_209 fX11_315 rfl rfl rfl (fun g21 => ?_)
        have h := h g21
        refine w_if_le dX11_leaningRead_212 rfl g21 (fun c => ?_) (fun c => ?_)
        · have h := h.1 c
          refine w_aload_n dX11_leaningRead_262 rfl ?_
          refine w_iconst dX11_leaningRead_263 ?_
          refine k_vV (as := [pI 1]) dX11_leaningRead_264 kX11_378 ⟨⟨Nat.le_of_ble_eq_true rfl, rfl, rfl⟩, Nat.le_of_ble_eq_true rfl⟩ rfl (by decide) rfl (Nat.le_of_ble_eq_true rfl) h ?_
          intro M23 h
          refine w_iconst dX11_leaningRead_267 ?_
          exact k_zret dX11_leaningRead_268 rfl (by decide) h
        · have h := h.2 c
          refine w_aload_n dX11_leaningRead_215 rfl ?_
          refine w_bipush dX11_leaningRead_216 (by decide) ?_
          refine k_vI (as := [pI 41]) dX11_leaningRead_218 kX11_215 ⟨⟨Nat.le_of_ble_eq_true rfl, rfl, rfl⟩, Nat.le_of_ble_eq_true rfl⟩ rfl (by decide) rfl (Nat.le_of_ble_eq_true rfl) h ?_
          intro r24 M25 h
          obtain ⟨o26, h⟩ := h
          refine w_if_ne dX11_leaningRead_221 rfl o26 (fun c => ?_) (fun c => ?_)
          · have h := h.1 c
            refine w_aload_n dX11_leaningRead_230 rfl ?_
            refine w_iconst dX11_leaningRead_231 ?_
            refine k_vV (as := [pI 1]) dX11_leaningRead_232 kX11_378 ⟨⟨Nat.le_of_ble_eq_true rfl, rfl, rfl⟩, Nat.le_of_ble_eq_true rfl⟩ rfl (by decide) rfl (Nat.le_of_ble_eq_true rfl) h ?_
            intro M28 h
            refine w_aload_n dX11_leaningRead_235 rfl ?_
            refine w_dup dX11_leaningRead_236 rfl ?_
            refine w_getI (x := (M28 98 42)) dX11_leaningRead_237 fX11_300 rfl rfl rfl (fun g29 => ?_)
            have h := h g29
            refine w_iconst dX11_leaningRead_240 ?_
            refine w_isub dX11_leaningRead_241 ?_
            obtain ⟨o30, h⟩ := h
            refine w_putI dX11_leaningRead_242 (Or.inl ⟨rfl, fX11_300⟩) rfl rfl o30 ?_
            refine w_aload_n dX11_leaningRead_245 rfl ?_
            refine w_dup dX11_leaningRead_246 rfl ?_
            refine w_getI (x := (M28 98 44)) dX11_leaningRead_247 fX11_315 rfl rfl rfl (fun g31 => ?_)
            have h := h g31
            refine w_iconst dX11_leaningRead_250 ?_
            refine w_isub dX11_leaningRead_251 ?_
            obtain ⟨o32, h⟩ := h
            refine w_putI dX11_leaningRead_252 (Or.inl ⟨rfl, fX11_315⟩) rfl rfl o32 ?_
            refine w_aload_n dX11_leaningRead_255 rfl ?_
            refine k_vV (as := []) dX11_leaningRead_256 kX11_212 ⟨⟨Nat.le_of_ble_eq_true rfl, rfl, rfl⟩, Nat.le_of_ble_eq_true rfl⟩ rfl (by decide) rfl (Nat.le_of_ble_eq_true rfl) h ?_
            intro M34 h
            refine w_goto dX11_leaningRead_259 rfl ?_
            exact k_pick [0, 1, 2] rfl h
          · have h := h.2 c
            refine w_aload_n dX11_leaningRead_224 rfl ?_
            refine w_iconst dX11_leaningRead_225 ?_
            refine k_vI (as := [pI 1]) dX11_leaningRead_226 kX11_202 ⟨⟨Nat.le_of_ble_eq_true rfl, rfl, rfl⟩, Nat.le_of_ble_eq_true rfl⟩ rfl (by decide) rfl (Nat.le_of_ble_eq_true rfl) h ?_
            intro r35 M36 h
            obtain ⟨o37, h⟩ := h
            exact k_zret dX11_leaningRead_229 rfl o37 h
      · have h := h.2 c
        refine w_aload_n dX11_leaningRead_171 rfl ?_
        refine k_vI (as := []) dX11_leaningRead_172 kX11_329 ⟨⟨Nat.le_of_ble_eq_true rfl, rfl, rfl⟩, Nat.le_of_ble_eq_true rfl⟩ rfl (by decide) rfl (Nat.le_of_ble_eq_true rfl) h ?_
        intro r38 M39 h
        obtain ⟨o40, h⟩ := h
        refine w_if_ne dX11_leaningRead_175 rfl o40 (fun c => ?_) (fun c => ?_)
        · have h := h.1 c
          refine w_aload_n dX11_leaningRead_180 rfl ?_
          refine w_aload_n dX11_leaningRead_181 rfl ?_
          refine w_getI (x := (M39 98 9)) dX11_leaningRead_182 fX11_189 rfl rfl rfl (fun g41 => ?_)
          have h := h g41
          refine k_sI (as := [pI (M39 98 9)]) dX11_leaningRead_185 kX11_366 ⟨⟨Nat.le_of_ble_eq_true rfl, rfl, rfl⟩, Nat.le_of_ble_eq_true rfl⟩ rfl (Nat.le_of_ble_eq_true rfl) h ?_
          intro r42 M43 h
          refine k_vV (as := [pI r42]) dX11_leaningRead_188 kX11_378 ⟨⟨Nat.le_of_ble_eq_true rfl, rfl, rfl⟩, Nat.le_of_ble_eq_true rfl⟩ rfl (by decide) rfl (Nat.le_of_ble_eq_true rfl) h ?_
          intro M45 h
          refine w_aload_n dX11_leaningRead_191 rfl ?_
          refine w_aload_n dX11_leaningRead_192 rfl ?_
          refine w_getI (x := (M45 98 9)) dX11_leaningRead_193 fX11_189 rfl rfl rfl (fun g46 => ?_)
          have h := h g46
          refine k_vV (as := [pI (M45 98 9)]) dX11_leaningRead_196 kX11_318 ⟨⟨Nat.le_of_ble_eq_true rfl, rfl, rfl⟩, Nat.le_of_ble_eq_true rfl⟩ rfl (by decide) rfl (Nat.le_of_ble_eq_true rfl) h ?_
          intro M48 h
          refine w_aload_n dX11_leaningRead_199 rfl ?_
          refine k_vV (as := []) dX11_leaningRead_200 kX11_212 ⟨⟨Nat.le_of_ble_eq_true rfl, rfl, rfl⟩, Nat.le_of_ble_eq_true rfl⟩ rfl (by decide) rfl (Nat.le_of_ble_eq_true rfl) h ?_
          intro M50 h
          refine w_iconst dX11_leaningRead_203 ?_
          refine w_istore_n dX11_leaningRead_204 (by decide) ?_
          refine w_goto dX11_leaningRead_205 rfl ?_
          exact k_pick [1, 2, 0] rfl h
        · have h := h.2 c
          refine w_iconst dX11_leaningRead_178 ?_
          exact k_zret dX11_leaningRead_179 rfl (by decide) h
  · have h := h.2 c
    refine w_aload_n dX11_leaningRead_106 rfl ?_
    refine w_getI (x := (M 98 8)) dX11_leaningRead_107 fX11_178 rfl rfl rfl (fun g51 => ?_)
    have h := h g51
    refine w_iconst dX11_leaningRead_110 ?_
    refine w_icmp_ne dX11_leaningRead_111 rfl ⟨g51, (by decide)⟩ (fun c => ?_) (fun c => ?_)
    · have h := h.1 c
      refine w_aload_n dX11_leaningRead_132 rfl ?_
      refine w_iconst dX11_leaningRead_133 ?_
      refine k_vI (as := [pI 1]) dX11_leaningRead_134 kX11_202 ⟨⟨Nat.le_of_ble_eq_true rfl, rfl, rfl⟩, Nat.le_of_ble_eq_true rfl⟩ rfl (by decide) rfl (Nat.le_of_ble_eq_true rfl) h ?_
      intro r52 M53 h
      obtain ⟨o54, h⟩ := h
      exact k_zret dX11_leaningRead_137 rfl o54 h
    · have h := h.2 c
      refine w_aload_n dX11_leaningRead_114 rfl ?_
      refine w_getI (x := (M 98 9)) dX11_leaningRead_115 fX11_189 rfl rfl rfl (fun g55 => ?_)
      have h := h g55
      refine w_bipush dX11_leaningRead_118 (by decide) ?_
      refine w_icmp_lt dX11_leaningRead_120 rfl ⟨g55, (by decide)⟩ (fun c => ?_) (fun c => ?_)
      · have h := h.1 c
        refine w_aload_n dX11_leaningRead_132 rfl ?_
        refine w_iconst dX11_leaningRead_133 ?_
        refine k_vI (as := [pI 1]) dX11_leaningRead_134 kX11_202 ⟨⟨Nat.le_of_ble_eq_true rfl, rfl, rfl⟩, Nat.le_of_ble_eq_true rfl⟩ rfl (by decide) rfl (Nat.le_of_ble_eq_true rfl) h ?_
        intro r56 M57 h
        obtain ⟨o58, h⟩ := h
        exact k_zret dX11_leaningRead_137 rfl o58 h
      · have h := h.2 c
        refine w_aload_n dX11_leaningRead_123 rfl ?_
        refine w_getI (x := (M 98 9)) dX11_leaningRead_124 fX11_189 rfl rfl rfl (fun g59 => ?_)
        have h := h g59
        refine w_bipush dX11_leaningRead_127 (by decide) ?_
        refine w_icmp_le dX11_leaningRead_129 rfl ⟨g59, (by decide)⟩ (fun c => ?_) (fun c => ?_)
        · have h := h.1 c
          refine w_aload_n dX11_leaningRead_138 rfl ?_
          refine w_iload_n dX11_leaningRead_139 rfl ?_
          refine k_vI (as := [pI x1]) dX11_leaningRead_140 kX11_375 ⟨⟨Nat.le_of_ble_eq_true rfl, rfl, rfl⟩, Nat.le_of_ble_eq_true rfl⟩ rfl (by decide) rfl (Nat.le_of_ble_eq_true rfl) h ?_
          intro r60 M61 h
          obtain ⟨o62, h⟩ := h
          refine w_if_ne dX11_leaningRead_143 rfl o62 (fun c => ?_) (fun c => ?_)
          · have h := h.1 c
            refine w_iconst dX11_leaningRead_148 ?_
            refine w_istore_n dX11_leaningRead_149 (by decide) ?_
            refine w_goto dX11_leaningRead_150 rfl ?_
            exact k_pick [1, 2, 0] rfl h
          · have h := h.2 c
            refine w_iconst dX11_leaningRead_146 ?_
            exact k_zret dX11_leaningRead_147 rfl (by decide) h
        · have h := h.2 c
          refine w_aload_n dX11_leaningRead_132 rfl ?_
          refine w_iconst dX11_leaningRead_133 ?_
          refine k_vI (as := [pI 1]) dX11_leaningRead_134 kX11_202 ⟨⟨Nat.le_of_ble_eq_true rfl, rfl, rfl⟩, Nat.le_of_ble_eq_true rfl⟩ rfl (by decide) rfl (Nat.le_of_ble_eq_true rfl) h ?_
          intro r63 M64 h
          obtain ⟨o65, h⟩ := h
          exact k_zret dX11_leaningRead_137 rfl o65 h
theorem vX11_manyOf_0 {E : Scr} {f : Int → Mem → Prop} {M : Mem} (x0 : Int) (h : (KW E mX11_manyOf (qI f) M 4 [(0, pI x0), (1, pI 0), (2, pI 0)] [])) : CI E mX11_manyOf [pI x0] M f := by
  refine (show KW E mX11_manyOf (qI f) M 0 [(0, pI x0)] [] from ?_)
  refine w_iconst dX11_manyOf_0 ?_
  refine w_istore_n dX11_manyOf_1 (by decide) ?_
  refine w_iconst dX11_manyOf_2 ?_
  refine w_istore_n dX11_manyOf_3 (by decide) ?_
  exact k_pick [2, 1, 0] rfl h
theorem vX11_manyOf_4 {E : Scr} {f : Int → Mem → Prop} {M : Mem} (x0 x1 x2 : Int) (h : (iR x2) ∧ ((x2 ≥ 17 → f x1 M) ∧ (x2 < 17 → (KW E mX11_manyOf (qI f) M 4 [(0, pI x0), (1, pI (x1 + (bAnd (bShr x0 x2) 1))), (2, pI (x2 + 1))] [])))) : KW E mX11_manyOf (qI f) M 4 [(0, pI x0), (1, pI x1), (2, pI x2)] [] := by
  refine w_iload_n dX11_manyOf_4 rfl ?_
  refine w_bipush dX11_manyOf_5 (by decide) ?_
  obtain ⟨o1, h⟩ := h
  refine w_icmp_ge dX11_manyOf_7 rfl ⟨o1, (by decide)⟩ (fun c => ?_) (fun c => ?_)
  · have h := h.1 c
    refine w_iload_n dX11_manyOf_24 rfl ?_
    exact k_iret dX11_manyOf_25 rfl h
  · have h := h.2 c
    refine w_iload_n dX11_manyOf_10 rfl ?_
    refine w_iload_n dX11_manyOf_11 rfl ?_
    refine w_iload_n dX11_manyOf_12 rfl ?_
    refine w_ishr dX11_manyOf_13 ?_
    refine w_iconst dX11_manyOf_14 ?_
    refine w_iand dX11_manyOf_15 ?_
    refine w_iadd dX11_manyOf_16 ?_
    refine w_istore_n dX11_manyOf_17 (by decide) ?_
    refine w_iinc dX11_manyOf_18 rfl (by decide) ?_
    refine w_goto dX11_manyOf_21 rfl ?_
    exact k_pick [2, 1, 0] rfl h
theorem vX11_isSo_0 {E : Scr} {f : Int → Mem → Prop} {M : Mem} (x1 x2 x3 : Int) (h : (0 ≤ x1 ∧ x1 < 128) ∧ ((iR (M 111 x1.toNat)) → (0 ≤ x1 ∧ x1 < 128) ∧ ((iR (M 110 x1.toNat)) → (((M 110 x1.toNat) = 0 → (CI E mX11_isOf [pI x2, pI (M 111 x1.toNat)] M (fun r5 M6 => (zR r5) ∧ f r5 M6))) ∧ ((M 110 x1.toNat) = 1 → (CI E mX11_isOf [pI x2, pI (M 111 x1.toNat)] M (fun r8 M9 => (iR r8) ∧ ((r8 ≠ 0 → f 0 M9) ∧ (r8 = 0 → f 1 M9))))) ∧ ((M 110 x1.toNat) = 2 → (CI E mX11_manyOf [pI (bAnd x2 (bXor (bShl 1 x3) (-1)))] M (fun r11 M12 => (iR r11) ∧ ((r11 < (M 111 x1.toNat) → f 0 M12) ∧ (r11 ≥ (M 111 x1.toNat) → f 1 M12))))) ∧ ((M 110 x1.toNat) = 3 → (0 ≤ (M 111 x1.toNat) ∧ (M 111 x1.toNat) < 64) ∧ ((zR (M 124 ((M 111 x1.toNat).toNat))) → (zR (M 124 ((M 111 x1.toNat).toNat))) ∧ f (M 124 ((M 111 x1.toNat).toNat)) M)) ∧ ((M 110 x1.toNat) = 4 → (0 ≤ (M 111 x1.toNat) ∧ (M 111 x1.toNat) < 64) ∧ ((zR (M 124 ((M 111 x1.toNat).toNat))) → (((M 124 ((M 111 x1.toNat).toNat)) ≠ 0 → f 0 M) ∧ ((M 124 ((M 111 x1.toNat).toNat)) = 0 → f 1 M)))) ∧ ((M 110 x1.toNat) = 5 → (0 ≤ (M 111 x1.toNat) ∧ (M 111 x1.toNat) < 64) ∧ ((zR (M 124 ((M 111 x1.toNat).toNat))) → (((M 124 ((M 111 x1.toNat).toNat)) = 0 → f 0 M) ∧ ((M 124 ((M 111 x1.toNat).toNat)) ≠ 0 → (0 ≤ x1 ∧ x1 < 128) ∧ ((iR (M 112 x1.toNat)) → (0 ≤ (M 112 x1.toNat) ∧ (M 112 x1.toNat) < 64) ∧ ((zR (M 124 ((M 112 x1.toNat).toNat))) → (((M 124 ((M 112 x1.toNat).toNat)) = 0 → f 0 M) ∧ ((M 124 ((M 112 x1.toNat).toNat)) ≠ 0 → f 1 M)))))))) ∧ ((M 110 x1.toNat) < 0 ∨ 5 < (M 110 x1.toNat) → (0 ≤ (M 111 x1.toNat) ∧ (M 111 x1.toNat) < 64) ∧ ((zR (M 124 ((M 111 x1.toNat).toNat))) → (((M 124 ((M 111 x1.toNat).toNat)) ≠ 0 → f 1 M) ∧ ((M 124 ((M 111 x1.toNat).toNat)) = 0 → (0 ≤ x1 ∧ x1 < 128) ∧ ((iR (M 112 x1.toNat)) → (0 ≤ (M 112 x1.toNat) ∧ (M 112 x1.toNat) < 64) ∧ ((zR (M 124 ((M 112 x1.toNat).toNat))) → (((M 124 ((M 112 x1.toNat).toNat)) = 0 → f 0 M) ∧ ((M 124 ((M 112 x1.toNat).toNat)) ≠ 0 → f 1 M)))))))))))) : CI E mX11_isSo [pR 98, pI x1, pI x2, pI x3] M f := by
  refine (show KW E mX11_isSo (qI f) M 0 [(0, pR 98), (1, pI x1), (2, pI x2), (3, pI x3)] [] from ?_)
  refine w_aload_n dX11_isSo_0 rfl ?_
  refine w_getR dX11_isSo_1 fX11_51 rfl rfl rfl ?_
  refine w_iload_n dX11_isSo_4 rfl ?_
  obtain ⟨o1, h⟩ := h
  refine w_iald (x := (M 111 x1.toNat)) dX11_isSo_5 rfl o1 rfl (fun g2 => ?_)
  have h := h g2
  refine w_istore dX11_isSo_6 (by decide) ?_
  refine w_aload_n dX11_isSo_8 rfl ?_
  refine w_getR dX11_isSo_9 fX11_48 rfl rfl rfl ?_
  refine w_iload_n dX11_isSo_12 rfl ?_
  obtain ⟨o3, h⟩ := h
  refine w_iald (x := (M 110 x1.toNat)) dX11_isSo_13 rfl o3 rfl (fun g4 => ?_)
  have h := h g4
  refine w_tsw (tgs := [52, 59, 74, 95, 103, 119]) (td := 149) dX11_isSo_14 g4 rfl (by decide) rfl ?_ ?_
  · intro j hj hx
    match j, hj, hx with
    | 0, _, hx =>
      have h := h.1 (by simpa using hx)
      clear hx
      refine w_iload_n dX11_isSo_52 rfl ?_
      refine w_iload dX11_isSo_53 rfl ?_
      refine k_sI (as := [pI x2, pI (M 111 x1.toNat)]) dX11_isSo_55 kX11_372 ⟨⟨Nat.le_of_ble_eq_true rfl, rfl, rfl⟩, Nat.le_of_ble_eq_true rfl⟩ rfl (Nat.le_of_ble_eq_true rfl) h ?_
      intro r5 M6 h
      obtain ⟨o7, h⟩ := h
      exact k_zret dX11_isSo_58 rfl o7 h
    | 1, _, hx =>
      have h := h.2.1 (by simpa using hx)
      clear hx
      refine w_iload_n dX11_isSo_59 rfl ?_
      refine w_iload dX11_isSo_60 rfl ?_
      refine k_sI (as := [pI x2, pI (M 111 x1.toNat)]) dX11_isSo_62 kX11_372 ⟨⟨Nat.le_of_ble_eq_true rfl, rfl, rfl⟩, Nat.le_of_ble_eq_true rfl⟩ rfl (Nat.le_of_ble_eq_true rfl) h ?_
      intro r8 M9 h
      obtain ⟨o10, h⟩ := h
      refine w_if_ne dX11_isSo_65 rfl o10 (fun c => ?_) (fun c => ?_)
      · have h := h.1 c
        refine w_iconst dX11_isSo_72 ?_
        exact k_zret dX11_isSo_73 rfl (by decide) h
      · have h := h.2 c
        refine w_iconst dX11_isSo_68 ?_
        refine w_goto dX11_isSo_69 rfl ?_
        exact k_zret dX11_isSo_73 rfl (by decide) h
    | 2, _, hx =>
      have h := h.2.2.1 (by simpa using hx)
      clear hx
      refine w_iload_n dX11_isSo_74 rfl ?_
      refine w_iconst dX11_isSo_75 ?_
      refine w_iload_n dX11_isSo_76 rfl ?_
      refine w_ishl dX11_isSo_77 ?_
      refine w_iconst dX11_isSo_78 ?_
      refine w_ixor dX11_isSo_79 ?_
      refine w_iand dX11_isSo_80 ?_
      refine k_sI (as := [pI (bAnd x2 (bXor (bShl 1 x3) (-1)))]) dX11_isSo_81 kX11_381 ⟨⟨Nat.le_of_ble_eq_true rfl, rfl, rfl⟩, Nat.le_of_ble_eq_true rfl⟩ rfl (Nat.le_of_ble_eq_true rfl) h ?_
      intro r11 M12 h
      refine w_iload dX11_isSo_84 rfl ?_
      obtain ⟨o13, h⟩ := h
      refine w_icmp_lt dX11_isSo_86 rfl ⟨o13, g2⟩ (fun c => ?_) (fun c => ?_)
      · have h := h.1 c
        refine w_iconst dX11_isSo_93 ?_
        exact k_zret dX11_isSo_94 rfl (by decide) h
      · have h := h.2 c
        refine w_iconst dX11_isSo_89 ?_
        refine w_goto dX11_isSo_90 rfl ?_
        exact k_zret dX11_isSo_94 rfl (by decide) h
    | 3, _, hx =>
      have h := h.2.2.2.1 (by simpa using hx)
      clear hx
      refine w_aload_n dX11_isSo_95 rfl ?_
      refine w_getR dX11_isSo_96 fX11_91 rfl rfl rfl ?_
      refine w_iload dX11_isSo_99 rfl ?_
      obtain ⟨o14, h⟩ := h
      refine w_zald (x := (M 124 ((M 111 x1.toNat).toNat))) dX11_isSo_101 rfl o14 rfl (fun g15 => ?_)
      have h := h g15
      obtain ⟨o16, h⟩ := h
      exact k_zret dX11_isSo_102 rfl o16 h
    | 4, _, hx =>
      have h := h.2.2.2.2.1 (by simpa using hx)
      clear hx
      refine w_aload_n dX11_isSo_103 rfl ?_
      refine w_getR dX11_isSo_104 fX11_91 rfl rfl rfl ?_
      refine w_iload dX11_isSo_107 rfl ?_
      obtain ⟨o17, h⟩ := h
      refine w_zald (x := (M 124 ((M 111 x1.toNat).toNat))) dX11_isSo_109 rfl o17 rfl (fun g18 => ?_)
      have h := h g18
      refine w_if_ne dX11_isSo_110 rfl (z2i g18) (fun c => ?_) (fun c => ?_)
      · have h := h.1 c
        refine w_iconst dX11_isSo_117 ?_
        exact k_zret dX11_isSo_118 rfl (by decide) h
      · have h := h.2 c
        refine w_iconst dX11_isSo_113 ?_
        refine w_goto dX11_isSo_114 rfl ?_
        exact k_zret dX11_isSo_118 rfl (by decide) h
    | 5, _, hx =>
      have h := h.2.2.2.2.2.1 (by simpa using hx)
      clear hx
      refine w_aload_n dX11_isSo_119 rfl ?_
      refine w_getR dX11_isSo_120 fX11_91 rfl rfl rfl ?_
      refine w_iload dX11_isSo_123 rfl ?_
      obtain ⟨o19, h⟩ := h
      refine w_zald (x := (M 124 ((M 111 x1.toNat).toNat))) dX11_isSo_125 rfl o19 rfl (fun g20 => ?_)
      have h := h g20
      refine w_if_eq dX11_isSo_126 rfl (z2i g20) (fun c => ?_) (fun c => ?_)
      · have h := h.1 c
        refine w_iconst dX11_isSo_147 ?_
        exact k_zret dX11_isSo_148 rfl (by decide) h
      · have h := h.2 c
        refine w_aload_n dX11_isSo_129 rfl ?_
        refine w_getR dX11_isSo_130 fX11_91 rfl rfl rfl ?_
        refine w_aload_n dX11_isSo_133 rfl ?_
        refine w_getR dX11_isSo_134 fX11_54 rfl rfl rfl ?_
        refine w_iload_n dX11_isSo_137 rfl ?_
        obtain ⟨o21, h⟩ := h
        refine w_iald (x := (M 112 x1.toNat)) dX11_isSo_138 rfl o21 rfl (fun g22 => ?_)
        have h := h g22
        obtain ⟨o23, h⟩ := h
        refine w_zald (x := (M 124 ((M 112 x1.toNat).toNat))) dX11_isSo_139 rfl o23 rfl (fun g24 => ?_)
        have h := h g24
        refine w_if_eq dX11_isSo_140 rfl (z2i g24) (fun c => ?_) (fun c => ?_)
        · have h := h.1 c
          refine w_iconst dX11_isSo_147 ?_
          exact k_zret dX11_isSo_148 rfl (by decide) h
        · have h := h.2 c
          refine w_iconst dX11_isSo_143 ?_
          refine w_goto dX11_isSo_144 rfl ?_
          exact k_zret dX11_isSo_148 rfl (by decide) h
    | _ + 6, hj, _ => exact absurd hj (by simp)
  · intro c
    have h := h.2.2.2.2.2.2 c
    refine w_aload_n dX11_isSo_149 rfl ?_
    refine w_getR dX11_isSo_150 fX11_91 rfl rfl rfl ?_
    refine w_iload dX11_isSo_153 rfl ?_
    obtain ⟨o25, h⟩ := h
    refine w_zald (x := (M 124 ((M 111 x1.toNat).toNat))) dX11_isSo_155 rfl o25 rfl (fun g26 => ?_)
    have h := h g26
    refine w_if_ne dX11_isSo_156 rfl (z2i g26) (fun c => ?_) (fun c => ?_)
    · have h := h.1 c
      refine w_iconst dX11_isSo_173 ?_
      refine w_goto dX11_isSo_174 rfl ?_
      exact k_zret dX11_isSo_178 rfl (by decide) h
    · have h := h.2 c
      refine w_aload_n dX11_isSo_159 rfl ?_
      refine w_getR dX11_isSo_160 fX11_91 rfl rfl rfl ?_
      refine w_aload_n dX11_isSo_163 rfl ?_
      refine w_getR dX11_isSo_164 fX11_54 rfl rfl rfl ?_
      refine w_iload_n dX11_isSo_167 rfl ?_
      obtain ⟨o27, h⟩ := h
      refine w_iald (x := (M 112 x1.toNat)) dX11_isSo_168 rfl o27 rfl (fun g28 => ?_)
      have h := h g28
      obtain ⟨o29, h⟩ := h
      refine w_zald (x := (M 124 ((M 112 x1.toNat).toNat))) dX11_isSo_169 rfl o29 rfl (fun g30 => ?_)
      have h := h g30
      refine w_if_eq dX11_isSo_170 rfl (z2i g30) (fun c => ?_) (fun c => ?_)
      · have h := h.1 c
        refine w_iconst dX11_isSo_177 ?_
        exact k_zret dX11_isSo_178 rfl (by decide) h
      · have h := h.2 c
        refine w_iconst dX11_isSo_173 ?_
        refine w_goto dX11_isSo_174 rfl ?_
        exact k_zret dX11_isSo_178 rfl (by decide) h
theorem vX11_layMay_0 {E : Scr} {f : Mem → Prop} {M : Mem} (h : (KW E mX11_layMay (qV f) M 2 [(0, pR 98), (1, pI 0)] [])) : CV E mX11_layMay [pR 98] M f := by
  refine (show KW E mX11_layMay (qV f) M 0 [(0, pR 98)] [] from ?_)
  refine w_iconst dX11_layMay_0 ?_
  refine w_istore_n dX11_layMay_1 (by decide) ?_
  exact k_pick [1, 0] rfl h
theorem vX11_layMay_2 {E : Scr} {f : Mem → Prop} {M : Mem} (x1 : Int) (h : ((iR (M 98 12)) → (iR x1) ∧ ((x1 ≥ (bShl 1 (M 98 12)) → f M) ∧ (x1 < (bShl 1 (M 98 12)) → (0 ≤ x1 ∧ x1 < 256) ∧ (KW E mX11_layMay (qV f) (upM M 123 x1.toNat 0) 21 [(0, pR 98), (1, pI x1), (2, pI 0)] []))))) : KW E mX11_layMay (qV f) M 2 [(0, pR 98), (1, pI x1)] [] := by
  refine w_iload_n dX11_layMay_2 rfl ?_
  refine w_iconst dX11_layMay_3 ?_
  refine w_aload_n dX11_layMay_4 rfl ?_
  refine w_getI (x := (M 98 12)) dX11_layMay_5 fX11_240 rfl rfl rfl (fun g1 => ?_)
  have h := h g1
  refine w_ishl dX11_layMay_8 ?_
  obtain ⟨o2, h⟩ := h
  refine w_icmp_ge dX11_layMay_9 rfl ⟨o2, (bShl_r _ _)⟩ (fun c => ?_) (fun c => ?_)
  · have h := h.1 c
    exact k_vret dX11_layMay_107 rfl h
  · have h := h.2 c
    refine w_aload_n dX11_layMay_12 rfl ?_
    refine w_getR dX11_layMay_13 fX11_88 rfl rfl rfl ?_
    refine w_iload_n dX11_layMay_16 rfl ?_
    refine w_iconst dX11_layMay_17 ?_
    obtain ⟨o3, h⟩ := h
    refine w_iast dX11_layMay_18 rfl o3 (by decide) ?_
    refine w_iconst dX11_layMay_19 ?_
    refine w_istore_n dX11_layMay_20 (by decide) ?_
    exact k_pick [1, 2, 0] rfl h
theorem vX11_layMay_21 {E : Scr} {f : Mem → Prop} {M : Mem} (x1 x2 : Int) (h : ((iR (M 98 12)) → (iR x2) ∧ ((x2 ≥ (M 98 12) → (KW E mX11_layMay (qV f) M 2 [(0, pR 98), (1, pI (x1 + 1))] [])) ∧ (x2 < (M 98 12) → (KW E mX11_layMay (qV f) M 31 [(0, pR 98), (1, pI x1), (2, pI x2), (3, pI 0)] []))))) : KW E mX11_layMay (qV f) M 21 [(0, pR 98), (1, pI x1), (2, pI x2)] [] := by
  refine w_iload_n dX11_layMay_21 rfl ?_
  refine w_aload_n dX11_layMay_22 rfl ?_
  refine w_getI (x := (M 98 12)) dX11_layMay_23 fX11_240 rfl rfl rfl (fun g1 => ?_)
  have h := h g1
  obtain ⟨o2, h⟩ := h
  refine w_icmp_ge dX11_layMay_26 rfl ⟨o2, g1⟩ (fun c => ?_) (fun c => ?_)
  · have h := h.1 c
    refine w_iinc dX11_layMay_101 rfl (by decide) ?_
    refine w_goto dX11_layMay_104 rfl ?_
    exact k_pick [1, 0] rfl h
  · have h := h.2 c
    refine w_iconst dX11_layMay_29 ?_
    refine w_istore_n dX11_layMay_30 (by decide) ?_
    exact k_pick [1, 2, 3, 0] rfl h
theorem vX11_layMay_31 {E : Scr} {f : Mem → Prop} {M : Mem} (x1 x2 x3 : Int) (h : (0 ≤ x2 ∧ x2 < 16) ∧ ((iR (M 105 x2.toNat)) → (iR x3) ∧ ((x3 > (M 105 x2.toNat) → (0 ≤ x2 ∧ x2 < 16) ∧ ((iR (M 105 x2.toNat)) → (((M 105 x2.toNat) < 0 → (0 ≤ x1 ∧ x1 < 256) ∧ ((iR (M 123 x1.toNat)) → (0 ≤ x1 ∧ x1 < 256) ∧ (KW E mX11_layMay (qV f) (upM M 123 x1.toNat (bOr (M 123 x1.toNat) (bShl 1 x2))) 21 [(0, pR 98), (1, pI x1), (2, pI (x2 + 1))] []))) ∧ ((M 105 x2.toNat) ≥ 0 → (0 ≤ x2 ∧ x2 < 16) ∧ ((iR (M 105 x2.toNat)) → (0 ≤ (M 105 x2.toNat) ∧ (M 105 x2.toNat) < 64) ∧ ((zR (M 124 ((M 105 x2.toNat).toNat))) → (((M 124 ((M 105 x2.toNat).toNat)) = 0 → (KW E mX11_layMay (qV f) M 21 [(0, pR 98), (1, pI x1), (2, pI (x2 + 1))] [])) ∧ ((M 124 ((M 105 x2.toNat).toNat)) ≠ 0 → (0 ≤ x1 ∧ x1 < 256) ∧ ((iR (M 123 x1.toNat)) → (0 ≤ x1 ∧ x1 < 256) ∧ (KW E mX11_layMay (qV f) (upM M 123 x1.toNat (bOr (M 123 x1.toNat) (bShl 1 x2))) 21 [(0, pR 98), (1, pI x1), (2, pI (x2 + 1))] [])))))))))) ∧ (x3 ≤ (M 105 x2.toNat) → (CI E mX11_isSo [pR 98, pI x3, pI x1, pI x2] M (fun r16 M17 => (0 ≤ x3 ∧ x3 < 64) ∧ (zR r16) ∧ (KW E mX11_layMay (qV f) (upM M17 124 x3.toNat r16) 31 [(0, pR 98), (1, pI x1), (2, pI x2), (3, pI (x3 + 1))] []))))))) : KW E mX11_layMay (qV f) M 31 [(0, pR 98), (1, pI x1), (2, pI x2), (3, pI x3)] [] := by
  refine w_iload_n dX11_layMay_31 rfl ?_
  refine w_aload_n dX11_layMay_32 rfl ?_
  refine w_getR dX11_layMay_33 fX11_33 rfl rfl rfl ?_
  refine w_iload_n dX11_layMay_36 rfl ?_
  obtain ⟨o1, h⟩ := h
  refine w_iald (x := (M 105 x2.toNat)) dX11_layMay_37 rfl o1 rfl (fun g2 => ?_)
  have h := h g2
  obtain ⟨o3, h⟩ := h
  refine w_icmp_gt dX11_layMay_38 rfl ⟨o3, g2⟩ (fun c => ?_) (fun c => ?_)
  · have h := h.1 c
    refine w_aload_n dX11_layMay_60 rfl ?_
    refine w_getR dX11_layMay_61 fX11_33 rfl rfl rfl ?_
    refine w_iload_n dX11_layMay_64 rfl ?_
    obtain ⟨o4, h⟩ := h
    refine w_iald (x := (M 105 x2.toNat)) dX11_layMay_65 rfl o4 rfl (fun g5 => ?_)
    have h := h g5
    refine w_if_lt dX11_layMay_66 rfl g5 (fun c => ?_) (fun c => ?_)
    · have h := h.1 c
      refine w_aload_n dX11_layMay_83 rfl ?_
      refine w_getR dX11_layMay_84 fX11_88 rfl rfl rfl ?_
      refine w_iload_n dX11_layMay_87 rfl ?_
      refine w_dup2 dX11_layMay_88 ⟨rfl, rfl⟩ ?_
      obtain ⟨o6, h⟩ := h
      refine w_iald (x := (M 123 x1.toNat)) dX11_layMay_89 rfl o6 rfl (fun g7 => ?_)
      have h := h g7
      refine w_iconst dX11_layMay_90 ?_
      refine w_iload_n dX11_layMay_91 rfl ?_
      refine w_ishl dX11_layMay_92 ?_
      refine w_ior dX11_layMay_93 ?_
      obtain ⟨o8, h⟩ := h
      refine w_iast dX11_layMay_94 rfl o8 (bOr_r _ _) ?_
      refine w_iinc dX11_layMay_95 rfl (by decide) ?_
      refine w_goto dX11_layMay_98 rfl ?_
      exact k_pick [1, 2, 0] rfl h
    · have h := h.2 c
      refine w_aload_n dX11_layMay_69 rfl ?_
      refine w_getR dX11_layMay_70 fX11_91 rfl rfl rfl ?_
      refine w_aload_n dX11_layMay_73 rfl ?_
      refine w_getR dX11_layMay_74 fX11_33 rfl rfl rfl ?_
      refine w_iload_n dX11_layMay_77 rfl ?_
      obtain ⟨o9, h⟩ := h
      refine w_iald (x := (M 105 x2.toNat)) dX11_layMay_78 rfl o9 rfl (fun g10 => ?_)
      have h := h g10
      obtain ⟨o11, h⟩ := h
      refine w_zald (x := (M 124 ((M 105 x2.toNat).toNat))) dX11_layMay_79 rfl o11 rfl (fun g12 => ?_)
      have h := h g12
      refine w_if_eq dX11_layMay_80 rfl (z2i g12) (fun c => ?_) (fun c => ?_)
      · have h := h.1 c
        refine w_iinc dX11_layMay_95 rfl (by decide) ?_
        refine w_goto dX11_layMay_98 rfl ?_
        exact k_pick [1, 2, 0] rfl h
      · have h := h.2 c
        refine w_aload_n dX11_layMay_83 rfl ?_
        refine w_getR dX11_layMay_84 fX11_88 rfl rfl rfl ?_
        refine w_iload_n dX11_layMay_87 rfl ?_
        refine w_dup2 dX11_layMay_88 ⟨rfl, rfl⟩ ?_
        obtain ⟨o13, h⟩ := h
        refine w_iald (x := (M 123 x1.toNat)) dX11_layMay_89 rfl o13 rfl (fun g14 => ?_)
        have h := h g14
        refine w_iconst dX11_layMay_90 ?_
        refine w_iload_n dX11_layMay_91 rfl ?_
        refine w_ishl dX11_layMay_92 ?_
        refine w_ior dX11_layMay_93 ?_
        obtain ⟨o15, h⟩ := h
        refine w_iast dX11_layMay_94 rfl o15 (bOr_r _ _) ?_
        refine w_iinc dX11_layMay_95 rfl (by decide) ?_
        refine w_goto dX11_layMay_98 rfl ?_
        exact k_pick [1, 2, 0] rfl h
  · have h := h.2 c
    refine w_aload_n dX11_layMay_41 rfl ?_
    refine w_getR dX11_layMay_42 fX11_91 rfl rfl rfl ?_
    refine w_iload_n dX11_layMay_45 rfl ?_
    refine w_aload_n dX11_layMay_46 rfl ?_
    refine w_iload_n dX11_layMay_47 rfl ?_
    refine w_iload_n dX11_layMay_48 rfl ?_
    refine w_iload_n dX11_layMay_49 rfl ?_
    refine k_vI (as := [pI x3, pI x1, pI x2]) dX11_layMay_50 kX11_384 ⟨⟨Nat.le_of_ble_eq_true rfl, rfl, rfl⟩, Nat.le_of_ble_eq_true rfl⟩ rfl (by decide) rfl (Nat.le_of_ble_eq_true rfl) h ?_
    intro r16 M17 h
    obtain ⟨o18, h⟩ := h
    obtain ⟨o19, h⟩ := h
    refine w_zast dX11_layMay_53 rfl o18 o19 ?_
    refine w_iinc dX11_layMay_54 rfl (by decide) ?_
    refine w_goto dX11_layMay_57 rfl ?_
    exact k_pick [1, 2, 3, 0] rfl h
theorem vX11_begin_0 {E : Scr} {f : Mem → Prop} {M : Mem} (h : (KW E mX11_begin (qV f) (upM M 125 0 0) 9 [(0, pR 98), (1, pI 0)] [])) : CV E mX11_begin [pR 98] M f := by
  refine (show KW E mX11_begin (qV f) M 0 [(0, pR 98)] [] from ?_)
  refine w_aload_n dX11_begin_0 rfl ?_
  refine w_getR dX11_begin_1 fX11_94 rfl rfl rfl ?_
  refine w_iconst dX11_begin_4 ?_
  refine w_iconst dX11_begin_5 ?_
  refine w_iast dX11_begin_6 rfl (by decide) (by decide) ?_
  refine w_iconst dX11_begin_7 ?_
  refine w_istore_n dX11_begin_8 (by decide) ?_
  exact k_pick [1, 0] rfl h
theorem vX11_begin_9 {E : Scr} {f : Mem → Prop} {M : Mem} (x1 : Int) (h : ((iR (M 98 12)) → (iR x1) ∧ ((x1 ≥ (M 98 12) → (KW E mX11_begin (qV f) M 42 [(0, pR 98), (1, pI 0)] [])) ∧ (x1 < (M 98 12) → ((iR (M 125 0)) → (0 ≤ x1 ∧ x1 < 16) ∧ ((iR (M 104 x1.toNat)) → (KW E mX11_begin (qV f) (upM M 125 0 (bOr (M 125 0) (bShl (M 104 x1.toNat) x1))) 9 [(0, pR 98), (1, pI (x1 + 1))] []))))))) : KW E mX11_begin (qV f) M 9 [(0, pR 98), (1, pI x1)] [] := by
  refine w_iload_n dX11_begin_9 rfl ?_
  refine w_aload_n dX11_begin_10 rfl ?_
  refine w_getI (x := (M 98 12)) dX11_begin_11 fX11_240 rfl rfl rfl (fun g1 => ?_)
  have h := h g1
  obtain ⟨o2, h⟩ := h
  refine w_icmp_ge dX11_begin_14 rfl ⟨o2, g1⟩ (fun c => ?_) (fun c => ?_)
  · have h := h.1 c
    refine w_iconst dX11_begin_40 ?_
    refine w_istore_n dX11_begin_41 (by decide) ?_
    exact k_pick [1, 0] rfl h
  · have h := h.2 c
    refine w_aload_n dX11_begin_17 rfl ?_
    refine w_getR dX11_begin_18 fX11_94 rfl rfl rfl ?_
    refine w_iconst dX11_begin_21 ?_
    refine w_dup2 dX11_begin_22 ⟨rfl, rfl⟩ ?_
    refine w_iald (x := (M 125 0)) dX11_begin_23 rfl (by decide) rfl (fun g3 => ?_)
    have h := h g3
    refine w_aload_n dX11_begin_24 rfl ?_
    refine w_getR dX11_begin_25 fX11_30 rfl rfl rfl ?_
    refine w_iload_n dX11_begin_28 rfl ?_
    obtain ⟨o4, h⟩ := h
    refine w_iald (x := (M 104 x1.toNat)) dX11_begin_29 rfl o4 rfl (fun g5 => ?_)
    have h := h g5
    refine w_iload_n dX11_begin_30 rfl ?_
    refine w_ishl dX11_begin_31 ?_
    refine w_ior dX11_begin_32 ?_
    refine w_iast dX11_begin_33 rfl (by decide) (bOr_r _ _) ?_
    refine w_iinc dX11_begin_34 rfl (by decide) ?_
    refine w_goto dX11_begin_37 rfl ?_
    exact k_pick [1, 0] rfl h
theorem vX11_begin_42 {E : Scr} {f : Mem → Prop} {M : Mem} (x1 : Int) (h : (iR x1) ∧ ((x1 ≥ 8 → ((iR (M 102 1)) → (CV E mX11_plainTried [pR 98] (upM (upM (upM (upM (upM M 126 0 0) 127 0 0) 128 0 0) 129 0 0) 98 59 (M 102 1)) (fun M4 => f (upM (upM (upM (upM M4 98 76 0) 98 77 (-1)) 98 80 0) 98 82 0))))) ∧ (x1 < 8 → (0 ≤ x1 ∧ x1 < 16) ∧ (KW E mX11_begin (qV f) (upM M 130 x1.toNat 0) 42 [(0, pR 98), (1, pI (x1 + 1))] [])))) : KW E mX11_begin (qV f) M 42 [(0, pR 98), (1, pI x1)] [] := by
  refine w_iload_n dX11_begin_42 rfl ?_
  refine w_bipush dX11_begin_43 (by decide) ?_
  obtain ⟨o1, h⟩ := h
  refine w_icmp_ge dX11_begin_45 rfl ⟨o1, (by decide)⟩ (fun c => ?_) (fun c => ?_)
  · have h := h.1 c
    refine w_aload_n dX11_begin_61 rfl ?_
    refine w_getR dX11_begin_62 fX11_97 rfl rfl rfl ?_
    refine w_iconst dX11_begin_65 ?_
    refine w_iconst dX11_begin_66 ?_
    refine w_iast dX11_begin_67 rfl (by decide) (by decide) ?_
    refine w_aload_n dX11_begin_68 rfl ?_
    refine w_getR dX11_begin_69 fX11_100 rfl rfl rfl ?_
    refine w_iconst dX11_begin_72 ?_
    refine w_iconst dX11_begin_73 ?_
    refine w_iast dX11_begin_74 rfl (by decide) (by decide) ?_
    refine w_aload_n dX11_begin_75 rfl ?_
    refine w_getR dX11_begin_76 fX11_103 rfl rfl rfl ?_
    refine w_iconst dX11_begin_79 ?_
    refine w_iconst dX11_begin_80 ?_
    refine w_iast dX11_begin_81 rfl (by decide) (by decide) ?_
    refine w_aload_n dX11_begin_82 rfl ?_
    refine w_getR dX11_begin_83 fX11_106 rfl rfl rfl ?_
    refine w_iconst dX11_begin_86 ?_
    refine w_iconst dX11_begin_87 ?_
    refine w_iast dX11_begin_88 rfl (by decide) (by decide) ?_
    refine w_aload_n dX11_begin_89 rfl ?_
    refine w_aload_n dX11_begin_90 rfl ?_
    refine w_getR dX11_begin_91 fX11_24 rfl rfl rfl ?_
    refine w_iconst dX11_begin_94 ?_
    refine w_iald (x := (M 102 1)) dX11_begin_95 rfl (by decide) rfl (fun g2 => ?_)
    have h := h g2
    refine w_i2l dX11_begin_96 g2 ?_
    refine w_putL dX11_begin_97 (Or.inl ⟨rfl, fX11_387⟩) rfl rfl (i2l_r g2) ?_
    refine w_aload_n dX11_begin_100 rfl ?_
    refine k_vV (as := []) dX11_begin_101 kX11_391 ⟨⟨Nat.le_of_ble_eq_true rfl, rfl, rfl⟩, Nat.le_of_ble_eq_true rfl⟩ rfl (by decide) rfl (Nat.le_of_ble_eq_true rfl) h ?_
    intro M4 h
    refine w_aload_n dX11_begin_104 rfl ?_
    refine w_iconst dX11_begin_105 ?_
    refine w_putI dX11_begin_106 (Or.inl ⟨rfl, fX11_394⟩) rfl rfl (by decide) ?_
    refine w_aload_n dX11_begin_109 rfl ?_
    refine w_iconst dX11_begin_110 ?_
    refine w_putI dX11_begin_111 (Or.inl ⟨rfl, fX11_139⟩) rfl rfl (by decide) ?_
    refine w_aload_n dX11_begin_114 rfl ?_
    refine w_iconst dX11_begin_115 ?_
    refine w_putI dX11_begin_116 (Or.inl ⟨rfl, fX11_397⟩) rfl rfl (by decide) ?_
    refine w_aload_n dX11_begin_119 rfl ?_
    refine w_iconst dX11_begin_120 ?_
    refine w_putZ dX11_begin_121 (Or.inl ⟨rfl, fX11_400⟩) rfl rfl (by decide) ?_
    exact k_vret dX11_begin_124 rfl h
  · have h := h.2 c
    refine w_aload_n dX11_begin_48 rfl ?_
    refine w_getR dX11_begin_49 fX11_109 rfl rfl rfl ?_
    refine w_iload_n dX11_begin_52 rfl ?_
    refine w_iconst dX11_begin_53 ?_
    obtain ⟨o5, h⟩ := h
    refine w_iast dX11_begin_54 rfl o5 (by decide) ?_
    refine w_iinc dX11_begin_55 rfl (by decide) ?_
    refine w_goto dX11_begin_58 rfl ?_
    exact k_pick [1, 0] rfl h
theorem vX11_plainTried_0 {E : Scr} {f : Mem → Prop} {M : Mem} (h : f (upM (upM (upM (upM (upM (upM M 98 60 0) 98 61 0) 98 62 0) 98 63 0) 98 64 0) 98 65 (-1))) : CV E mX11_plainTried [pR 98] M f := by
  refine (show KW E mX11_plainTried (qV f) M 0 [(0, pR 98)] [] from ?_)
  refine w_aload_n dX11_plainTried_0 rfl ?_
  refine w_iconst dX11_plainTried_1 ?_
  refine w_putZ dX11_plainTried_2 (Or.inl ⟨rfl, fX11_403⟩) rfl rfl (by decide) ?_
  refine w_aload_n dX11_plainTried_5 rfl ?_
  refine w_iconst dX11_plainTried_6 ?_
  refine w_putZ dX11_plainTried_7 (Or.inl ⟨rfl, fX11_406⟩) rfl rfl (by decide) ?_
  refine w_aload_n dX11_plainTried_10 rfl ?_
  refine w_iconst dX11_plainTried_11 ?_
  refine w_putZ dX11_plainTried_12 (Or.inl ⟨rfl, fX11_409⟩) rfl rfl (by decide) ?_
  refine w_aload_n dX11_plainTried_15 rfl ?_
  refine w_iconst dX11_plainTried_16 ?_
  refine w_putZ dX11_plainTried_17 (Or.inl ⟨rfl, fX11_412⟩) rfl rfl (by decide) ?_
  refine w_aload_n dX11_plainTried_20 rfl ?_
  refine w_iconst dX11_plainTried_21 ?_
  refine w_putZ dX11_plainTried_22 (Or.inl ⟨rfl, fX11_415⟩) rfl rfl (by decide) ?_
  refine w_aload_n dX11_plainTried_25 rfl ?_
  refine w_iconst dX11_plainTried_26 ?_
  refine w_putI dX11_plainTried_27 (Or.inl ⟨rfl, fX11_418⟩) rfl rfl (by decide) ?_
  exact k_vret dX11_plainTried_30 rfl h
theorem vX11_layTried_0 {E : Scr} {f : Mem → Prop} {M : Mem} (h : ((iR (M 125 0)) → ((iR (M 126 0)) → ((iR (M 127 0)) → ((iR (M 128 0)) → ((iR (M 129 0)) → (KW E mX11_layTried (qV f) (upM (upM (upM (upM (upM M 125 1 (M 125 0)) 126 1 (M 126 0)) 127 1 (M 127 0)) 128 1 (M 128 0)) 129 1 (M 129 0)) 62 [(0, pR 98), (1, pI 0)] []))))))) : CV E mX11_layTried [pR 98] M f := by
  refine (show KW E mX11_layTried (qV f) M 0 [(0, pR 98)] [] from ?_)
  refine w_aload_n dX11_layTried_0 rfl ?_
  refine w_getR dX11_layTried_1 fX11_94 rfl rfl rfl ?_
  refine w_iconst dX11_layTried_4 ?_
  refine w_aload_n dX11_layTried_5 rfl ?_
  refine w_getR dX11_layTried_6 fX11_94 rfl rfl rfl ?_
  refine w_iconst dX11_layTried_9 ?_
  refine w_iald (x := (M 125 0)) dX11_layTried_10 rfl (by decide) rfl (fun g1 => ?_)
  have h := h g1
  refine w_iast dX11_layTried_11 rfl (by decide) g1 ?_
  refine w_aload_n dX11_layTried_12 rfl ?_
  refine w_getR dX11_layTried_13 fX11_97 rfl rfl rfl ?_
  refine w_iconst dX11_layTried_16 ?_
  refine w_aload_n dX11_layTried_17 rfl ?_
  refine w_getR dX11_layTried_18 fX11_97 rfl rfl rfl ?_
  refine w_iconst dX11_layTried_21 ?_
  refine w_iald (x := (M 126 0)) dX11_layTried_22 rfl (by decide) rfl (fun g2 => ?_)
  have h := h g2
  refine w_iast dX11_layTried_23 rfl (by decide) g2 ?_
  refine w_aload_n dX11_layTried_24 rfl ?_
  refine w_getR dX11_layTried_25 fX11_100 rfl rfl rfl ?_
  refine w_iconst dX11_layTried_28 ?_
  refine w_aload_n dX11_layTried_29 rfl ?_
  refine w_getR dX11_layTried_30 fX11_100 rfl rfl rfl ?_
  refine w_iconst dX11_layTried_33 ?_
  refine w_iald (x := (M 127 0)) dX11_layTried_34 rfl (by decide) rfl (fun g3 => ?_)
  have h := h g3
  refine w_iast dX11_layTried_35 rfl (by decide) g3 ?_
  refine w_aload_n dX11_layTried_36 rfl ?_
  refine w_getR dX11_layTried_37 fX11_103 rfl rfl rfl ?_
  refine w_iconst dX11_layTried_40 ?_
  refine w_aload_n dX11_layTried_41 rfl ?_
  refine w_getR dX11_layTried_42 fX11_103 rfl rfl rfl ?_
  refine w_iconst dX11_layTried_45 ?_
  refine w_iald (x := (M 128 0)) dX11_layTried_46 rfl (by decide) rfl (fun g4 => ?_)
  have h := h g4
  refine w_iast dX11_layTried_47 rfl (by decide) g4 ?_
  refine w_aload_n dX11_layTried_48 rfl ?_
  refine w_getR dX11_layTried_49 fX11_106 rfl rfl rfl ?_
  refine w_iconst dX11_layTried_52 ?_
  refine w_aload_n dX11_layTried_53 rfl ?_
  refine w_getR dX11_layTried_54 fX11_106 rfl rfl rfl ?_
  refine w_iconst dX11_layTried_57 ?_
  refine w_iald (x := (M 129 0)) dX11_layTried_58 rfl (by decide) rfl (fun g5 => ?_)
  have h := h g5
  refine w_iast dX11_layTried_59 rfl (by decide) g5 ?_
  refine w_iconst dX11_layTried_60 ?_
  refine w_istore_n dX11_layTried_61 (by decide) ?_
  exact k_pick [1, 0] rfl h
theorem vX11_layTried_62 {E : Scr} {f : Mem → Prop} {M : Mem} (x1 : Int) (h : (iR x1) ∧ ((x1 ≥ 8 → (CV E mX11_plainTried [pR 98] M (fun M3 => f M3))) ∧ (x1 < 8 → (0 ≤ x1 ∧ x1 < 16) ∧ ((iR (M 130 x1.toNat)) → (0 ≤ (8 + x1) ∧ (8 + x1) < 16) ∧ (KW E mX11_layTried (qV f) (upM M 130 ((8 + x1).toNat) (M 130 x1.toNat)) 62 [(0, pR 98), (1, pI (x1 + 1))] []))))) : KW E mX11_layTried (qV f) M 62 [(0, pR 98), (1, pI x1)] [] := by
  refine w_iload_n dX11_layTried_62 rfl ?_
  refine w_bipush dX11_layTried_63 (by decide) ?_
  obtain ⟨o1, h⟩ := h
  refine w_icmp_ge dX11_layTried_65 rfl ⟨o1, (by decide)⟩ (fun c => ?_) (fun c => ?_)
  · have h := h.1 c
    refine w_aload_n dX11_layTried_89 rfl ?_
    refine k_vV (as := []) dX11_layTried_90 kX11_391 ⟨⟨Nat.le_of_ble_eq_true rfl, rfl, rfl⟩, Nat.le_of_ble_eq_true rfl⟩ rfl (by decide) rfl (Nat.le_of_ble_eq_true rfl) h ?_
    intro M3 h
    exact k_vret dX11_layTried_93 rfl h
  · have h := h.2 c
    refine w_aload_n dX11_layTried_68 rfl ?_
    refine w_getR dX11_layTried_69 fX11_109 rfl rfl rfl ?_
    refine w_bipush dX11_layTried_72 (by decide) ?_
    refine w_iload_n dX11_layTried_74 rfl ?_
    refine w_iadd dX11_layTried_75 ?_
    refine w_aload_n dX11_layTried_76 rfl ?_
    refine w_getR dX11_layTried_77 fX11_109 rfl rfl rfl ?_
    refine w_iload_n dX11_layTried_80 rfl ?_
    obtain ⟨o4, h⟩ := h
    refine w_iald (x := (M 130 x1.toNat)) dX11_layTried_81 rfl o4 rfl (fun g5 => ?_)
    have h := h g5
    obtain ⟨o6, h⟩ := h
    refine w_iast dX11_layTried_82 rfl o6 g5 ?_
    refine w_iinc dX11_layTried_83 rfl (by decide) ?_
    refine w_goto dX11_layTried_86 rfl ?_
    exact k_pick [1, 0] rfl h
theorem vX11_isLatch_0 {E : Scr} {f : Int → Mem → Prop} {M : Mem} (x1 : Int) (h : (iR x1) ∧ ((x1 < 0 → f 0 M) ∧ (x1 ≥ 0 → ((iR (M 98 12)) → (iR x1) ∧ ((x1 ≥ (M 98 12) → f 0 M) ∧ (x1 < (M 98 12) → f 1 M)))))) : CI E mX11_isLatch [pR 98, pI x1] M f := by
  refine (show KW E mX11_isLatch (qI f) M 0 [(0, pR 98), (1, pI x1)] [] from ?_)
  refine w_iload_n dX11_isLatch_0 rfl ?_
  obtain ⟨o1, h⟩ := h
  refine w_if_lt dX11_isLatch_1 rfl o1 (fun c => ?_) (fun c => ?_)
  · have h := h.1 c
    refine w_iconst dX11_isLatch_16 ?_
    exact k_zret dX11_isLatch_17 rfl (by decide) h
  · have h := h.2 c
    refine w_iload_n dX11_isLatch_4 rfl ?_
    refine w_aload_n dX11_isLatch_5 rfl ?_
    refine w_getI (x := (M 98 12)) dX11_isLatch_6 fX11_240 rfl rfl rfl (fun g2 => ?_)
    have h := h g2
    obtain ⟨o3, h⟩ := h
    refine w_icmp_ge dX11_isLatch_9 rfl ⟨o3, g2⟩ (fun c => ?_) (fun c => ?_)
    · have h := h.1 c
      refine w_iconst dX11_isLatch_16 ?_
      exact k_zret dX11_isLatch_17 rfl (by decide) h
    · have h := h.2 c
      refine w_iconst dX11_isLatch_12 ?_
      refine w_goto dX11_isLatch_13 rfl ?_
      exact k_zret dX11_isLatch_17 rfl (by decide) h
theorem vX11_isRow_0 {E : Scr} {f : Int → Mem → Prop} {M : Mem} (x1 : Int) (h : (iR x1) ∧ ((x1 < 0 → f 0 M) ∧ (x1 ≥ 0 → ((iR (M 98 12)) → (iR x1) ∧ ((x1 ≥ (bShl 1 (M 98 12)) → f 0 M) ∧ (x1 < (bShl 1 (M 98 12)) → f 1 M)))))) : CI E mX11_isRow [pR 98, pI x1] M f := by
  refine (show KW E mX11_isRow (qI f) M 0 [(0, pR 98), (1, pI x1)] [] from ?_)
  refine w_iload_n dX11_isRow_0 rfl ?_
  obtain ⟨o1, h⟩ := h
  refine w_if_lt dX11_isRow_1 rfl o1 (fun c => ?_) (fun c => ?_)
  · have h := h.1 c
    refine w_iconst dX11_isRow_18 ?_
    exact k_zret dX11_isRow_19 rfl (by decide) h
  · have h := h.2 c
    refine w_iload_n dX11_isRow_4 rfl ?_
    refine w_iconst dX11_isRow_5 ?_
    refine w_aload_n dX11_isRow_6 rfl ?_
    refine w_getI (x := (M 98 12)) dX11_isRow_7 fX11_240 rfl rfl rfl (fun g2 => ?_)
    have h := h g2
    refine w_ishl dX11_isRow_10 ?_
    obtain ⟨o3, h⟩ := h
    refine w_icmp_ge dX11_isRow_11 rfl ⟨o3, (bShl_r _ _)⟩ (fun c => ?_) (fun c => ?_)
    · have h := h.1 c
      refine w_iconst dX11_isRow_18 ?_
      exact k_zret dX11_isRow_19 rfl (by decide) h
    · have h := h.2 c
      refine w_iconst dX11_isRow_14 ?_
      refine w_goto dX11_isRow_15 rfl ?_
      exact k_zret dX11_isRow_19 rfl (by decide) h
theorem vX11_canNow_0 {E : Scr} {f : Int → Mem → Prop} {M : Mem} (x1 : Int) (h : ((zR (M 98 62)) → (((M 98 62) = 0 → (0 ≤ x1 ∧ x1 < 2) ∧ ((iR (M 125 x1.toNat)) → (0 ≤ (M 125 x1.toNat) ∧ (M 125 x1.toNat) < 256) ∧ ((iR (M 123 ((M 125 x1.toNat).toNat))) → (0 ≤ x1 ∧ x1 < 2) ∧ ((iR (M 126 x1.toNat)) → f (bAnd (M 123 ((M 125 x1.toNat).toNat)) (bXor (M 126 x1.toNat) (-1))) M)))) ∧ ((M 98 62) ≠ 0 → (0 ≤ x1 ∧ x1 < 2) ∧ ((iR (M 126 x1.toNat)) → f (bAnd 255 (bXor (M 126 x1.toNat) (-1))) M))))) : CI E mX11_canNow [pR 98, pI x1] M f := by
  refine (show KW E mX11_canNow (qI f) M 0 [(0, pR 98), (1, pI x1)] [] from ?_)
  refine w_aload_n dX11_canNow_0 rfl ?_
  refine w_getZ (x := (M 98 62)) dX11_canNow_1 fX11_409 rfl rfl rfl (fun g1 => ?_)
  have h := h g1
  refine w_if_eq dX11_canNow_4 rfl (z2i g1) (fun c => ?_) (fun c => ?_)
  · have h := h.1 c
    refine w_aload_n dX11_canNow_13 rfl ?_
    refine w_getR dX11_canNow_14 fX11_88 rfl rfl rfl ?_
    refine w_aload_n dX11_canNow_17 rfl ?_
    refine w_getR dX11_canNow_18 fX11_94 rfl rfl rfl ?_
    refine w_iload_n dX11_canNow_21 rfl ?_
    obtain ⟨o2, h⟩ := h
    refine w_iald (x := (M 125 x1.toNat)) dX11_canNow_22 rfl o2 rfl (fun g3 => ?_)
    have h := h g3
    obtain ⟨o4, h⟩ := h
    refine w_iald (x := (M 123 ((M 125 x1.toNat).toNat))) dX11_canNow_23 rfl o4 rfl (fun g5 => ?_)
    have h := h g5
    refine w_aload_n dX11_canNow_24 rfl ?_
    refine w_getR dX11_canNow_25 fX11_97 rfl rfl rfl ?_
    refine w_iload_n dX11_canNow_28 rfl ?_
    obtain ⟨o6, h⟩ := h
    refine w_iald (x := (M 126 x1.toNat)) dX11_canNow_29 rfl o6 rfl (fun g7 => ?_)
    have h := h g7
    refine w_iconst dX11_canNow_30 ?_
    refine w_ixor dX11_canNow_31 ?_
    refine w_iand dX11_canNow_32 ?_
    exact k_iret dX11_canNow_33 rfl h
  · have h := h.2 c
    refine w_sipush dX11_canNow_7 (by decide) ?_
    refine w_goto dX11_canNow_10 rfl ?_
    refine w_aload_n dX11_canNow_24 rfl ?_
    refine w_getR dX11_canNow_25 fX11_97 rfl rfl rfl ?_
    refine w_iload_n dX11_canNow_28 rfl ?_
    obtain ⟨o8, h⟩ := h
    refine w_iald (x := (M 126 x1.toNat)) dX11_canNow_29 rfl o8 rfl (fun g9 => ?_)
    have h := h g9
    refine w_iconst dX11_canNow_30 ?_
    refine w_ixor dX11_canNow_31 ?_
    refine w_iand dX11_canNow_32 ?_
    exact k_iret dX11_canNow_33 rfl h
