theorem vX11_lay_0 {E : Scr} {f : Mem → Prop} {M : Mem} (x1 x2 : Int) (h : (0 ≤ ((8 * x1) + x2) ∧ ((8 * x1) + x2) < 16) ∧ ((iR (M 130 (((8 * x1) + x2).toNat))) → (iR x2) ∧ (0 ≤ x1 ∧ x1 < 2) ∧ ((iR (M 125 x1.toNat)) → (CI E mX11_manyOf [pI (M 125 x1.toNat)] (upM (upM M 121 0 (M 130 (((8 * x1) + x2).toNat))) 121 1 x2) (fun r6 M7 => (iR r6) ∧ (0 ≤ x1 ∧ x1 < 2) ∧ ((iR (M7 126 x1.toNat)) → (CI E mX11_manyOf [pI (M7 126 x1.toNat)] (upM M7 121 2 r6) (fun r11 M12 => (iR r11) ∧ (0 ≤ x1 ∧ x1 < 2) ∧ ((iR (M12 125 x1.toNat)) → (0 ≤ x1 ∧ x1 < 2) ∧ ((iR (M12 127 x1.toNat)) → (0 ≤ x1 ∧ x1 < 2) ∧ ((iR (M12 129 x1.toNat)) → f (upM (upM (upM (upM M12 121 3 r11) 121 4 (bAnd (bShr (M12 125 x1.toNat) x2) 1)) 121 5 (M12 127 x1.toNat)) 121 6 (M12 129 x1.toNat))))))))))))) : CV E mX11_lay [pR 98, pI x1, pI x2] M f := by
  refine (show KW E mX11_lay (qV f) M 0 [(0, pR 98), (1, pI x1), (2, pI x2)] [] from ?_)
  refine w_aload_n dX11_lay_0 rfl ?_
  refine w_getR dX11_lay_1 fX11_81 rfl rfl rfl ?_
  refine w_iconst dX11_lay_4 ?_
  refine w_aload_n dX11_lay_5 rfl ?_
  refine w_getR dX11_lay_6 fX11_109 rfl rfl rfl ?_
  refine w_bipush dX11_lay_9 (by decide) ?_
  refine w_iload_n dX11_lay_11 rfl ?_
  refine w_imul dX11_lay_12 ?_
  refine w_iload_n dX11_lay_13 rfl ?_
  refine w_iadd dX11_lay_14 ?_
  obtain ⟨o1, h⟩ := h
  refine w_iald (x := (M 130 (((8 * x1) + x2).toNat))) dX11_lay_15 rfl o1 rfl (fun g2 => ?_)
  have h := h g2
  refine w_i2l dX11_lay_16 g2 ?_
  refine w_last dX11_lay_17 rfl (by decide) (i2l_r g2) ?_
  refine w_aload_n dX11_lay_18 rfl ?_
  refine w_getR dX11_lay_19 fX11_81 rfl rfl rfl ?_
  refine w_iconst dX11_lay_22 ?_
  refine w_iload_n dX11_lay_23 rfl ?_
  obtain ⟨o3, h⟩ := h
  refine w_i2l dX11_lay_24 o3 ?_
  refine w_last dX11_lay_25 rfl (by decide) (i2l_r o3) ?_
  refine w_aload_n dX11_lay_26 rfl ?_
  refine w_getR dX11_lay_27 fX11_81 rfl rfl rfl ?_
  refine w_iconst dX11_lay_30 ?_
  refine w_aload_n dX11_lay_31 rfl ?_
  refine w_getR dX11_lay_32 fX11_94 rfl rfl rfl ?_
  refine w_iload_n dX11_lay_35 rfl ?_
  obtain ⟨o4, h⟩ := h
  refine w_iald (x := (M 125 x1.toNat)) dX11_lay_36 rfl o4 rfl (fun g5 => ?_)
  have h := h g5
  refine k_sI (as := [pI (M 125 x1.toNat)]) dX11_lay_37 kX11_381 ⟨⟨Nat.le_of_ble_eq_true rfl, rfl, rfl⟩, Nat.le_of_ble_eq_true rfl⟩ rfl (Nat.le_of_ble_eq_true rfl) h ?_
  intro r6 M7 h
  obtain ⟨o8, h⟩ := h
  refine w_i2l dX11_lay_40 o8 ?_
  refine w_last dX11_lay_41 rfl (by decide) (i2l_r o8) ?_
  refine w_aload_n dX11_lay_42 rfl ?_
  refine w_getR dX11_lay_43 fX11_81 rfl rfl rfl ?_
  refine w_iconst dX11_lay_46 ?_
  refine w_aload_n dX11_lay_47 rfl ?_
  refine w_getR dX11_lay_48 fX11_97 rfl rfl rfl ?_
  refine w_iload_n dX11_lay_51 rfl ?_
  obtain ⟨o9, h⟩ := h
  refine w_iald (x := (M7 126 x1.toNat)) dX11_lay_52 rfl o9 rfl (fun g10 => ?_)
  have h := h g10
  refine k_sI (as := [pI (M7 126 x1.toNat)]) dX11_lay_53 kX11_381 ⟨⟨Nat.le_of_ble_eq_true rfl, rfl, rfl⟩, Nat.le_of_ble_eq_true rfl⟩ rfl (Nat.le_of_ble_eq_true rfl) h ?_
  intro r11 M12 h
  obtain ⟨o13, h⟩ := h
  refine w_i2l dX11_lay_56 o13 ?_
  refine w_last dX11_lay_57 rfl (by decide) (i2l_r o13) ?_
  refine w_aload_n dX11_lay_58 rfl ?_
  refine w_getR dX11_lay_59 fX11_81 rfl rfl rfl ?_
  refine w_iconst dX11_lay_62 ?_
  refine w_aload_n dX11_lay_63 rfl ?_
  refine w_getR dX11_lay_64 fX11_94 rfl rfl rfl ?_
  refine w_iload_n dX11_lay_67 rfl ?_
  obtain ⟨o14, h⟩ := h
  refine w_iald (x := (M12 125 x1.toNat)) dX11_lay_68 rfl o14 rfl (fun g15 => ?_)
  have h := h g15
  refine w_iload_n dX11_lay_69 rfl ?_
  refine w_ishr dX11_lay_70 ?_
  refine w_iconst dX11_lay_71 ?_
  refine w_iand dX11_lay_72 ?_
  refine w_i2l dX11_lay_73 (bAnd_r _ _) ?_
  refine w_last dX11_lay_74 rfl (by decide) (i2l_r (bAnd_r _ _)) ?_
  refine w_aload_n dX11_lay_75 rfl ?_
  refine w_getR dX11_lay_76 fX11_81 rfl rfl rfl ?_
  refine w_iconst dX11_lay_79 ?_
  refine w_aload_n dX11_lay_80 rfl ?_
  refine w_getR dX11_lay_81 fX11_100 rfl rfl rfl ?_
  refine w_iload_n dX11_lay_84 rfl ?_
  obtain ⟨o16, h⟩ := h
  refine w_iald (x := (M12 127 x1.toNat)) dX11_lay_85 rfl o16 rfl (fun g17 => ?_)
  have h := h g17
  refine w_i2l dX11_lay_86 g17 ?_
  refine w_last dX11_lay_87 rfl (by decide) (i2l_r g17) ?_
  refine w_aload_n dX11_lay_88 rfl ?_
  refine w_getR dX11_lay_89 fX11_81 rfl rfl rfl ?_
  refine w_bipush dX11_lay_92 (by decide) ?_
  refine w_aload_n dX11_lay_94 rfl ?_
  refine w_getR dX11_lay_95 fX11_106 rfl rfl rfl ?_
  refine w_iload_n dX11_lay_98 rfl ?_
  obtain ⟨o18, h⟩ := h
  refine w_iald (x := (M12 129 x1.toNat)) dX11_lay_99 rfl o18 rfl (fun g19 => ?_)
  have h := h g19
  refine w_i2l dX11_lay_100 g19 ?_
  refine w_last dX11_lay_101 rfl (by decide) (i2l_r g19) ?_
  exact k_vret dX11_lay_102 rfl h
theorem vX11_lawOf_0 {E : Scr} {f : Int → Mem → Prop} {M : Mem} (x1 : Int) (h : (0 ≤ x1 ∧ x1 < 6) ∧ ((iR (M 114 x1.toNat)) → (KW E mX11_lawOf (qL f) (upM M 98 50 0) 12 [(0, pR 98), (1, pI x1), (2, pI (M 114 x1.toNat))] []))) : CL E mX11_lawOf [pR 98, pI x1] M f := by
  refine (show KW E mX11_lawOf (qL f) M 0 [(0, pR 98), (1, pI x1)] [] from ?_)
  refine w_aload_n dX11_lawOf_0 rfl ?_
  refine w_iconst dX11_lawOf_1 ?_
  refine w_putZ dX11_lawOf_2 (Or.inl ⟨rfl, fX11_347⟩) rfl rfl (by decide) ?_
  refine w_aload_n dX11_lawOf_5 rfl ?_
  refine w_getR dX11_lawOf_6 fX11_60 rfl rfl rfl ?_
  refine w_iload_n dX11_lawOf_9 rfl ?_
  obtain ⟨o1, h⟩ := h
  refine w_iald (x := (M 114 x1.toNat)) dX11_lawOf_10 rfl o1 rfl (fun g2 => ?_)
  have h := h g2
  refine w_istore_n dX11_lawOf_11 (by decide) ?_
  exact k_pick [1, 2, 0] rfl h
theorem vX11_lawOf_12 {E : Scr} {f : Int → Mem → Prop} {M : Mem} (x1 x2 : Int) (h : (0 ≤ x1 ∧ x1 < 6) ∧ ((iR (M 115 x1.toNat)) → (iR x2) ∧ ((x2 ≥ (M 115 x1.toNat) → ((zR (M 98 50)) → (((M 98 50) = 0 → (0 ≤ x1 ∧ x1 < 6) ∧ ((iR (M 115 x1.toNat)) → (0 ≤ ((M 115 x1.toNat) - 1) ∧ ((M 115 x1.toNat) - 1) < 64) ∧ ((lR (M 122 (((M 115 x1.toNat) - 1).toNat))) → f (M 122 (((M 115 x1.toNat) - 1).toNat)) M))) ∧ ((M 98 50) ≠ 0 → f 0 M)))) ∧ (x2 < (M 115 x1.toNat) → (CL E mX11_valueOf [pR 98, pI x2] M (fun r9 M10 => (0 ≤ x2 ∧ x2 < 64) ∧ (lR r9) ∧ (KW E mX11_lawOf (qL f) (upM M10 122 x2.toNat r9) 12 [(0, pR 98), (1, pI x1), (2, pI (x2 + 1))] []))))))) : KW E mX11_lawOf (qL f) M 12 [(0, pR 98), (1, pI x1), (2, pI x2)] [] := by
  refine w_iload_n dX11_lawOf_12 rfl ?_
  refine w_aload_n dX11_lawOf_13 rfl ?_
  refine w_getR dX11_lawOf_14 fX11_63 rfl rfl rfl ?_
  refine w_iload_n dX11_lawOf_17 rfl ?_
  obtain ⟨o1, h⟩ := h
  refine w_iald (x := (M 115 x1.toNat)) dX11_lawOf_18 rfl o1 rfl (fun g2 => ?_)
  have h := h g2
  obtain ⟨o3, h⟩ := h
  refine w_icmp_ge dX11_lawOf_19 rfl ⟨o3, g2⟩ (fun c => ?_) (fun c => ?_)
  · have h := h.1 c
    refine w_aload_n dX11_lawOf_39 rfl ?_
    refine w_getZ (x := (M 98 50)) dX11_lawOf_40 fX11_347 rfl rfl rfl (fun g4 => ?_)
    have h := h g4
    refine w_if_eq dX11_lawOf_43 rfl (z2i g4) (fun c => ?_) (fun c => ?_)
    · have h := h.1 c
      refine w_aload_n dX11_lawOf_50 rfl ?_
      refine w_getR dX11_lawOf_51 fX11_85 rfl rfl rfl ?_
      refine w_aload_n dX11_lawOf_54 rfl ?_
      refine w_getR dX11_lawOf_55 fX11_63 rfl rfl rfl ?_
      refine w_iload_n dX11_lawOf_58 rfl ?_
      obtain ⟨o5, h⟩ := h
      refine w_iald (x := (M 115 x1.toNat)) dX11_lawOf_59 rfl o5 rfl (fun g6 => ?_)
      have h := h g6
      refine w_iconst dX11_lawOf_60 ?_
      refine w_isub dX11_lawOf_61 ?_
      obtain ⟨o7, h⟩ := h
      refine w_lald (x := (M 122 (((M 115 x1.toNat) - 1).toNat))) dX11_lawOf_62 rfl o7 rfl (fun g8 => ?_)
      have h := h g8
      exact k_lret dX11_lawOf_63 rfl h
    · have h := h.2 c
      refine w_lconst (x := 0) dX11_lawOf_46 rfl ?_
      refine w_goto dX11_lawOf_47 rfl ?_
      exact k_lret dX11_lawOf_63 rfl h
  · have h := h.2 c
    refine w_aload_n dX11_lawOf_22 rfl ?_
    refine w_getR dX11_lawOf_23 fX11_85 rfl rfl rfl ?_
    refine w_iload_n dX11_lawOf_26 rfl ?_
    refine w_aload_n dX11_lawOf_27 rfl ?_
    refine w_iload_n dX11_lawOf_28 rfl ?_
    refine k_vL (as := [pI x2]) dX11_lawOf_29 kX11_421 ⟨⟨Nat.le_of_ble_eq_true rfl, rfl, rfl⟩, Nat.le_of_ble_eq_true rfl⟩ rfl (by decide) rfl (Nat.le_of_ble_eq_true rfl) h ?_
    intro r9 M10 h
    obtain ⟨o11, h⟩ := h
    obtain ⟨o12, h⟩ := h
    refine w_last dX11_lawOf_32 rfl o11 o12 ?_
    refine w_iinc dX11_lawOf_33 rfl (by decide) ?_
    refine w_goto dX11_lawOf_36 rfl ?_
    exact k_pick [1, 2, 0] rfl h
theorem vX11_boundLaw_0 {E : Scr} {f : Int → Mem → Prop} {M : Mem} (x1 x2 x3 : Int) (h : (0 ≤ x1 ∧ x1 < 6) ∧ ((zR (M 113 x1.toNat)) → (((M 113 x1.toNat) ≠ 0 → (CL E mX11_lawOf [pR 98, pI x1] M (fun r3 M4 => ((zR (M4 98 50)) → (((M4 98 50) = 0 → (lR r3) ∧ ((r3 ≥ 0 → (iR x3) ∧ (lR r3) ∧ ((r3 ≤ x3 → (lR r3) ∧ f r3 M4) ∧ (r3 > x3 → f x3 M4))) ∧ (r3 < 0 → f 0 M4))) ∧ ((M4 98 50) ≠ 0 → f x2 M4)))))) ∧ ((M 113 x1.toNat) = 0 → f x2 M)))) : CI E mX11_boundLaw [pR 98, pI x1, pI x2, pI x3] M f := by
  refine (show KW E mX11_boundLaw (qI f) M 0 [(0, pR 98), (1, pI x1), (2, pI x2), (3, pI x3)] [] from ?_)
  refine w_aload_n dX11_boundLaw_0 rfl ?_
  refine w_getR dX11_boundLaw_1 fX11_57 rfl rfl rfl ?_
  refine w_iload_n dX11_boundLaw_4 rfl ?_
  obtain ⟨o1, h⟩ := h
  refine w_zald (x := (M 113 x1.toNat)) dX11_boundLaw_5 rfl o1 rfl (fun g2 => ?_)
  have h := h g2
  refine w_if_ne dX11_boundLaw_6 rfl (z2i g2) (fun c => ?_) (fun c => ?_)
  · have h := h.1 c
    refine w_aload_n dX11_boundLaw_11 rfl ?_
    refine w_iload_n dX11_boundLaw_12 rfl ?_
    refine k_vL (as := [pI x1]) dX11_boundLaw_13 kX11_425 ⟨⟨Nat.le_of_ble_eq_true rfl, rfl, rfl⟩, Nat.le_of_ble_eq_true rfl⟩ rfl (by decide) rfl (Nat.le_of_ble_eq_true rfl) h ?_
    intro r3 M4 h
    refine w_lstore dX11_boundLaw_16 (by decide) ?_
    refine w_aload_n dX11_boundLaw_18 rfl ?_
    refine w_getZ (x := (M4 98 50)) dX11_boundLaw_19 fX11_347 rfl rfl rfl (fun g5 => ?_)
    have h := h g5
    refine w_if_eq dX11_boundLaw_22 rfl (z2i g5) (fun c => ?_) (fun c => ?_)
    · have h := h.1 c
      refine w_lload dX11_boundLaw_27 rfl ?_
      refine w_lconst (x := 0) dX11_boundLaw_29 rfl ?_
      obtain ⟨o6, h⟩ := h
      refine w_lcmp_ge dX11_boundLaw_30 dX11_boundLaw_31 rfl ⟨o6, (by decide)⟩ (fun c => ?_) (fun c => ?_)
      · have h := h.1 c
        refine w_lload dX11_boundLaw_38 rfl ?_
        refine w_iload_n dX11_boundLaw_40 rfl ?_
        obtain ⟨o7, h⟩ := h
        refine w_i2l dX11_boundLaw_41 o7 ?_
        obtain ⟨o8, h⟩ := h
        refine w_lcmp_le dX11_boundLaw_42 dX11_boundLaw_43 rfl ⟨o8, (i2l_r o7)⟩ (fun c => ?_) (fun c => ?_)
        · have h := h.1 c
          refine w_lload dX11_boundLaw_50 rfl ?_
          obtain ⟨o9, h⟩ := h
          refine w_l2i dX11_boundLaw_52 o9 ?_
          exact k_iret dX11_boundLaw_53 rfl h
        · have h := h.2 c
          refine w_iload_n dX11_boundLaw_46 rfl ?_
          refine w_goto dX11_boundLaw_47 rfl ?_
          exact k_iret dX11_boundLaw_53 rfl h
      · have h := h.2 c
        refine w_iconst dX11_boundLaw_34 ?_
        refine w_goto dX11_boundLaw_35 rfl ?_
        exact k_iret dX11_boundLaw_53 rfl h
    · have h := h.2 c
      refine w_iload_n dX11_boundLaw_25 rfl ?_
      exact k_iret dX11_boundLaw_26 rfl h
  · have h := h.2 c
    refine w_iload_n dX11_boundLaw_9 rfl ?_
    exact k_iret dX11_boundLaw_10 rfl h
theorem vX11_number1_0 {E : Scr} {f : Int → Mem → Prop} {M : Mem} (x1 : Int) (h : ((lR (M 98 59)) → ((lR (lAnd (((M 98 59) * 1103515245) + 12345) 2147483647)) → (iR x1) ∧ (lR (Int.tdiv (lAnd (((M 98 59) * 1103515245) + 12345) 2147483647) 65536)) ∧ (x1 ≠ 0) ∧ (lR (Int.tmod (Int.tdiv (lAnd (((M 98 59) * 1103515245) + 12345) 2147483647) 65536) x1)) ∧ f (Int.tmod (Int.tdiv (lAnd (((M 98 59) * 1103515245) + 12345) 2147483647) 65536) x1) (upM M 98 59 (lAnd (((M 98 59) * 1103515245) + 12345) 2147483647))))) : CI E mX11_number1 [pR 98, pI x1] M f := by
  refine (show KW E mX11_number1 (qI f) M 0 [(0, pR 98), (1, pI x1)] [] from ?_)
  refine w_aload_n dX11_number1_0 rfl ?_
  refine w_aload_n dX11_number1_1 rfl ?_
  refine w_getL (x := (M 98 59)) dX11_number1_2 fX11_387 rfl rfl rfl (fun g1 => ?_)
  have h := h g1
  refine w_ldc2 dX11_number1_5 qX11_428 ?_
  refine w_lmul dX11_number1_8 ?_
  refine w_ldc2 dX11_number1_9 qX11_430 ?_
  refine w_ladd dX11_number1_12 ?_
  refine w_ldc2 dX11_number1_13 qX11_432 ?_
  refine w_land dX11_number1_16 ?_
  refine w_putL dX11_number1_17 (Or.inl ⟨rfl, fX11_387⟩) rfl rfl (lAnd_r _ _) ?_
  refine w_aload_n dX11_number1_20 rfl ?_
  refine w_getL (x := (lAnd (((M 98 59) * 1103515245) + 12345) 2147483647)) dX11_number1_21 fX11_387 rfl rfl rfl (fun g2 => ?_)
  have h := h g2
  refine w_ldc2 dX11_number1_24 qX11_434 ?_
  refine w_ldiv dX11_number1_27 ⟨g2, (by decide), (by decide)⟩ ?_
  refine w_iload_n dX11_number1_28 rfl ?_
  obtain ⟨o3, h⟩ := h
  refine w_i2l dX11_number1_29 o3 ?_
  obtain ⟨o4, h⟩ := h
  obtain ⟨o5, h⟩ := h
  refine w_lrem dX11_number1_30 ⟨o4, (i2l_r o3), o5⟩ ?_
  obtain ⟨o6, h⟩ := h
  refine w_l2i dX11_number1_31 o6 ?_
  exact k_iret dX11_number1_32 rfl h
theorem vX11_pushesOne_0 {E : Scr} {f : Int → Mem → Prop} {M : Mem} (x1 x2 : Int) (h : (CI E mX11_canNow [pR 98, pI x1] M (fun r1 M2 => (CI E mX11_isOf [pI r1, pI x2] M2 (fun r3 M4 => (iR r3) ∧ ((r3 ≠ 0 → (CV E mX11_lay [pR 98, pI x1, pI x2] M4 (fun M7 => (CI E mX11_boundLaw [pR 98, pI 0, pI 1, pI 999] M7 (fun r8 M9 => (0 ≤ x1 ∧ x1 < 2) ∧ ((iR (M9 125 x1.toNat)) → (0 ≤ x1 ∧ x1 < 2) ∧ (0 ≤ x1 ∧ x1 < 2) ∧ ((iR (M9 127 x1.toNat)) → (iR ((M9 127 x1.toNat) + r8)) ∧ ((((M9 127 x1.toNat) + r8) ≥ 99999 → (KW E mX11_pushesOne (qI f) (upM M9 125 x1.toNat (bXor (M9 125 x1.toNat) (bShl 1 x2))) 73 [(0, pR 98), (1, pI x1), (2, pI x2)] [pI 99999, pI x1, pR 127])) ∧ (((M9 127 x1.toNat) + r8) < 99999 → (0 ≤ x1 ∧ x1 < 2) ∧ ((iR (M9 127 x1.toNat)) → (KW E mX11_pushesOne (qI f) (upM M9 125 x1.toNat (bXor (M9 125 x1.toNat) (bShl 1 x2))) 73 [(0, pR 98), (1, pI x1), (2, pI x2)] [pI ((M9 127 x1.toNat) + r8), pI x1, pR 127]))))))))))) ∧ (r3 = 0 → f 0 M4))))))) : CI E mX11_pushesOne [pR 98, pI x1, pI x2] M f := by
  refine (show KW E mX11_pushesOne (qI f) M 0 [(0, pR 98), (1, pI x1), (2, pI x2)] [] from ?_)
  refine w_aload_n dX11_pushesOne_0 rfl ?_
  refine w_iload_n dX11_pushesOne_1 rfl ?_
  refine k_vI (as := [pI x1]) dX11_pushesOne_2 kX11_436 ⟨⟨Nat.le_of_ble_eq_true rfl, rfl, rfl⟩, Nat.le_of_ble_eq_true rfl⟩ rfl (by decide) rfl (Nat.le_of_ble_eq_true rfl) h ?_
  intro r1 M2 h
  refine w_iload_n dX11_pushesOne_5 rfl ?_
  refine k_sI (as := [pI r1, pI x2]) dX11_pushesOne_6 kX11_372 ⟨⟨Nat.le_of_ble_eq_true rfl, rfl, rfl⟩, Nat.le_of_ble_eq_true rfl⟩ rfl (Nat.le_of_ble_eq_true rfl) h ?_
  intro r3 M4 h
  obtain ⟨o5, h⟩ := h
  refine w_if_ne dX11_pushesOne_9 rfl o5 (fun c => ?_) (fun c => ?_)
  · have h := h.1 c
    refine w_aload_n dX11_pushesOne_14 rfl ?_
    refine w_iload_n dX11_pushesOne_15 rfl ?_
    refine w_iload_n dX11_pushesOne_16 rfl ?_
    refine k_vV (as := [pI x1, pI x2]) dX11_pushesOne_17 kX11_439 ⟨⟨Nat.le_of_ble_eq_true rfl, rfl, rfl⟩, Nat.le_of_ble_eq_true rfl⟩ rfl (by decide) rfl (Nat.le_of_ble_eq_true rfl) h ?_
    intro M7 h
    refine w_aload_n dX11_pushesOne_20 rfl ?_
    refine w_iconst dX11_pushesOne_21 ?_
    refine w_iconst dX11_pushesOne_22 ?_
    refine w_sipush dX11_pushesOne_23 (by decide) ?_
    refine k_vI (as := [pI 0, pI 1, pI 999]) dX11_pushesOne_26 kX11_443 ⟨⟨Nat.le_of_ble_eq_true rfl, rfl, rfl⟩, Nat.le_of_ble_eq_true rfl⟩ rfl (by decide) rfl (Nat.le_of_ble_eq_true rfl) h ?_
    intro r8 M9 h
    refine w_istore_n dX11_pushesOne_29 (by decide) ?_
    refine w_aload_n dX11_pushesOne_30 rfl ?_
    refine w_getR dX11_pushesOne_31 fX11_94 rfl rfl rfl ?_
    refine w_iload_n dX11_pushesOne_34 rfl ?_
    refine w_dup2 dX11_pushesOne_35 ⟨rfl, rfl⟩ ?_
    obtain ⟨o10, h⟩ := h
    refine w_iald (x := (M9 125 x1.toNat)) dX11_pushesOne_36 rfl o10 rfl (fun g11 => ?_)
    have h := h g11
    refine w_iconst dX11_pushesOne_37 ?_
    refine w_iload_n dX11_pushesOne_38 rfl ?_
    refine w_ishl dX11_pushesOne_39 ?_
    refine w_ixor dX11_pushesOne_40 ?_
    obtain ⟨o12, h⟩ := h
    refine w_iast dX11_pushesOne_41 rfl o12 (bXor_r _ _) ?_
    refine w_aload_n dX11_pushesOne_42 rfl ?_
    refine w_getR dX11_pushesOne_43 fX11_100 rfl rfl rfl ?_
    refine w_iload_n dX11_pushesOne_46 rfl ?_
    refine w_aload_n dX11_pushesOne_47 rfl ?_
    refine w_getR dX11_pushesOne_48 fX11_100 rfl rfl rfl ?_
    refine w_iload_n dX11_pushesOne_51 rfl ?_
    obtain ⟨o13, h⟩ := h
    refine w_iald (x := (M9 127 x1.toNat)) dX11_pushesOne_52 rfl o13 rfl (fun g14 => ?_)
    have h := h g14
    refine w_iload_n dX11_pushesOne_53 rfl ?_
    refine w_iadd dX11_pushesOne_54 ?_
    refine w_ldc dX11_pushesOne_55 qX11_198 ?_
    obtain ⟨o15, h⟩ := h
    refine w_icmp_ge dX11_pushesOne_57 rfl ⟨o15, (by decide)⟩ (fun c => ?_) (fun c => ?_)
    · have h := h.1 c
      refine w_ldc dX11_pushesOne_71 qX11_198 ?_
      exact k_pick [1, 2, 3] rfl h
    · have h := h.2 c
      refine w_aload_n dX11_pushesOne_60 rfl ?_
      refine w_getR dX11_pushesOne_61 fX11_100 rfl rfl rfl ?_
      refine w_iload_n dX11_pushesOne_64 rfl ?_
      obtain ⟨o16, h⟩ := h
      refine w_iald (x := (M9 127 x1.toNat)) dX11_pushesOne_65 rfl o16 rfl (fun g17 => ?_)
      have h := h g17
      refine w_iload_n dX11_pushesOne_66 rfl ?_
      refine w_iadd dX11_pushesOne_67 ?_
      refine w_goto dX11_pushesOne_68 rfl ?_
      exact k_pick [1, 2, 3] rfl h
  · have h := h.2 c
    refine w_iconst dX11_pushesOne_12 ?_
    exact k_zret dX11_pushesOne_13 rfl (by decide) h
theorem vX11_pushesOne_73 {E : Scr} {f : Int → Mem → Prop} {M : Mem} (x1 x2 s0 s1 : Int) (h : (0 ≤ s1 ∧ s1 < 2) ∧ (iR s0) ∧ (0 ≤ ((8 * x1) + x2) ∧ ((8 * x1) + x2) < 16) ∧ ((iR (M 130 (((8 * x1) + x2).toNat))) → (((M 130 (((8 * x1) + x2).toNat)) ≥ 999 → (KW E mX11_pushesOne (qI f) (upM M 127 s1.toNat s0) 120 [(0, pR 98), (1, pI x1), (2, pI x2)] [pI 999, pI ((8 * x1) + x2), pR 130])) ∧ ((M 130 (((8 * x1) + x2).toNat)) < 999 → (0 ≤ ((8 * x1) + x2) ∧ ((8 * x1) + x2) < 16) ∧ ((iR (M 130 (((8 * x1) + x2).toNat))) → (KW E mX11_pushesOne (qI f) (upM M 127 s1.toNat s0) 120 [(0, pR 98), (1, pI x1), (2, pI x2)] [pI ((M 130 (((8 * x1) + x2).toNat)) + 1), pI ((8 * x1) + x2), pR 130])))))) : KW E mX11_pushesOne (qI f) M 73 [(0, pR 98), (1, pI x1), (2, pI x2)] [pI s0, pI s1, pR 127] := by
  obtain ⟨o1, h⟩ := h
  obtain ⟨o2, h⟩ := h
  refine w_iast dX11_pushesOne_73 rfl o1 o2 ?_
  refine w_aload_n dX11_pushesOne_74 rfl ?_
  refine w_getR dX11_pushesOne_75 fX11_109 rfl rfl rfl ?_
  refine w_bipush dX11_pushesOne_78 (by decide) ?_
  refine w_iload_n dX11_pushesOne_80 rfl ?_
  refine w_imul dX11_pushesOne_81 ?_
  refine w_iload_n dX11_pushesOne_82 rfl ?_
  refine w_iadd dX11_pushesOne_83 ?_
  refine w_aload_n dX11_pushesOne_84 rfl ?_
  refine w_getR dX11_pushesOne_85 fX11_109 rfl rfl rfl ?_
  refine w_bipush dX11_pushesOne_88 (by decide) ?_
  refine w_iload_n dX11_pushesOne_90 rfl ?_
  refine w_imul dX11_pushesOne_91 ?_
  refine w_iload_n dX11_pushesOne_92 rfl ?_
  refine w_iadd dX11_pushesOne_93 ?_
  obtain ⟨o3, h⟩ := h
  refine w_iald (x := (M 130 (((8 * x1) + x2).toNat))) dX11_pushesOne_94 rfl o3 rfl (fun g4 => ?_)
  have h := h g4
  refine w_sipush dX11_pushesOne_95 (by decide) ?_
  refine w_icmp_ge dX11_pushesOne_98 rfl ⟨g4, (by decide)⟩ (fun c => ?_) (fun c => ?_)
  · have h := h.1 c
    refine w_sipush dX11_pushesOne_117 (by decide) ?_
    exact k_pick [0, 1, 2] rfl h
  · have h := h.2 c
    refine w_aload_n dX11_pushesOne_101 rfl ?_
    refine w_getR dX11_pushesOne_102 fX11_109 rfl rfl rfl ?_
    refine w_bipush dX11_pushesOne_105 (by decide) ?_
    refine w_iload_n dX11_pushesOne_107 rfl ?_
    refine w_imul dX11_pushesOne_108 ?_
    refine w_iload_n dX11_pushesOne_109 rfl ?_
    refine w_iadd dX11_pushesOne_110 ?_
    obtain ⟨o5, h⟩ := h
    refine w_iald (x := (M 130 (((8 * x1) + x2).toNat))) dX11_pushesOne_111 rfl o5 rfl (fun g6 => ?_)
    have h := h g6
    refine w_iconst dX11_pushesOne_112 ?_
    refine w_iadd dX11_pushesOne_113 ?_
    refine w_goto dX11_pushesOne_114 rfl ?_
    exact k_pick [0, 1, 2] rfl h
theorem vX11_pushesOne_120 {E : Scr} {f : Int → Mem → Prop} {M : Mem} (x1 x2 s0 s1 : Int) (h : (0 ≤ s1 ∧ s1 < 16) ∧ (iR s0) ∧ ((zR (M 98 61)) → (((M 98 61) = 0 → (CV E mX11_lay [pR 98, pI x1, pI x2] (upM M 130 s1.toNat s0) (fun M5 => ((zR (M5 113 1)) → (((M5 113 1) = 0 → (KW E mX11_pushesOne (qI f) M5 160 [(0, pR 98), (1, pI x1), (2, pI x2)] [pI 0])) ∧ ((M5 113 1) ≠ 0 → (CL E mX11_lawOf [pR 98, pI 1] M5 (fun r7 M8 => (lR r7) ∧ ((r7 = 0 → (KW E mX11_pushesOne (qI f) M8 160 [(0, pR 98), (1, pI x1), (2, pI x2)] [pI 0])) ∧ (r7 ≠ 0 → (KW E mX11_pushesOne (qI f) M8 160 [(0, pR 98), (1, pI x1), (2, pI x2)] [pI 1]))))))))))) ∧ ((M 98 61) ≠ 0 → f 1 (upM M 130 s1.toNat s0))))) : KW E mX11_pushesOne (qI f) M 120 [(0, pR 98), (1, pI x1), (2, pI x2)] [pI s0, pI s1, pR 130] := by
  obtain ⟨o1, h⟩ := h
  obtain ⟨o2, h⟩ := h
  refine w_iast dX11_pushesOne_120 rfl o1 o2 ?_
  refine w_aload_n dX11_pushesOne_121 rfl ?_
  refine w_getZ (x := (M 98 61)) dX11_pushesOne_122 fX11_406 rfl rfl rfl (fun g3 => ?_)
  have h := h g3
  refine w_if_eq dX11_pushesOne_125 rfl (z2i g3) (fun c => ?_) (fun c => ?_)
  · have h := h.1 c
    refine w_aload_n dX11_pushesOne_130 rfl ?_
    refine w_iload_n dX11_pushesOne_131 rfl ?_
    refine w_iload_n dX11_pushesOne_132 rfl ?_
    refine k_vV (as := [pI x1, pI x2]) dX11_pushesOne_133 kX11_439 ⟨⟨Nat.le_of_ble_eq_true rfl, rfl, rfl⟩, Nat.le_of_ble_eq_true rfl⟩ rfl (by decide) rfl (Nat.le_of_ble_eq_true rfl) h ?_
    intro M5 h
    refine w_aload_n dX11_pushesOne_136 rfl ?_
    refine w_getR dX11_pushesOne_137 fX11_57 rfl rfl rfl ?_
    refine w_iconst dX11_pushesOne_140 ?_
    refine w_zald (x := (M5 113 1)) dX11_pushesOne_141 rfl (by decide) rfl (fun g6 => ?_)
    have h := h g6
    refine w_if_eq dX11_pushesOne_142 rfl (z2i g6) (fun c => ?_) (fun c => ?_)
    · have h := h.1 c
      refine w_iconst dX11_pushesOne_159 ?_
      exact k_pick [0, 1, 2] rfl h
    · have h := h.2 c
      refine w_aload_n dX11_pushesOne_145 rfl ?_
      refine w_iconst dX11_pushesOne_146 ?_
      refine k_vL (as := [pI 1]) dX11_pushesOne_147 kX11_425 ⟨⟨Nat.le_of_ble_eq_true rfl, rfl, rfl⟩, Nat.le_of_ble_eq_true rfl⟩ rfl (by decide) rfl (Nat.le_of_ble_eq_true rfl) h ?_
      intro r7 M8 h
      refine w_lconst (x := 0) dX11_pushesOne_150 rfl ?_
      obtain ⟨o9, h⟩ := h
      refine w_lcmp_eq dX11_pushesOne_151 dX11_pushesOne_152 rfl ⟨o9, (by decide)⟩ (fun c => ?_) (fun c => ?_)
      · have h := h.1 c
        refine w_iconst dX11_pushesOne_159 ?_
        exact k_pick [0, 1, 2] rfl h
      · have h := h.2 c
        refine w_iconst dX11_pushesOne_155 ?_
        refine w_goto dX11_pushesOne_156 rfl ?_
        exact k_pick [0, 1, 2] rfl h
  · have h := h.2 c
    refine w_iconst dX11_pushesOne_128 ?_
    exact k_zret dX11_pushesOne_129 rfl (by decide) h
theorem vX11_pushesOne_160 {E : Scr} {f : Int → Mem → Prop} {M : Mem} (x1 x2 s0 : Int) (h : ((iR (M 102 0)) → (CI E mX11_boundLaw [pR 98, pI 2, pI (M 102 0), pI 100] M (fun r2 M3 => (iR r2) ∧ ((r2 = 100 → (KW E mX11_pushesOne (qI f) M3 222 [(0, pR 98), (1, pI x1), (2, pI x2), (4, pI s0)] [pI 1])) ∧ (r2 ≠ 100 → (iR r2) ∧ ((r2 ≤ 0 → (KW E mX11_pushesOne (qI f) M3 222 [(0, pR 98), (1, pI x1), (2, pI x2), (4, pI s0)] [pI 0])) ∧ (r2 > 0 → ((zR (M3 98 60)) → (((M3 98 60) = 0 → (iR r2) ∧ ((r2 < 50 → (KW E mX11_pushesOne (qI f) M3 222 [(0, pR 98), (1, pI x1), (2, pI x2), (4, pI s0)] [pI 0])) ∧ (r2 ≥ 50 → (KW E mX11_pushesOne (qI f) M3 222 [(0, pR 98), (1, pI x1), (2, pI x2), (4, pI s0)] [pI 1])))) ∧ ((M3 98 60) ≠ 0 → (CI E mX11_number1 [pR 98, pI 100] M3 (fun r8 M9 => (iR r8) ∧ (iR r2) ∧ ((r8 ≥ r2 → (KW E mX11_pushesOne (qI f) M9 222 [(0, pR 98), (1, pI x1), (2, pI x2), (4, pI s0)] [pI 0])) ∧ (r8 < r2 → (KW E mX11_pushesOne (qI f) M9 222 [(0, pR 98), (1, pI x1), (2, pI x2), (4, pI s0)] [pI 1])))))))))))))))) : KW E mX11_pushesOne (qI f) M 160 [(0, pR 98), (1, pI x1), (2, pI x2)] [pI s0] := by
  refine w_istore dX11_pushesOne_160 (by decide) ?_
  refine w_aload_n dX11_pushesOne_162 rfl ?_
  refine w_iconst dX11_pushesOne_163 ?_
  refine w_aload_n dX11_pushesOne_164 rfl ?_
  refine w_getR dX11_pushesOne_165 fX11_24 rfl rfl rfl ?_
  refine w_iconst dX11_pushesOne_168 ?_
  refine w_iald (x := (M 102 0)) dX11_pushesOne_169 rfl (by decide) rfl (fun g1 => ?_)
  have h := h g1
  refine w_bipush dX11_pushesOne_170 (by decide) ?_
  refine k_vI (as := [pI 2, pI (M 102 0), pI 100]) dX11_pushesOne_172 kX11_443 ⟨⟨Nat.le_of_ble_eq_true rfl, rfl, rfl⟩, Nat.le_of_ble_eq_true rfl⟩ rfl (by decide) rfl (Nat.le_of_ble_eq_true rfl) h ?_
  intro r2 M3 h
  refine w_istore dX11_pushesOne_175 (by decide) ?_
  refine w_iload dX11_pushesOne_177 rfl ?_
  refine w_bipush dX11_pushesOne_179 (by decide) ?_
  obtain ⟨o4, h⟩ := h
  refine w_icmp_eq dX11_pushesOne_181 rfl ⟨o4, (by decide)⟩ (fun c => ?_) (fun c => ?_)
  · have h := h.1 c
    refine w_iconst dX11_pushesOne_217 ?_
    refine w_goto dX11_pushesOne_218 rfl ?_
    exact k_pick [2, 3, 4, 1] rfl h
  · have h := h.2 c
    refine w_iload dX11_pushesOne_184 rfl ?_
    obtain ⟨o5, h⟩ := h
    refine w_if_le dX11_pushesOne_186 rfl o5 (fun c => ?_) (fun c => ?_)
    · have h := h.1 c
      refine w_iconst dX11_pushesOne_221 ?_
      exact k_pick [2, 3, 4, 1] rfl h
    · have h := h.2 c
      refine w_aload_n dX11_pushesOne_189 rfl ?_
      refine w_getZ (x := (M3 98 60)) dX11_pushesOne_190 fX11_403 rfl rfl rfl (fun g6 => ?_)
      have h := h g6
      refine w_if_eq dX11_pushesOne_193 rfl (z2i g6) (fun c => ?_) (fun c => ?_)
      · have h := h.1 c
        refine w_iload dX11_pushesOne_210 rfl ?_
        refine w_bipush dX11_pushesOne_212 (by decide) ?_
        obtain ⟨o7, h⟩ := h
        refine w_icmp_lt dX11_pushesOne_214 rfl ⟨o7, (by decide)⟩ (fun c => ?_) (fun c => ?_)
        · have h := h.1 c
          refine w_iconst dX11_pushesOne_221 ?_
          exact k_pick [2, 3, 4, 1] rfl h
        · have h := h.2 c
          refine w_iconst dX11_pushesOne_217 ?_
          refine w_goto dX11_pushesOne_218 rfl ?_
          exact k_pick [2, 3, 4, 1] rfl h
      · have h := h.2 c
        refine w_aload_n dX11_pushesOne_196 rfl ?_
        refine w_bipush dX11_pushesOne_197 (by decide) ?_
        refine k_vI (as := [pI 100]) dX11_pushesOne_199 kX11_447 ⟨⟨Nat.le_of_ble_eq_true rfl, rfl, rfl⟩, Nat.le_of_ble_eq_true rfl⟩ rfl (by decide) rfl (Nat.le_of_ble_eq_true rfl) h ?_
        intro r8 M9 h
        refine w_iload dX11_pushesOne_202 rfl ?_
        obtain ⟨o10, h⟩ := h
        obtain ⟨o11, h⟩ := h
        refine w_icmp_ge dX11_pushesOne_204 rfl ⟨o10, o11⟩ (fun c => ?_) (fun c => ?_)
        · have h := h.1 c
          refine w_iconst dX11_pushesOne_221 ?_
          exact k_pick [2, 3, 4, 1] rfl h
        · have h := h.2 c
          refine w_goto dX11_pushesOne_207 rfl ?_
          refine w_iconst dX11_pushesOne_217 ?_
          refine w_goto dX11_pushesOne_218 rfl ?_
          exact k_pick [2, 3, 4, 1] rfl h
theorem vX11_pushesOne_222 {E : Scr} {f : Int → Mem → Prop} {M : Mem} (x1 x2 x4 s0 : Int) (h : (iR x4) ∧ ((x4 ≠ 0 → (0 ≤ x1 ∧ x1 < 2) ∧ ((iR (M 126 x1.toNat)) → (0 ≤ x1 ∧ x1 < 2) ∧ f 1 (upM M 126 x1.toNat (bOr (M 126 x1.toNat) (bShl 1 x2))))) ∧ (x4 = 0 → (iR s0) ∧ ((s0 = 0 → f 1 M) ∧ (s0 ≠ 0 → (0 ≤ x1 ∧ x1 < 2) ∧ ((iR (M 126 x1.toNat)) → (0 ≤ x1 ∧ x1 < 2) ∧ f 1 (upM M 126 x1.toNat (bOr (M 126 x1.toNat) (bShl 1 x2))))))))) : KW E mX11_pushesOne (qI f) M 222 [(0, pR 98), (1, pI x1), (2, pI x2), (4, pI x4)] [pI s0] := by
  refine w_istore dX11_pushesOne_222 (by decide) ?_
  refine w_iload dX11_pushesOne_224 rfl ?_
  obtain ⟨o1, h⟩ := h
  refine w_if_ne dX11_pushesOne_226 rfl o1 (fun c => ?_) (fun c => ?_)
  · have h := h.1 c
    refine w_aload_n dX11_pushesOne_234 rfl ?_
    refine w_getR dX11_pushesOne_235 fX11_97 rfl rfl rfl ?_
    refine w_iload_n dX11_pushesOne_238 rfl ?_
    refine w_dup2 dX11_pushesOne_239 ⟨rfl, rfl⟩ ?_
    obtain ⟨o2, h⟩ := h
    refine w_iald (x := (M 126 x1.toNat)) dX11_pushesOne_240 rfl o2 rfl (fun g3 => ?_)
    have h := h g3
    refine w_iconst dX11_pushesOne_241 ?_
    refine w_iload_n dX11_pushesOne_242 rfl ?_
    refine w_ishl dX11_pushesOne_243 ?_
    refine w_ior dX11_pushesOne_244 ?_
    obtain ⟨o4, h⟩ := h
    refine w_iast dX11_pushesOne_245 rfl o4 (bOr_r _ _) ?_
    refine w_iconst dX11_pushesOne_246 ?_
    exact k_zret dX11_pushesOne_247 rfl (by decide) h
  · have h := h.2 c
    refine w_iload dX11_pushesOne_229 rfl ?_
    obtain ⟨o5, h⟩ := h
    refine w_if_eq dX11_pushesOne_231 rfl o5 (fun c => ?_) (fun c => ?_)
    · have h := h.1 c
      refine w_iconst dX11_pushesOne_246 ?_
      exact k_zret dX11_pushesOne_247 rfl (by decide) h
    · have h := h.2 c
      refine w_aload_n dX11_pushesOne_234 rfl ?_
      refine w_getR dX11_pushesOne_235 fX11_97 rfl rfl rfl ?_
      refine w_iload_n dX11_pushesOne_238 rfl ?_
      refine w_dup2 dX11_pushesOne_239 ⟨rfl, rfl⟩ ?_
      obtain ⟨o6, h⟩ := h
      refine w_iald (x := (M 126 x1.toNat)) dX11_pushesOne_240 rfl o6 rfl (fun g7 => ?_)
      have h := h g7
      refine w_iconst dX11_pushesOne_241 ?_
      refine w_iload_n dX11_pushesOne_242 rfl ?_
      refine w_ishl dX11_pushesOne_243 ?_
      refine w_ior dX11_pushesOne_244 ?_
      obtain ⟨o8, h⟩ := h
      refine w_iast dX11_pushesOne_245 rfl o8 (bOr_r _ _) ?_
      refine w_iconst dX11_pushesOne_246 ?_
      exact k_zret dX11_pushesOne_247 rfl (by decide) h
theorem vX11_minuteGoes_0 {E : Scr} {f : Mem → Prop} {M : Mem} (x1 : Int) (h : (KW E mX11_minuteGoes (qV f) M 2 [(0, pR 98), (1, pI x1), (2, pI 0)] [])) : CV E mX11_minuteGoes [pR 98, pI x1] M f := by
  refine (show KW E mX11_minuteGoes (qV f) M 0 [(0, pR 98), (1, pI x1)] [] from ?_)
  refine w_iconst dX11_minuteGoes_0 ?_
  refine w_istore_n dX11_minuteGoes_1 (by decide) ?_
  exact k_pick [1, 2, 0] rfl h
theorem vX11_minuteGoes_2 {E : Scr} {f : Mem → Prop} {M : Mem} (x1 x2 : Int) (h : ((iR (M 98 14)) → (iR x2) ∧ ((x2 ≥ (M 98 14) → (KW E mX11_minuteGoes (qV f) M 56 [(0, pR 98), (1, pI x1), (2, pI 0)] [])) ∧ (x2 < (M 98 14) → ((zR (M 98 63)) → (((M 98 63) ≠ 0 → (KW E mX11_minuteGoes (qV f) M 56 [(0, pR 98), (1, pI x1), (2, pI 0)] [])) ∧ ((M 98 63) = 0 → (0 ≤ x2 ∧ x2 < 8) ∧ ((iR (M 109 x2.toNat)) → (0 ≤ x1 ∧ x1 < 2) ∧ ((iR (M 129 x1.toNat)) → (((M 109 x2.toNat) ≠ (M 129 x1.toNat) → (0 ≤ x1 ∧ x1 < 2) ∧ ((iR (M 126 x1.toNat)) → (0 ≤ x1 ∧ x1 < 2) ∧ (KW E mX11_minuteGoes (qV f) (upM M 126 x1.toNat (M 126 x1.toNat)) 2 [(0, pR 98), (1, pI x1), (2, pI (x2 + 1))] []))) ∧ ((M 109 x2.toNat) = (M 129 x1.toNat) → (0 ≤ x1 ∧ x1 < 2) ∧ (KW E mX11_minuteGoes (qV f) (upM M 126 x1.toNat 0) 2 [(0, pR 98), (1, pI x1), (2, pI (x2 + 1))] [])))))))))))) : KW E mX11_minuteGoes (qV f) M 2 [(0, pR 98), (1, pI x1), (2, pI x2)] [] := by
  refine w_iload_n dX11_minuteGoes_2 rfl ?_
  refine w_aload_n dX11_minuteGoes_3 rfl ?_
  refine w_getI (x := (M 98 14)) dX11_minuteGoes_4 fX11_246 rfl rfl rfl (fun g1 => ?_)
  have h := h g1
  obtain ⟨o2, h⟩ := h
  refine w_icmp_ge dX11_minuteGoes_7 rfl ⟨o2, g1⟩ (fun c => ?_) (fun c => ?_)
  · have h := h.1 c
    refine w_iconst dX11_minuteGoes_54 ?_
    refine w_istore_n dX11_minuteGoes_55 (by decide) ?_
    exact k_pick [1, 2, 0] rfl h
  · have h := h.2 c
    refine w_aload_n dX11_minuteGoes_10 rfl ?_
    refine w_getZ (x := (M 98 63)) dX11_minuteGoes_11 fX11_412 rfl rfl rfl (fun g3 => ?_)
    have h := h g3
    refine w_if_ne dX11_minuteGoes_14 rfl (z2i g3) (fun c => ?_) (fun c => ?_)
    · have h := h.1 c
      refine w_iconst dX11_minuteGoes_54 ?_
      refine w_istore_n dX11_minuteGoes_55 (by decide) ?_
      exact k_pick [1, 2, 0] rfl h
    · have h := h.2 c
      refine w_aload_n dX11_minuteGoes_17 rfl ?_
      refine w_getR dX11_minuteGoes_18 fX11_97 rfl rfl rfl ?_
      refine w_iload_n dX11_minuteGoes_21 rfl ?_
      refine w_aload_n dX11_minuteGoes_22 rfl ?_
      refine w_getR dX11_minuteGoes_23 fX11_45 rfl rfl rfl ?_
      refine w_iload_n dX11_minuteGoes_26 rfl ?_
      obtain ⟨o4, h⟩ := h
      refine w_iald (x := (M 109 x2.toNat)) dX11_minuteGoes_27 rfl o4 rfl (fun g5 => ?_)
      have h := h g5
      refine w_aload_n dX11_minuteGoes_28 rfl ?_
      refine w_getR dX11_minuteGoes_29 fX11_106 rfl rfl rfl ?_
      refine w_iload_n dX11_minuteGoes_32 rfl ?_
      obtain ⟨o6, h⟩ := h
      refine w_iald (x := (M 129 x1.toNat)) dX11_minuteGoes_33 rfl o6 rfl (fun g7 => ?_)
      have h := h g7
      refine w_icmp_ne dX11_minuteGoes_34 rfl ⟨g5, g7⟩ (fun c => ?_) (fun c => ?_)
      · have h := h.1 c
        refine w_aload_n dX11_minuteGoes_41 rfl ?_
        refine w_getR dX11_minuteGoes_42 fX11_97 rfl rfl rfl ?_
        refine w_iload_n dX11_minuteGoes_45 rfl ?_
        obtain ⟨o8, h⟩ := h
        refine w_iald (x := (M 126 x1.toNat)) dX11_minuteGoes_46 rfl o8 rfl (fun g9 => ?_)
        have h := h g9
        obtain ⟨o10, h⟩ := h
        refine w_iast dX11_minuteGoes_47 rfl o10 g9 ?_
        refine w_iinc dX11_minuteGoes_48 rfl (by decide) ?_
        refine w_goto dX11_minuteGoes_51 rfl ?_
        exact k_pick [1, 2, 0] rfl h
      · have h := h.2 c
        refine w_iconst dX11_minuteGoes_37 ?_
        refine w_goto dX11_minuteGoes_38 rfl ?_
        obtain ⟨o11, h⟩ := h
        refine w_iast dX11_minuteGoes_47 rfl o11 (by decide) ?_
        refine w_iinc dX11_minuteGoes_48 rfl (by decide) ?_
        refine w_goto dX11_minuteGoes_51 rfl ?_
        exact k_pick [1, 2, 0] rfl h
theorem vX11_minuteGoes_56 {E : Scr} {f : Mem → Prop} {M : Mem} (x1 x2 : Int) (h : ((iR (M 98 13)) → (iR x2) ∧ ((x2 ≥ (M 98 13) → (0 ≤ x1 ∧ x1 < 2) ∧ ((iR (M 129 x1.toNat)) → (0 ≤ x1 ∧ x1 < 2) ∧ (iR ((M 129 x1.toNat) + 1)) ∧ f (upM M 129 x1.toNat ((M 129 x1.toNat) + 1)))) ∧ (x2 < (M 98 13) → (0 ≤ x2 ∧ x2 < 32) ∧ ((iR (M 108 x2.toNat)) → (0 ≤ x1 ∧ x1 < 2) ∧ ((iR (M 129 x1.toNat)) → (((M 108 x2.toNat) ≠ (M 129 x1.toNat) → (KW E mX11_minuteGoes (qV f) M 56 [(0, pR 98), (1, pI x1), (2, pI (x2 + 1))] [])) ∧ ((M 108 x2.toNat) = (M 129 x1.toNat) → (0 ≤ x2 ∧ x2 < 32) ∧ ((iR (M 107 x2.toNat)) → ((iR (M 98 65)) → (((M 107 x2.toNat) ≠ (M 98 65) → (KW E mX11_minuteGoes (qV f) M 97 [(0, pR 98), (1, pI x1), (2, pI x2), (3, pI 0)] [])) ∧ ((M 107 x2.toNat) = (M 98 65) → (KW E mX11_minuteGoes (qV f) M 56 [(0, pR 98), (1, pI x1), (2, pI (x2 + 1))] []))))))))))))) : KW E mX11_minuteGoes (qV f) M 56 [(0, pR 98), (1, pI x1), (2, pI x2)] [] := by
  refine w_iload_n dX11_minuteGoes_56 rfl ?_
  refine w_aload_n dX11_minuteGoes_57 rfl ?_
  refine w_getI (x := (M 98 13)) dX11_minuteGoes_58 fX11_243 rfl rfl rfl (fun g1 => ?_)
  have h := h g1
  obtain ⟨o2, h⟩ := h
  refine w_icmp_ge dX11_minuteGoes_61 rfl ⟨o2, g1⟩ (fun c => ?_) (fun c => ?_)
  · have h := h.1 c
    refine w_aload_n dX11_minuteGoes_153 rfl ?_
    refine w_getR dX11_minuteGoes_154 fX11_106 rfl rfl rfl ?_
    refine w_iload_n dX11_minuteGoes_157 rfl ?_
    refine w_dup2 dX11_minuteGoes_158 ⟨rfl, rfl⟩ ?_
    obtain ⟨o3, h⟩ := h
    refine w_iald (x := (M 129 x1.toNat)) dX11_minuteGoes_159 rfl o3 rfl (fun g4 => ?_)
    have h := h g4
    refine w_iconst dX11_minuteGoes_160 ?_
    refine w_iadd dX11_minuteGoes_161 ?_
    obtain ⟨o5, h⟩ := h
    obtain ⟨o6, h⟩ := h
    refine w_iast dX11_minuteGoes_162 rfl o5 o6 ?_
    exact k_vret dX11_minuteGoes_163 rfl h
  · have h := h.2 c
    refine w_aload_n dX11_minuteGoes_64 rfl ?_
    refine w_getR dX11_minuteGoes_65 fX11_42 rfl rfl rfl ?_
    refine w_iload_n dX11_minuteGoes_68 rfl ?_
    obtain ⟨o7, h⟩ := h
    refine w_iald (x := (M 108 x2.toNat)) dX11_minuteGoes_69 rfl o7 rfl (fun g8 => ?_)
    have h := h g8
    refine w_aload_n dX11_minuteGoes_70 rfl ?_
    refine w_getR dX11_minuteGoes_71 fX11_106 rfl rfl rfl ?_
    refine w_iload_n dX11_minuteGoes_74 rfl ?_
    obtain ⟨o9, h⟩ := h
    refine w_iald (x := (M 129 x1.toNat)) dX11_minuteGoes_75 rfl o9 rfl (fun g10 => ?_)
    have h := h g10
    refine w_icmp_ne dX11_minuteGoes_76 rfl ⟨g8, g10⟩ (fun c => ?_) (fun c => ?_)
    · have h := h.1 c
      refine w_iinc dX11_minuteGoes_147 rfl (by decide) ?_
      refine w_goto dX11_minuteGoes_150 rfl ?_
      exact k_pick [1, 2, 0] rfl h
    · have h := h.2 c
      refine w_aload_n dX11_minuteGoes_79 rfl ?_
      refine w_getR dX11_minuteGoes_80 fX11_39 rfl rfl rfl ?_
      refine w_iload_n dX11_minuteGoes_83 rfl ?_
      obtain ⟨o11, h⟩ := h
      refine w_iald (x := (M 107 x2.toNat)) dX11_minuteGoes_84 rfl o11 rfl (fun g12 => ?_)
      have h := h g12
      refine w_aload_n dX11_minuteGoes_85 rfl ?_
      refine w_getI (x := (M 98 65)) dX11_minuteGoes_86 fX11_418 rfl rfl rfl (fun g13 => ?_)
      have h := h g13
      refine w_icmp_ne dX11_minuteGoes_89 rfl ⟨g12, g13⟩ (fun c => ?_) (fun c => ?_)
      · have h := h.1 c
        refine w_iconst dX11_minuteGoes_95 ?_
        refine w_istore_n dX11_minuteGoes_96 (by decide) ?_
        exact k_pick [1, 2, 3, 0] rfl h
      · have h := h.2 c
        refine w_goto dX11_minuteGoes_92 rfl ?_
        refine w_iinc dX11_minuteGoes_147 rfl (by decide) ?_
        refine w_goto dX11_minuteGoes_150 rfl ?_
        exact k_pick [1, 2, 0] rfl h
theorem vX11_minuteGoes_97 {E : Scr} {f : Mem → Prop} {M : Mem} (x1 x2 x3 : Int) (h : ((zR (M 98 64)) → (((M 98 64) = 0 → (KW E mX11_minuteGoes (qV f) M 110 [(0, pR 98), (1, pI x1), (2, pI x2), (3, pI x3)] [pI 1, pI x3])) ∧ ((M 98 64) ≠ 0 → (KW E mX11_minuteGoes (qV f) M 110 [(0, pR 98), (1, pI x1), (2, pI x2), (3, pI x3)] [pI 2, pI x3]))))) : KW E mX11_minuteGoes (qV f) M 97 [(0, pR 98), (1, pI x1), (2, pI x2), (3, pI x3)] [] := by
  refine w_iload_n dX11_minuteGoes_97 rfl ?_
  refine w_aload_n dX11_minuteGoes_98 rfl ?_
  refine w_getZ (x := (M 98 64)) dX11_minuteGoes_99 fX11_415 rfl rfl rfl (fun g1 => ?_)
  have h := h g1
  refine w_if_eq dX11_minuteGoes_102 rfl (z2i g1) (fun c => ?_) (fun c => ?_)
  · have h := h.1 c
    refine w_iconst dX11_minuteGoes_109 ?_
    exact k_pick [0, 1, 2, 3] rfl h
  · have h := h.2 c
    refine w_iconst dX11_minuteGoes_105 ?_
    refine w_goto dX11_minuteGoes_106 rfl ?_
    exact k_pick [0, 1, 2, 3] rfl h
theorem vX11_minuteGoes_110 {E : Scr} {f : Mem → Prop} {M : Mem} (x1 x2 x3 s0 s1 : Int) (h : (iR s1) ∧ (iR s0) ∧ ((s1 ≥ s0 → (KW E mX11_minuteGoes (qV f) M 56 [(0, pR 98), (1, pI x1), (2, pI (x2 + 1))] [])) ∧ (s1 < s0 → (0 ≤ x1 ∧ x1 < 2) ∧ ((iR (M 128 x1.toNat)) → (0 ≤ x2 ∧ x2 < 32) ∧ ((iR (M 107 x2.toNat)) → (CI E mX11_pushesOne [pR 98, pI x1, pI (M 107 x2.toNat)] M (fun r7 M8 => (iR r7) ∧ ((r7 = 0 → (0 ≤ x1 ∧ x1 < 2) ∧ (iR ((M 128 x1.toNat) + 1)) ∧ (KW E mX11_minuteGoes (qV f) (upM M8 128 x1.toNat ((M 128 x1.toNat) + 1)) 97 [(0, pR 98), (1, pI x1), (2, pI x2), (3, pI (x3 + 1))] [])) ∧ (r7 ≠ 0 → (0 ≤ x1 ∧ x1 < 2) ∧ (iR ((M 128 x1.toNat) + 0)) ∧ (KW E mX11_minuteGoes (qV f) (upM M8 128 x1.toNat ((M 128 x1.toNat) + 0)) 97 [(0, pR 98), (1, pI x1), (2, pI x2), (3, pI (x3 + 1))] [])))))))))) : KW E mX11_minuteGoes (qV f) M 110 [(0, pR 98), (1, pI x1), (2, pI x2), (3, pI x3)] [pI s0, pI s1] := by
  obtain ⟨o1, h⟩ := h
  obtain ⟨o2, h⟩ := h
  refine w_icmp_ge dX11_minuteGoes_110 rfl ⟨o1, o2⟩ (fun c => ?_) (fun c => ?_)
  · have h := h.1 c
    refine w_iinc dX11_minuteGoes_147 rfl (by decide) ?_
    refine w_goto dX11_minuteGoes_150 rfl ?_
    exact k_pick [1, 2, 0] rfl h
  · have h := h.2 c
    refine w_aload_n dX11_minuteGoes_113 rfl ?_
    refine w_getR dX11_minuteGoes_114 fX11_103 rfl rfl rfl ?_
    refine w_iload_n dX11_minuteGoes_117 rfl ?_
    refine w_dup2 dX11_minuteGoes_118 ⟨rfl, rfl⟩ ?_
    obtain ⟨o3, h⟩ := h
    refine w_iald (x := (M 128 x1.toNat)) dX11_minuteGoes_119 rfl o3 rfl (fun g4 => ?_)
    have h := h g4
    refine w_aload_n dX11_minuteGoes_120 rfl ?_
    refine w_iload_n dX11_minuteGoes_121 rfl ?_
    refine w_aload_n dX11_minuteGoes_122 rfl ?_
    refine w_getR dX11_minuteGoes_123 fX11_39 rfl rfl rfl ?_
    refine w_iload_n dX11_minuteGoes_126 rfl ?_
    obtain ⟨o5, h⟩ := h
    refine w_iald (x := (M 107 x2.toNat)) dX11_minuteGoes_127 rfl o5 rfl (fun g6 => ?_)
    have h := h g6
    refine k_vI (as := [pI x1, pI (M 107 x2.toNat)]) dX11_minuteGoes_128 kX11_450 ⟨⟨Nat.le_of_ble_eq_true rfl, rfl, rfl⟩, Nat.le_of_ble_eq_true rfl⟩ rfl (by decide) rfl (Nat.le_of_ble_eq_true rfl) h ?_
    intro r7 M8 h
    obtain ⟨o9, h⟩ := h
    refine w_if_eq dX11_minuteGoes_131 rfl o9 (fun c => ?_) (fun c => ?_)
    · have h := h.1 c
      refine w_iconst dX11_minuteGoes_138 ?_
      refine w_iadd dX11_minuteGoes_139 ?_
      obtain ⟨o10, h⟩ := h
      obtain ⟨o11, h⟩ := h
      refine w_iast dX11_minuteGoes_140 rfl o10 o11 ?_
      refine w_iinc dX11_minuteGoes_141 rfl (by decide) ?_
      refine w_goto dX11_minuteGoes_144 rfl ?_
      exact k_pick [1, 2, 3, 0] rfl h
    · have h := h.2 c
      refine w_iconst dX11_minuteGoes_134 ?_
      refine w_goto dX11_minuteGoes_135 rfl ?_
      refine w_iadd dX11_minuteGoes_139 ?_
      obtain ⟨o12, h⟩ := h
      obtain ⟨o13, h⟩ := h
      refine w_iast dX11_minuteGoes_140 rfl o12 o13 ?_
      refine w_iinc dX11_minuteGoes_141 rfl (by decide) ?_
      refine w_goto dX11_minuteGoes_144 rfl ?_
      exact k_pick [1, 2, 3, 0] rfl h
theorem vX11_goMany_0 {E : Scr} {f : Mem → Prop} {M : Mem} (x1 : Int) (h : (KW E mX11_goMany (qV f) M 2 [(0, pR 98), (1, pI x1), (2, pI 0)] [])) : CV E mX11_goMany [pR 98, pI x1] M f := by
  refine (show KW E mX11_goMany (qV f) M 0 [(0, pR 98), (1, pI x1)] [] from ?_)
  refine w_iconst dX11_goMany_0 ?_
  refine w_istore_n dX11_goMany_1 (by decide) ?_
  exact k_pick [1, 2, 0] rfl h
theorem vX11_goMany_2 {E : Scr} {f : Mem → Prop} {M : Mem} (x1 x2 : Int) (h : (iR x2) ∧ (iR x1) ∧ ((x2 ≥ x1 → f M) ∧ (x2 < x1 → (CV E mX11_minuteGoes [pR 98, pI 1] M (fun M4 => (KW E mX11_goMany (qV f) M4 2 [(0, pR 98), (1, pI x1), (2, pI (x2 + 1))] [])))))) : KW E mX11_goMany (qV f) M 2 [(0, pR 98), (1, pI x1), (2, pI x2)] [] := by
  refine w_iload_n dX11_goMany_2 rfl ?_
  refine w_iload_n dX11_goMany_3 rfl ?_
  obtain ⟨o1, h⟩ := h
  obtain ⟨o2, h⟩ := h
  refine w_icmp_ge dX11_goMany_4 rfl ⟨o1, o2⟩ (fun c => ?_) (fun c => ?_)
  · have h := h.1 c
    exact k_vret dX11_goMany_18 rfl h
  · have h := h.2 c
    refine w_aload_n dX11_goMany_7 rfl ?_
    refine w_iconst dX11_goMany_8 ?_
    refine k_vV (as := [pI 1]) dX11_goMany_9 kX11_453 ⟨⟨Nat.le_of_ble_eq_true rfl, rfl, rfl⟩, Nat.le_of_ble_eq_true rfl⟩ rfl (by decide) rfl (Nat.le_of_ble_eq_true rfl) h ?_
    intro M4 h
    refine w_iinc dX11_goMany_12 rfl (by decide) ?_
    refine w_goto dX11_goMany_15 rfl ?_
    exact k_pick [1, 2, 0] rfl h
theorem vX11_fails_0 {E : Scr} {f : Int → Mem → Prop} {M : Mem} (x1 : Int) (h : (iR x1) ∧ f 0 (upM M 98 2 x1)) : CI E mX11_fails [pR 98, pI x1] M f := by
  refine (show KW E mX11_fails (qI f) M 0 [(0, pR 98), (1, pI x1)] [] from ?_)
  refine w_aload_n dX11_fails_0 rfl ?_
  refine w_iload_n dX11_fails_1 rfl ?_
  obtain ⟨o1, h⟩ := h
  refine w_putI dX11_fails_2 (Or.inl ⟨rfl, fX11_160⟩) rfl rfl o1 ?_
  refine w_iconst dX11_fails_5 ?_
  exact k_iret dX11_fails_6 rfl h
theorem vX11_latch_0 {E : Scr} {f : Int → Mem → Prop} {M : Mem} (x1 x2 : Int) (h : (CI E mX11_isLatch [pR 98, pI x1] (upM M 98 2 0) (fun r1 M2 => (iR r1) ∧ ((r1 ≠ 0 → (iR x2) ∧ ((x2 = 0 → ((iR (M2 125 0)) → f (bAnd (bShr (M2 125 0) x1) 1) M2)) ∧ (x2 = 1 → ((iR (M2 126 0)) → f (bAnd (bShr (M2 126 0) x1) 1) M2)) ∧ (x2 = 2 → (CI E mX11_canNow [pR 98, pI 0] M2 (fun r7 M8 => f (bAnd (bShr r7 x1) 1) M8))) ∧ (x2 = 3 → (0 ≤ x1 ∧ x1 < 16) ∧ ((iR (M2 130 x1.toNat)) → f (M2 130 x1.toNat) M2)) ∧ (x2 < 0 ∨ 3 < x2 → (CI E mX11_fails [pR 98, pI 2] M2 (fun r11 M12 => f r11 M12))))) ∧ (r1 = 0 → (CI E mX11_fails [pR 98, pI 1] M2 (fun r13 M14 => f r13 M14))))))) : CI E mX11_latch [pR 98, pI x1, pI x2] M f := by
  refine (show KW E mX11_latch (qI f) M 0 [(0, pR 98), (1, pI x1), (2, pI x2)] [] from ?_)
  refine w_aload_n dX11_latch_0 rfl ?_
  refine w_iconst dX11_latch_1 ?_
  refine w_putI dX11_latch_2 (Or.inl ⟨rfl, fX11_160⟩) rfl rfl (by decide) ?_
  refine w_aload_n dX11_latch_5 rfl ?_
  refine w_iload_n dX11_latch_6 rfl ?_
  refine k_vI (as := [pI x1]) dX11_latch_7 kX11_456 ⟨⟨Nat.le_of_ble_eq_true rfl, rfl, rfl⟩, Nat.le_of_ble_eq_true rfl⟩ rfl (by decide) rfl (Nat.le_of_ble_eq_true rfl) h ?_
  intro r1 M2 h
  obtain ⟨o3, h⟩ := h
  refine w_if_ne dX11_latch_10 rfl o3 (fun c => ?_) (fun c => ?_)
  · have h := h.1 c
    refine w_iload_n dX11_latch_19 rfl ?_
    obtain ⟨o4, h⟩ := h
    refine w_tsw (tgs := [52, 63, 74, 84]) (td := 91) dX11_latch_20 o4 rfl (by decide) rfl ?_ ?_
    · intro j hj hx
      match j, hj, hx with
      | 0, _, hx =>
        have h := h.1 (by simpa using hx)
        clear hx
        refine w_aload_n dX11_latch_52 rfl ?_
        refine w_getR dX11_latch_53 fX11_94 rfl rfl rfl ?_
        refine w_iconst dX11_latch_56 ?_
        refine w_iald (x := (M2 125 0)) dX11_latch_57 rfl (by decide) rfl (fun g5 => ?_)
        have h := h g5
        refine w_iload_n dX11_latch_58 rfl ?_
        refine w_ishr dX11_latch_59 ?_
        refine w_iconst dX11_latch_60 ?_
        refine w_iand dX11_latch_61 ?_
        exact k_iret dX11_latch_62 rfl h
      | 1, _, hx =>
        have h := h.2.1 (by simpa using hx)
        clear hx
        refine w_aload_n dX11_latch_63 rfl ?_
        refine w_getR dX11_latch_64 fX11_97 rfl rfl rfl ?_
        refine w_iconst dX11_latch_67 ?_
        refine w_iald (x := (M2 126 0)) dX11_latch_68 rfl (by decide) rfl (fun g6 => ?_)
        have h := h g6
        refine w_iload_n dX11_latch_69 rfl ?_
        refine w_ishr dX11_latch_70 ?_
        refine w_iconst dX11_latch_71 ?_
        refine w_iand dX11_latch_72 ?_
        exact k_iret dX11_latch_73 rfl h
      | 2, _, hx =>
        have h := h.2.2.1 (by simpa using hx)
        clear hx
        refine w_aload_n dX11_latch_74 rfl ?_
        refine w_iconst dX11_latch_75 ?_
        refine k_vI (as := [pI 0]) dX11_latch_76 kX11_436 ⟨⟨Nat.le_of_ble_eq_true rfl, rfl, rfl⟩, Nat.le_of_ble_eq_true rfl⟩ rfl (by decide) rfl (Nat.le_of_ble_eq_true rfl) h ?_
        intro r7 M8 h
        refine w_iload_n dX11_latch_79 rfl ?_
        refine w_ishr dX11_latch_80 ?_
        refine w_iconst dX11_latch_81 ?_
        refine w_iand dX11_latch_82 ?_
        exact k_iret dX11_latch_83 rfl h
      | 3, _, hx =>
        have h := h.2.2.2.1 (by simpa using hx)
        clear hx
        refine w_aload_n dX11_latch_84 rfl ?_
        refine w_getR dX11_latch_85 fX11_109 rfl rfl rfl ?_
        refine w_iload_n dX11_latch_88 rfl ?_
        obtain ⟨o9, h⟩ := h
        refine w_iald (x := (M2 130 x1.toNat)) dX11_latch_89 rfl o9 rfl (fun g10 => ?_)
        have h := h g10
        exact k_iret dX11_latch_90 rfl h
      | _ + 4, hj, _ => exact absurd hj (by simp)
    · intro c
      have h := h.2.2.2.2 c
      refine w_aload_n dX11_latch_91 rfl ?_
      refine w_iconst dX11_latch_92 ?_
      refine k_vI (as := [pI 2]) dX11_latch_93 kX11_459 ⟨⟨Nat.le_of_ble_eq_true rfl, rfl, rfl⟩, Nat.le_of_ble_eq_true rfl⟩ rfl (by decide) rfl (Nat.le_of_ble_eq_true rfl) h ?_
      intro r11 M12 h
      exact k_iret dX11_latch_96 rfl h
  · have h := h.2 c
    refine w_aload_n dX11_latch_13 rfl ?_
    refine w_iconst dX11_latch_14 ?_
    refine k_vI (as := [pI 1]) dX11_latch_15 kX11_459 ⟨⟨Nat.le_of_ble_eq_true rfl, rfl, rfl⟩, Nat.le_of_ble_eq_true rfl⟩ rfl (by decide) rfl (Nat.le_of_ble_eq_true rfl) h ?_
    intro r13 M14 h
    exact k_iret dX11_latch_18 rfl h
theorem vX11_row_0 {E : Scr} {f : Int → Mem → Prop} {M : Mem} (x1 : Int) (h : (iR x1) ∧ ((x1 ≠ 0 → (iR x1) ∧ ((x1 ≠ 1 → (iR x1) ∧ ((x1 ≠ 2 → f (-1) (upM M 98 2 0)) ∧ (x1 = 2 → (CI E mX11_canNow [pR 98, pI 0] (upM M 98 2 0) (fun r4 M5 => ((iR (M5 98 12)) → f (bAnd r4 ((bShl 1 (M5 98 12)) - 1)) M5)))))) ∧ (x1 = 1 → ((iR (M 126 0)) → f (M 126 0) (upM M 98 2 0))))) ∧ (x1 = 0 → ((iR (M 125 0)) → f (M 125 0) (upM M 98 2 0))))) : CI E mX11_row [pR 98, pI x1] M f := by
  refine (show KW E mX11_row (qI f) M 0 [(0, pR 98), (1, pI x1)] [] from ?_)
  refine w_aload_n dX11_row_0 rfl ?_
  refine w_iconst dX11_row_1 ?_
  refine w_putI dX11_row_2 (Or.inl ⟨rfl, fX11_160⟩) rfl rfl (by decide) ?_
  refine w_iload_n dX11_row_5 rfl ?_
  obtain ⟨o1, h⟩ := h
  refine w_if_ne dX11_row_6 rfl o1 (fun c => ?_) (fun c => ?_)
  · have h := h.1 c
    refine w_iload_n dX11_row_18 rfl ?_
    refine w_iconst dX11_row_19 ?_
    obtain ⟨o2, h⟩ := h
    refine w_icmp_ne dX11_row_20 rfl ⟨o2, (by decide)⟩ (fun c => ?_) (fun c => ?_)
    · have h := h.1 c
      refine w_iload_n dX11_row_32 rfl ?_
      refine w_iconst dX11_row_33 ?_
      obtain ⟨o3, h⟩ := h
      refine w_icmp_ne dX11_row_34 rfl ⟨o3, (by decide)⟩ (fun c => ?_) (fun c => ?_)
      · have h := h.1 c
        refine w_iconst dX11_row_54 ?_
        exact k_iret dX11_row_55 rfl h
      · have h := h.2 c
        refine w_aload_n dX11_row_37 rfl ?_
        refine w_iconst dX11_row_38 ?_
        refine k_vI (as := [pI 0]) dX11_row_39 kX11_436 ⟨⟨Nat.le_of_ble_eq_true rfl, rfl, rfl⟩, Nat.le_of_ble_eq_true rfl⟩ rfl (by decide) rfl (Nat.le_of_ble_eq_true rfl) h ?_
        intro r4 M5 h
        refine w_iconst dX11_row_42 ?_
        refine w_aload_n dX11_row_43 rfl ?_
        refine w_getI (x := (M5 98 12)) dX11_row_44 fX11_240 rfl rfl rfl (fun g6 => ?_)
        have h := h g6
        refine w_ishl dX11_row_47 ?_
        refine w_iconst dX11_row_48 ?_
        refine w_isub dX11_row_49 ?_
        refine w_iand dX11_row_50 ?_
        refine w_goto dX11_row_51 rfl ?_
        exact k_iret dX11_row_55 rfl h
    · have h := h.2 c
      refine w_aload_n dX11_row_23 rfl ?_
      refine w_getR dX11_row_24 fX11_97 rfl rfl rfl ?_
      refine w_iconst dX11_row_27 ?_
      refine w_iald (x := (M 126 0)) dX11_row_28 rfl (by decide) rfl (fun g7 => ?_)
      have h := h g7
      refine w_goto dX11_row_29 rfl ?_
      exact k_iret dX11_row_55 rfl h
  · have h := h.2 c
    refine w_aload_n dX11_row_9 rfl ?_
    refine w_getR dX11_row_10 fX11_94 rfl rfl rfl ?_
    refine w_iconst dX11_row_13 ?_
    refine w_iald (x := (M 125 0)) dX11_row_14 rfl (by decide) rfl (fun g8 => ?_)
    have h := h g8
    refine w_goto dX11_row_15 rfl ?_
    exact k_iret dX11_row_55 rfl h
theorem vX11_could_0 {E : Scr} {f : Int → Mem → Prop} {M : Mem} (x1 x2 : Int) (h : (CI E mX11_isRow [pR 98, pI x1] (upM M 98 2 0) (fun r1 M2 => (iR r1) ∧ ((r1 = 0 → f (-1) M2) ∧ (r1 ≠ 0 → (CI E mX11_isLatch [pR 98, pI x2] M2 (fun r4 M5 => (iR r4) ∧ ((r4 = 0 → f (-1) M5) ∧ (r4 ≠ 0 → (0 ≤ x1 ∧ x1 < 256) ∧ ((iR (M5 123 x1.toNat)) → f (bAnd (bShr (M5 123 x1.toNat) x2) 1) M5)))))))))) : CI E mX11_could [pR 98, pI x1, pI x2] M f := by
  refine (show KW E mX11_could (qI f) M 0 [(0, pR 98), (1, pI x1), (2, pI x2)] [] from ?_)
  refine w_aload_n dX11_could_0 rfl ?_
  refine w_iconst dX11_could_1 ?_
  refine w_putI dX11_could_2 (Or.inl ⟨rfl, fX11_160⟩) rfl rfl (by decide) ?_
  refine w_aload_n dX11_could_5 rfl ?_
  refine w_iload_n dX11_could_6 rfl ?_
  refine k_vI (as := [pI x1]) dX11_could_7 kX11_462 ⟨⟨Nat.le_of_ble_eq_true rfl, rfl, rfl⟩, Nat.le_of_ble_eq_true rfl⟩ rfl (by decide) rfl (Nat.le_of_ble_eq_true rfl) h ?_
  intro r1 M2 h
  obtain ⟨o3, h⟩ := h
  refine w_if_eq dX11_could_10 rfl o3 (fun c => ?_) (fun c => ?_)
  · have h := h.1 c
    refine w_iconst dX11_could_34 ?_
    exact k_iret dX11_could_35 rfl h
  · have h := h.2 c
    refine w_aload_n dX11_could_13 rfl ?_
    refine w_iload_n dX11_could_14 rfl ?_
    refine k_vI (as := [pI x2]) dX11_could_15 kX11_456 ⟨⟨Nat.le_of_ble_eq_true rfl, rfl, rfl⟩, Nat.le_of_ble_eq_true rfl⟩ rfl (by decide) rfl (Nat.le_of_ble_eq_true rfl) h ?_
    intro r4 M5 h
    obtain ⟨o6, h⟩ := h
    refine w_if_eq dX11_could_18 rfl o6 (fun c => ?_) (fun c => ?_)
    · have h := h.1 c
      refine w_iconst dX11_could_34 ?_
      exact k_iret dX11_could_35 rfl h
    · have h := h.2 c
      refine w_aload_n dX11_could_21 rfl ?_
      refine w_getR dX11_could_22 fX11_88 rfl rfl rfl ?_
      refine w_iload_n dX11_could_25 rfl ?_
      obtain ⟨o7, h⟩ := h
      refine w_iald (x := (M5 123 x1.toNat)) dX11_could_26 rfl o7 rfl (fun g8 => ?_)
      have h := h g8
      refine w_iload_n dX11_could_27 rfl ?_
      refine w_ishr dX11_could_28 ?_
      refine w_iconst dX11_could_29 ?_
      refine w_iand dX11_could_30 ?_
      refine w_goto dX11_could_31 rfl ?_
      exact k_iret dX11_could_35 rfl h
theorem vX11_law_0 {E : Scr} {f : Int → Mem → Prop} {M : Mem} (x1 x2 : Int) (h : (CI E mX11_isIn [pI x1, pI 0, pI 2] (upM M 98 2 0) (fun r1 M2 => (iR r1) ∧ ((r1 = 0 → f (-9223372036854775808) M2) ∧ (r1 ≠ 0 → (0 ≤ x1 ∧ x1 < 6) ∧ ((zR (M2 113 x1.toNat)) → (((M2 113 x1.toNat) = 0 → f (-9223372036854775808) M2) ∧ ((M2 113 x1.toNat) ≠ 0 → (CI E mX11_isLatch [pR 98, pI x2] M2 (fun r6 M7 => (iR r6) ∧ ((r6 ≠ 0 → (CV E mX11_lay [pR 98, pI 0, pI x2] M7 (fun M10 => (CL E mX11_lawOf [pR 98, pI x1] M10 (fun r11 M12 => ((zR (M12 98 50)) → (((M12 98 50) = 0 → f r11 M12) ∧ ((M12 98 50) ≠ 0 → f (-9223372036854775808) M12)))))))) ∧ (r6 = 0 → f (-9223372036854775808) M7)))))))))))) : CL E mX11_law [pR 98, pI x1, pI x2] M f := by
  refine (show KW E mX11_law (qL f) M 0 [(0, pR 98), (1, pI x1), (2, pI x2)] [] from ?_)
  refine w_aload_n dX11_law_0 rfl ?_
  refine w_iconst dX11_law_1 ?_
  refine w_putI dX11_law_2 (Or.inl ⟨rfl, fX11_160⟩) rfl rfl (by decide) ?_
  refine w_iload_n dX11_law_5 rfl ?_
  refine w_iconst dX11_law_6 ?_
  refine w_iconst dX11_law_7 ?_
  refine k_sI (as := [pI x1, pI 0, pI 2]) dX11_law_8 kX11_205 ⟨⟨Nat.le_of_ble_eq_true rfl, rfl, rfl⟩, Nat.le_of_ble_eq_true rfl⟩ rfl (Nat.le_of_ble_eq_true rfl) h ?_
  intro r1 M2 h
  obtain ⟨o3, h⟩ := h
  refine w_if_eq dX11_law_11 rfl o3 (fun c => ?_) (fun c => ?_)
  · have h := h.1 c
    refine w_ldc2 dX11_law_31 qX11_465 ?_
    exact k_lret dX11_law_34 rfl h
  · have h := h.2 c
    refine w_aload_n dX11_law_14 rfl ?_
    refine w_getR dX11_law_15 fX11_57 rfl rfl rfl ?_
    refine w_iload_n dX11_law_18 rfl ?_
    obtain ⟨o4, h⟩ := h
    refine w_zald (x := (M2 113 x1.toNat)) dX11_law_19 rfl o4 rfl (fun g5 => ?_)
    have h := h g5
    refine w_if_eq dX11_law_20 rfl (z2i g5) (fun c => ?_) (fun c => ?_)
    · have h := h.1 c
      refine w_ldc2 dX11_law_31 qX11_465 ?_
      exact k_lret dX11_law_34 rfl h
    · have h := h.2 c
      refine w_aload_n dX11_law_23 rfl ?_
      refine w_iload_n dX11_law_24 rfl ?_
      refine k_vI (as := [pI x2]) dX11_law_25 kX11_456 ⟨⟨Nat.le_of_ble_eq_true rfl, rfl, rfl⟩, Nat.le_of_ble_eq_true rfl⟩ rfl (by decide) rfl (Nat.le_of_ble_eq_true rfl) h ?_
      intro r6 M7 h
      obtain ⟨o8, h⟩ := h
      refine w_if_ne dX11_law_28 rfl o8 (fun c => ?_) (fun c => ?_)
      · have h := h.1 c
        refine w_aload_n dX11_law_35 rfl ?_
        refine w_iconst dX11_law_36 ?_
        refine w_iload_n dX11_law_37 rfl ?_
        refine k_vV (as := [pI 0, pI x2]) dX11_law_38 kX11_439 ⟨⟨Nat.le_of_ble_eq_true rfl, rfl, rfl⟩, Nat.le_of_ble_eq_true rfl⟩ rfl (by decide) rfl (Nat.le_of_ble_eq_true rfl) h ?_
        intro M10 h
        refine w_aload_n dX11_law_41 rfl ?_
        refine w_iload_n dX11_law_42 rfl ?_
        refine k_vL (as := [pI x1]) dX11_law_43 kX11_425 ⟨⟨Nat.le_of_ble_eq_true rfl, rfl, rfl⟩, Nat.le_of_ble_eq_true rfl⟩ rfl (by decide) rfl (Nat.le_of_ble_eq_true rfl) h ?_
        intro r11 M12 h
        refine w_lstore_n dX11_law_46 (by decide) ?_
        refine w_aload_n dX11_law_47 rfl ?_
        refine w_getZ (x := (M12 98 50)) dX11_law_48 fX11_347 rfl rfl rfl (fun g13 => ?_)
        have h := h g13
        refine w_if_eq dX11_law_51 rfl (z2i g13) (fun c => ?_) (fun c => ?_)
        · have h := h.1 c
          refine w_lload_n dX11_law_60 rfl ?_
          exact k_lret dX11_law_61 rfl h
        · have h := h.2 c
          refine w_ldc2 dX11_law_54 qX11_465 ?_
          refine w_goto dX11_law_57 rfl ?_
          exact k_lret dX11_law_61 rfl h
      · have h := h.2 c
        refine w_ldc2 dX11_law_31 qX11_465 ?_
        exact k_lret dX11_law_34 rfl h
theorem vX11_push_0 {E : Scr} {f : Int → Mem → Prop} {M : Mem} (x1 : Int) (h : (CI E mX11_isLatch [pR 98, pI x1] (upM M 98 2 0) (fun r1 M2 => (iR r1) ∧ ((r1 ≠ 0 → (CV E mX11_plainTried [pR 98] M2 (fun M5 => (CI E mX11_canNow [pR 98, pI 0] M5 (fun r6 M7 => (CI E mX11_isOf [pI r6, pI x1] M7 (fun r8 M9 => (iR r8) ∧ ((r8 ≠ 0 → (CV E mX11_remember [pR 98] M9 (fun M12 => (CI E mX11_pushesOne [pR 98, pI 0, pI x1] M12 (fun r13 M14 => ((iR (M14 125 0)) → (CI E mX11_manyOf [pI (M14 125 0)] M14 (fun r16 M17 => f r16 M17)))))))) ∧ (r8 = 0 → f (-2) M9))))))))) ∧ (r1 = 0 → f (-1) M2))))) : CI E mX11_push [pR 98, pI x1] M f := by
  refine (show KW E mX11_push (qI f) M 0 [(0, pR 98), (1, pI x1)] [] from ?_)
  refine w_aload_n dX11_push_0 rfl ?_
  refine w_iconst dX11_push_1 ?_
  refine w_putI dX11_push_2 (Or.inl ⟨rfl, fX11_160⟩) rfl rfl (by decide) ?_
  refine w_aload_n dX11_push_5 rfl ?_
  refine w_iload_n dX11_push_6 rfl ?_
  refine k_vI (as := [pI x1]) dX11_push_7 kX11_456 ⟨⟨Nat.le_of_ble_eq_true rfl, rfl, rfl⟩, Nat.le_of_ble_eq_true rfl⟩ rfl (by decide) rfl (Nat.le_of_ble_eq_true rfl) h ?_
  intro r1 M2 h
  obtain ⟨o3, h⟩ := h
  refine w_if_ne dX11_push_10 rfl o3 (fun c => ?_) (fun c => ?_)
  · have h := h.1 c
    refine w_aload_n dX11_push_15 rfl ?_
    refine k_vV (as := []) dX11_push_16 kX11_391 ⟨⟨Nat.le_of_ble_eq_true rfl, rfl, rfl⟩, Nat.le_of_ble_eq_true rfl⟩ rfl (by decide) rfl (Nat.le_of_ble_eq_true rfl) h ?_
    intro M5 h
    refine w_aload_n dX11_push_19 rfl ?_
    refine w_iconst dX11_push_20 ?_
    refine k_vI (as := [pI 0]) dX11_push_21 kX11_436 ⟨⟨Nat.le_of_ble_eq_true rfl, rfl, rfl⟩, Nat.le_of_ble_eq_true rfl⟩ rfl (by decide) rfl (Nat.le_of_ble_eq_true rfl) h ?_
    intro r6 M7 h
    refine w_iload_n dX11_push_24 rfl ?_
    refine k_sI (as := [pI r6, pI x1]) dX11_push_25 kX11_372 ⟨⟨Nat.le_of_ble_eq_true rfl, rfl, rfl⟩, Nat.le_of_ble_eq_true rfl⟩ rfl (Nat.le_of_ble_eq_true rfl) h ?_
    intro r8 M9 h
    obtain ⟨o10, h⟩ := h
    refine w_if_ne dX11_push_28 rfl o10 (fun c => ?_) (fun c => ?_)
    · have h := h.1 c
      refine w_aload_n dX11_push_34 rfl ?_
      refine k_vV (as := []) dX11_push_35 kX11_467 ⟨⟨Nat.le_of_ble_eq_true rfl, rfl, rfl⟩, Nat.le_of_ble_eq_true rfl⟩ rfl (by decide) rfl (Nat.le_of_ble_eq_true rfl) h ?_
      intro M12 h
      refine w_aload_n dX11_push_38 rfl ?_
      refine w_iconst dX11_push_39 ?_
      refine w_iload_n dX11_push_40 rfl ?_
      refine k_vI (as := [pI 0, pI x1]) dX11_push_41 kX11_450 ⟨⟨Nat.le_of_ble_eq_true rfl, rfl, rfl⟩, Nat.le_of_ble_eq_true rfl⟩ rfl (by decide) rfl (Nat.le_of_ble_eq_true rfl) h ?_
      intro r13 M14 h
      refine w_pop dX11_push_44 rfl ?_
      refine w_aload_n dX11_push_45 rfl ?_
      refine w_getR dX11_push_46 fX11_94 rfl rfl rfl ?_
      refine w_iconst dX11_push_49 ?_
      refine w_iald (x := (M14 125 0)) dX11_push_50 rfl (by decide) rfl (fun g15 => ?_)
      have h := h g15
      refine k_sI (as := [pI (M14 125 0)]) dX11_push_51 kX11_381 ⟨⟨Nat.le_of_ble_eq_true rfl, rfl, rfl⟩, Nat.le_of_ble_eq_true rfl⟩ rfl (Nat.le_of_ble_eq_true rfl) h ?_
      intro r16 M17 h
      exact k_iret dX11_push_54 rfl h
    · have h := h.2 c
      refine w_bipush dX11_push_31 (by decide) ?_
      exact k_iret dX11_push_33 rfl h
  · have h := h.2 c
    refine w_iconst dX11_push_13 ?_
    exact k_iret dX11_push_14 rfl h
theorem vX11_force_0 {E : Scr} {f : Int → Mem → Prop} {M : Mem} (x1 : Int) (h : (CI E mX11_isLatch [pR 98, pI x1] (upM M 98 2 0) (fun r1 M2 => (iR r1) ∧ ((r1 ≠ 0 → (CV E mX11_remember [pR 98] M2 (fun M5 => ((iR (M5 125 0)) → ((iR (bXor (M5 125 0) (bShl 1 x1))) → f (bAnd (bShr (bXor (M5 125 0) (bShl 1 x1)) x1) 1) (upM M5 125 0 (bXor (M5 125 0) (bShl 1 x1)))))))) ∧ (r1 = 0 → f (-1) M2))))) : CI E mX11_force [pR 98, pI x1] M f := by
  refine (show KW E mX11_force (qI f) M 0 [(0, pR 98), (1, pI x1)] [] from ?_)
  refine w_aload_n dX11_force_0 rfl ?_
  refine w_iconst dX11_force_1 ?_
  refine w_putI dX11_force_2 (Or.inl ⟨rfl, fX11_160⟩) rfl rfl (by decide) ?_
  refine w_aload_n dX11_force_5 rfl ?_
  refine w_iload_n dX11_force_6 rfl ?_
  refine k_vI (as := [pI x1]) dX11_force_7 kX11_456 ⟨⟨Nat.le_of_ble_eq_true rfl, rfl, rfl⟩, Nat.le_of_ble_eq_true rfl⟩ rfl (by decide) rfl (Nat.le_of_ble_eq_true rfl) h ?_
  intro r1 M2 h
  obtain ⟨o3, h⟩ := h
  refine w_if_ne dX11_force_10 rfl o3 (fun c => ?_) (fun c => ?_)
  · have h := h.1 c
    refine w_aload_n dX11_force_15 rfl ?_
    refine k_vV (as := []) dX11_force_16 kX11_467 ⟨⟨Nat.le_of_ble_eq_true rfl, rfl, rfl⟩, Nat.le_of_ble_eq_true rfl⟩ rfl (by decide) rfl (Nat.le_of_ble_eq_true rfl) h ?_
    intro M5 h
    refine w_aload_n dX11_force_19 rfl ?_
    refine w_getR dX11_force_20 fX11_94 rfl rfl rfl ?_
    refine w_iconst dX11_force_23 ?_
    refine w_dup2 dX11_force_24 ⟨rfl, rfl⟩ ?_
    refine w_iald (x := (M5 125 0)) dX11_force_25 rfl (by decide) rfl (fun g6 => ?_)
    have h := h g6
    refine w_iconst dX11_force_26 ?_
    refine w_iload_n dX11_force_27 rfl ?_
    refine w_ishl dX11_force_28 ?_
    refine w_ixor dX11_force_29 ?_
    refine w_iast dX11_force_30 rfl (by decide) (bXor_r _ _) ?_
    refine w_aload_n dX11_force_31 rfl ?_
    refine w_getR dX11_force_32 fX11_94 rfl rfl rfl ?_
    refine w_iconst dX11_force_35 ?_
    refine w_iald (x := (bXor (M5 125 0) (bShl 1 x1))) dX11_force_36 rfl (by decide) rfl (fun g7 => ?_)
    have h := h g7
    refine w_iload_n dX11_force_37 rfl ?_
    refine w_ishr dX11_force_38 ?_
    refine w_iconst dX11_force_39 ?_
    refine w_iand dX11_force_40 ?_
    exact k_iret dX11_force_41 rfl h
  · have h := h.2 c
    refine w_iconst dX11_force_13 ?_
    exact k_iret dX11_force_14 rfl h
theorem vX11_seal_0 {E : Scr} {f : Int → Mem → Prop} {M : Mem} (x1 : Int) (h : (CI E mX11_isLatch [pR 98, pI x1] (upM M 98 2 0) (fun r1 M2 => (iR r1) ∧ ((r1 ≠ 0 → (CV E mX11_remember [pR 98] M2 (fun M5 => ((iR (M5 126 0)) → ((iR (bXor (M5 126 0) (bShl 1 x1))) → f (bAnd (bShr (bXor (M5 126 0) (bShl 1 x1)) x1) 1) (upM M5 126 0 (bXor (M5 126 0) (bShl 1 x1)))))))) ∧ (r1 = 0 → f (-1) M2))))) : CI E mX11_seal [pR 98, pI x1] M f := by
  refine (show KW E mX11_seal (qI f) M 0 [(0, pR 98), (1, pI x1)] [] from ?_)
  refine w_aload_n dX11_seal_0 rfl ?_
  refine w_iconst dX11_seal_1 ?_
  refine w_putI dX11_seal_2 (Or.inl ⟨rfl, fX11_160⟩) rfl rfl (by decide) ?_
  refine w_aload_n dX11_seal_5 rfl ?_
  refine w_iload_n dX11_seal_6 rfl ?_
  refine k_vI (as := [pI x1]) dX11_seal_7 kX11_456 ⟨⟨Nat.le_of_ble_eq_true rfl, rfl, rfl⟩, Nat.le_of_ble_eq_true rfl⟩ rfl (by decide) rfl (Nat.le_of_ble_eq_true rfl) h ?_
  intro r1 M2 h
  obtain ⟨o3, h⟩ := h
  refine w_if_ne dX11_seal_10 rfl o3 (fun c => ?_) (fun c => ?_)
  · have h := h.1 c
    refine w_aload_n dX11_seal_15 rfl ?_
    refine k_vV (as := []) dX11_seal_16 kX11_467 ⟨⟨Nat.le_of_ble_eq_true rfl, rfl, rfl⟩, Nat.le_of_ble_eq_true rfl⟩ rfl (by decide) rfl (Nat.le_of_ble_eq_true rfl) h ?_
    intro M5 h
    refine w_aload_n dX11_seal_19 rfl ?_
    refine w_getR dX11_seal_20 fX11_97 rfl rfl rfl ?_
    refine w_iconst dX11_seal_23 ?_
    refine w_dup2 dX11_seal_24 ⟨rfl, rfl⟩ ?_
    refine w_iald (x := (M5 126 0)) dX11_seal_25 rfl (by decide) rfl (fun g6 => ?_)
    have h := h g6
    refine w_iconst dX11_seal_26 ?_
    refine w_iload_n dX11_seal_27 rfl ?_
    refine w_ishl dX11_seal_28 ?_
    refine w_ixor dX11_seal_29 ?_
    refine w_iast dX11_seal_30 rfl (by decide) (bXor_r _ _) ?_
    refine w_aload_n dX11_seal_31 rfl ?_
    refine w_getR dX11_seal_32 fX11_97 rfl rfl rfl ?_
    refine w_iconst dX11_seal_35 ?_
    refine w_iald (x := (bXor (M5 126 0) (bShl 1 x1))) dX11_seal_36 rfl (by decide) rfl (fun g7 => ?_)
    have h := h g7
    refine w_iload_n dX11_seal_37 rfl ?_
    refine w_ishr dX11_seal_38 ?_
    refine w_iconst dX11_seal_39 ?_
    refine w_iand dX11_seal_40 ?_
    exact k_iret dX11_seal_41 rfl h
  · have h := h.2 c
    refine w_iconst dX11_seal_13 ?_
    exact k_iret dX11_seal_14 rfl h
theorem vX11_go_0 {E : Scr} {f : Int → Mem → Prop} {M : Mem} (x1 : Int) (h : (CI E mX11_isIn [pI x1, pI 0, pI 200] (upM M 98 2 0) (fun r1 M2 => (iR r1) ∧ ((r1 = 0 → f (-1) M2) ∧ (r1 ≠ 0 → ((iR (M2 129 0)) → (iR ((M2 129 0) + x1)) ∧ ((((M2 129 0) + x1) ≤ 9000 → (CV E mX11_plainTried [pR 98] M2 (fun M7 => (KW E mX11_go (qI f) (upM M7 98 60 1) 43 [(0, pR 98), (1, pI x1), (2, pI 0)] [])))) ∧ (((M2 129 0) + x1) > 9000 → f (-1) M2)))))))) : CI E mX11_go [pR 98, pI x1] M f := by
  refine (show KW E mX11_go (qI f) M 0 [(0, pR 98), (1, pI x1)] [] from ?_)
  refine w_aload_n dX11_go_0 rfl ?_
  refine w_iconst dX11_go_1 ?_
  refine w_putI dX11_go_2 (Or.inl ⟨rfl, fX11_160⟩) rfl rfl (by decide) ?_
  refine w_iload_n dX11_go_5 rfl ?_
  refine w_iconst dX11_go_6 ?_
  refine w_sipush dX11_go_7 (by decide) ?_
  refine k_sI (as := [pI x1, pI 0, pI 200]) dX11_go_10 kX11_205 ⟨⟨Nat.le_of_ble_eq_true rfl, rfl, rfl⟩, Nat.le_of_ble_eq_true rfl⟩ rfl (Nat.le_of_ble_eq_true rfl) h ?_
  intro r1 M2 h
  obtain ⟨o3, h⟩ := h
  refine w_if_eq dX11_go_13 rfl o3 (fun c => ?_) (fun c => ?_)
  · have h := h.1 c
    refine w_iconst dX11_go_30 ?_
    exact k_iret dX11_go_31 rfl h
  · have h := h.2 c
    refine w_aload_n dX11_go_16 rfl ?_
    refine w_getR dX11_go_17 fX11_106 rfl rfl rfl ?_
    refine w_iconst dX11_go_20 ?_
    refine w_iald (x := (M2 129 0)) dX11_go_21 rfl (by decide) rfl (fun g4 => ?_)
    have h := h g4
    refine w_iload_n dX11_go_22 rfl ?_
    refine w_iadd dX11_go_23 ?_
    refine w_sipush dX11_go_24 (by decide) ?_
    obtain ⟨o5, h⟩ := h
    refine w_icmp_le dX11_go_27 rfl ⟨o5, (by decide)⟩ (fun c => ?_) (fun c => ?_)
    · have h := h.1 c
      refine w_aload_n dX11_go_32 rfl ?_
      refine k_vV (as := []) dX11_go_33 kX11_391 ⟨⟨Nat.le_of_ble_eq_true rfl, rfl, rfl⟩, Nat.le_of_ble_eq_true rfl⟩ rfl (by decide) rfl (Nat.le_of_ble_eq_true rfl) h ?_
      intro M7 h
      refine w_aload_n dX11_go_36 rfl ?_
      refine w_iconst dX11_go_37 ?_
      refine w_putZ dX11_go_38 (Or.inl ⟨rfl, fX11_403⟩) rfl rfl (by decide) ?_
      refine w_iconst dX11_go_41 ?_
      refine w_istore_n dX11_go_42 (by decide) ?_
      exact k_pick [1, 2, 0] rfl h
    · have h := h.2 c
      refine w_iconst dX11_go_30 ?_
      exact k_iret dX11_go_31 rfl h
theorem vX11_go_43 {E : Scr} {f : Int → Mem → Prop} {M : Mem} (x1 x2 : Int) (h : (iR x2) ∧ (iR x1) ∧ ((x2 ≥ x1 → (iR x1) ∧ ((x1 ≤ 0 → ((iR (M 98 80)) → ((iR (M 129 0)) → f (M 129 0) (upM (upM M 98 60 0) 98 80 (M 98 80))))) ∧ (x1 > 0 → ((iR (M 129 0)) → f (M 129 0) (upM (upM M 98 60 0) 98 80 0))))) ∧ (x2 < x1 → (CV E mX11_minuteGoes [pR 98, pI 0] M (fun M8 => (KW E mX11_go (qI f) M8 43 [(0, pR 98), (1, pI x1), (2, pI (x2 + 1))] [])))))) : KW E mX11_go (qI f) M 43 [(0, pR 98), (1, pI x1), (2, pI x2)] [] := by
  refine w_iload_n dX11_go_43 rfl ?_
  refine w_iload_n dX11_go_44 rfl ?_
  obtain ⟨o1, h⟩ := h
  obtain ⟨o2, h⟩ := h
  refine w_icmp_ge dX11_go_45 rfl ⟨o1, o2⟩ (fun c => ?_) (fun c => ?_)
  · have h := h.1 c
    refine w_aload_n dX11_go_59 rfl ?_
    refine w_iconst dX11_go_60 ?_
    refine w_putZ dX11_go_61 (Or.inl ⟨rfl, fX11_403⟩) rfl rfl (by decide) ?_
    refine w_aload_n dX11_go_64 rfl ?_
    refine w_iload_n dX11_go_65 rfl ?_
    obtain ⟨o3, h⟩ := h
    refine w_if_le dX11_go_66 rfl o3 (fun c => ?_) (fun c => ?_)
    · have h := h.1 c
      refine w_aload_n dX11_go_73 rfl ?_
      refine w_getI (x := (M 98 80)) dX11_go_74 fX11_397 rfl rfl rfl (fun g4 => ?_)
      have h := h g4
      refine w_putI dX11_go_77 (Or.inl ⟨rfl, fX11_397⟩) rfl rfl g4 ?_
      refine w_aload_n dX11_go_80 rfl ?_
      refine w_getR dX11_go_81 fX11_106 rfl rfl rfl ?_
      refine w_iconst dX11_go_84 ?_
      refine w_iald (x := (M 129 0)) dX11_go_85 rfl (by decide) rfl (fun g5 => ?_)
      have h := h g5
      exact k_iret dX11_go_86 rfl h
    · have h := h.2 c
      refine w_iconst dX11_go_69 ?_
      refine w_goto dX11_go_70 rfl ?_
      refine w_putI dX11_go_77 (Or.inl ⟨rfl, fX11_397⟩) rfl rfl (by decide) ?_
      refine w_aload_n dX11_go_80 rfl ?_
      refine w_getR dX11_go_81 fX11_106 rfl rfl rfl ?_
      refine w_iconst dX11_go_84 ?_
      refine w_iald (x := (M 129 0)) dX11_go_85 rfl (by decide) rfl (fun g6 => ?_)
      have h := h g6
      exact k_iret dX11_go_86 rfl h
  · have h := h.2 c
    refine w_aload_n dX11_go_48 rfl ?_
    refine w_iconst dX11_go_49 ?_
    refine k_vV (as := [pI 0]) dX11_go_50 kX11_453 ⟨⟨Nat.le_of_ble_eq_true rfl, rfl, rfl⟩, Nat.le_of_ble_eq_true rfl⟩ rfl (by decide) rfl (Nat.le_of_ble_eq_true rfl) h ?_
    intro M8 h
    refine w_iinc dX11_go_53 rfl (by decide) ?_
    refine w_goto dX11_go_56 rfl ?_
    exact k_pick [1, 2, 0] rfl h
theorem vX11_ahead_0 {E : Scr} {f : Int → Mem → Prop} {M : Mem} (x1 x2 : Int) (h : (CI E mX11_isIn [pI x1, pI 0, pI 200] (upM M 98 2 0) (fun r1 M2 => (iR r1) ∧ ((r1 = 0 → f (-1) M2) ∧ (r1 ≠ 0 → (CI E mX11_isIn [pI x2, pI 0, pI 4] M2 (fun r4 M5 => (iR r4) ∧ ((r4 ≠ 0 → (CV E mX11_layTried [pR 98] M5 (fun M8 => (CV E mX11_goMany [pR 98, pI x1] M8 (fun M10 => (iR x2) ∧ ((x2 = 0 → ((iR (M10 125 1)) → (CI E mX11_manyOf [pI (M10 125 1)] M10 (fun r13 M14 => f r13 M14)))) ∧ (x2 = 1 → ((iR (M10 127 1)) → ((iR (M10 127 0)) → f ((M10 127 1) - (M10 127 0)) M10))) ∧ (x2 = 2 → ((iR (M10 128 1)) → ((iR (M10 128 0)) → f ((M10 128 1) - (M10 128 0)) M10))) ∧ (x2 = 3 → ((iR (M10 126 1)) → (CI E mX11_manyOf [pI (M10 126 1)] M10 (fun r20 M21 => f r20 M21)))) ∧ (x2 < 0 ∨ 3 < x2 → ((iR (M10 125 1)) → f (M10 125 1) M10)))))))) ∧ (r4 = 0 → f (-1) M5))))))))) : CI E mX11_ahead [pR 98, pI x1, pI x2] M f := by
  refine (show KW E mX11_ahead (qI f) M 0 [(0, pR 98), (1, pI x1), (2, pI x2)] [] from ?_)
  refine w_aload_n dX11_ahead_0 rfl ?_
  refine w_iconst dX11_ahead_1 ?_
  refine w_putI dX11_ahead_2 (Or.inl ⟨rfl, fX11_160⟩) rfl rfl (by decide) ?_
  refine w_iload_n dX11_ahead_5 rfl ?_
  refine w_iconst dX11_ahead_6 ?_
  refine w_sipush dX11_ahead_7 (by decide) ?_
  refine k_sI (as := [pI x1, pI 0, pI 200]) dX11_ahead_10 kX11_205 ⟨⟨Nat.le_of_ble_eq_true rfl, rfl, rfl⟩, Nat.le_of_ble_eq_true rfl⟩ rfl (Nat.le_of_ble_eq_true rfl) h ?_
  intro r1 M2 h
  obtain ⟨o3, h⟩ := h
  refine w_if_eq dX11_ahead_13 rfl o3 (fun c => ?_) (fun c => ?_)
  · have h := h.1 c
    refine w_iconst dX11_ahead_25 ?_
    exact k_iret dX11_ahead_26 rfl h
  · have h := h.2 c
    refine w_iload_n dX11_ahead_16 rfl ?_
    refine w_iconst dX11_ahead_17 ?_
    refine w_iconst dX11_ahead_18 ?_
    refine k_sI (as := [pI x2, pI 0, pI 4]) dX11_ahead_19 kX11_205 ⟨⟨Nat.le_of_ble_eq_true rfl, rfl, rfl⟩, Nat.le_of_ble_eq_true rfl⟩ rfl (Nat.le_of_ble_eq_true rfl) h ?_
    intro r4 M5 h
    obtain ⟨o6, h⟩ := h
    refine w_if_ne dX11_ahead_22 rfl o6 (fun c => ?_) (fun c => ?_)
    · have h := h.1 c
      refine w_aload_n dX11_ahead_27 rfl ?_
      refine k_vV (as := []) dX11_ahead_28 kX11_470 ⟨⟨Nat.le_of_ble_eq_true rfl, rfl, rfl⟩, Nat.le_of_ble_eq_true rfl⟩ rfl (by decide) rfl (Nat.le_of_ble_eq_true rfl) h ?_
      intro M8 h
      refine w_aload_n dX11_ahead_31 rfl ?_
      refine w_iload_n dX11_ahead_32 rfl ?_
      refine k_vV (as := [pI x1]) dX11_ahead_33 kX11_473 ⟨⟨Nat.le_of_ble_eq_true rfl, rfl, rfl⟩, Nat.le_of_ble_eq_true rfl⟩ rfl (by decide) rfl (Nat.le_of_ble_eq_true rfl) h ?_
      intro M10 h
      refine w_iload_n dX11_ahead_36 rfl ?_
      obtain ⟨o11, h⟩ := h
      refine w_tsw (tgs := [68, 78, 92, 106]) (td := 116) dX11_ahead_37 o11 rfl (by decide) rfl ?_ ?_
      · intro j hj hx
        match j, hj, hx with
        | 0, _, hx =>
          have h := h.1 (by simpa using hx)
          clear hx
          refine w_aload_n dX11_ahead_68 rfl ?_
          refine w_getR dX11_ahead_69 fX11_94 rfl rfl rfl ?_
          refine w_iconst dX11_ahead_72 ?_
          refine w_iald (x := (M10 125 1)) dX11_ahead_73 rfl (by decide) rfl (fun g12 => ?_)
          have h := h g12
          refine k_sI (as := [pI (M10 125 1)]) dX11_ahead_74 kX11_381 ⟨⟨Nat.le_of_ble_eq_true rfl, rfl, rfl⟩, Nat.le_of_ble_eq_true rfl⟩ rfl (Nat.le_of_ble_eq_true rfl) h ?_
          intro r13 M14 h
          exact k_iret dX11_ahead_77 rfl h
        | 1, _, hx =>
          have h := h.2.1 (by simpa using hx)
          clear hx
          refine w_aload_n dX11_ahead_78 rfl ?_
          refine w_getR dX11_ahead_79 fX11_100 rfl rfl rfl ?_
          refine w_iconst dX11_ahead_82 ?_
          refine w_iald (x := (M10 127 1)) dX11_ahead_83 rfl (by decide) rfl (fun g15 => ?_)
          have h := h g15
          refine w_aload_n dX11_ahead_84 rfl ?_
          refine w_getR dX11_ahead_85 fX11_100 rfl rfl rfl ?_
          refine w_iconst dX11_ahead_88 ?_
          refine w_iald (x := (M10 127 0)) dX11_ahead_89 rfl (by decide) rfl (fun g16 => ?_)
          have h := h g16
          refine w_isub dX11_ahead_90 ?_
          exact k_iret dX11_ahead_91 rfl h
        | 2, _, hx =>
          have h := h.2.2.1 (by simpa using hx)
          clear hx
          refine w_aload_n dX11_ahead_92 rfl ?_
          refine w_getR dX11_ahead_93 fX11_103 rfl rfl rfl ?_
          refine w_iconst dX11_ahead_96 ?_
          refine w_iald (x := (M10 128 1)) dX11_ahead_97 rfl (by decide) rfl (fun g17 => ?_)
          have h := h g17
          refine w_aload_n dX11_ahead_98 rfl ?_
          refine w_getR dX11_ahead_99 fX11_103 rfl rfl rfl ?_
          refine w_iconst dX11_ahead_102 ?_
          refine w_iald (x := (M10 128 0)) dX11_ahead_103 rfl (by decide) rfl (fun g18 => ?_)
          have h := h g18
          refine w_isub dX11_ahead_104 ?_
          exact k_iret dX11_ahead_105 rfl h
        | 3, _, hx =>
          have h := h.2.2.2.1 (by simpa using hx)
          clear hx
          refine w_aload_n dX11_ahead_106 rfl ?_
          refine w_getR dX11_ahead_107 fX11_97 rfl rfl rfl ?_
          refine w_iconst dX11_ahead_110 ?_
          refine w_iald (x := (M10 126 1)) dX11_ahead_111 rfl (by decide) rfl (fun g19 => ?_)
          have h := h g19
          refine k_sI (as := [pI (M10 126 1)]) dX11_ahead_112 kX11_381 ⟨⟨Nat.le_of_ble_eq_true rfl, rfl, rfl⟩, Nat.le_of_ble_eq_true rfl⟩ rfl (Nat.le_of_ble_eq_true rfl) h ?_
          intro r20 M21 h
          exact k_iret dX11_ahead_115 rfl h
        | _ + 4, hj, _ => exact absurd hj (by simp)
      · intro c
        have h := h.2.2.2.2 c
        refine w_aload_n dX11_ahead_116 rfl ?_
        refine w_getR dX11_ahead_117 fX11_94 rfl rfl rfl ?_
        refine w_iconst dX11_ahead_120 ?_
        refine w_iald (x := (M10 125 1)) dX11_ahead_121 rfl (by decide) rfl (fun g22 => ?_)
        have h := h g22
        exact k_iret dX11_ahead_122 rfl h
    · have h := h.2 c
      refine w_iconst dX11_ahead_25 ?_
      exact k_iret dX11_ahead_26 rfl h
theorem vX11_when_0 {E : Scr} {f : Int → Mem → Prop} {M : Mem} (x1 : Int) (h : (CI E mX11_isLatch [pR 98, pI x1] (upM M 98 2 0) (fun r1 M2 => (iR r1) ∧ ((r1 ≠ 0 → (CV E mX11_layTried [pR 98] M2 (fun M5 => (KW E mX11_when (qI f) M5 21 [(0, pR 98), (1, pI x1), (2, pI 1)] [])))) ∧ (r1 = 0 → f (-1) M2))))) : CI E mX11_when [pR 98, pI x1] M f := by
  refine (show KW E mX11_when (qI f) M 0 [(0, pR 98), (1, pI x1)] [] from ?_)
  refine w_aload_n dX11_when_0 rfl ?_
  refine w_iconst dX11_when_1 ?_
  refine w_putI dX11_when_2 (Or.inl ⟨rfl, fX11_160⟩) rfl rfl (by decide) ?_
  refine w_aload_n dX11_when_5 rfl ?_
  refine w_iload_n dX11_when_6 rfl ?_
  refine k_vI (as := [pI x1]) dX11_when_7 kX11_456 ⟨⟨Nat.le_of_ble_eq_true rfl, rfl, rfl⟩, Nat.le_of_ble_eq_true rfl⟩ rfl (by decide) rfl (Nat.le_of_ble_eq_true rfl) h ?_
  intro r1 M2 h
  obtain ⟨o3, h⟩ := h
  refine w_if_ne dX11_when_10 rfl o3 (fun c => ?_) (fun c => ?_)
  · have h := h.1 c
    refine w_aload_n dX11_when_15 rfl ?_
    refine k_vV (as := []) dX11_when_16 kX11_470 ⟨⟨Nat.le_of_ble_eq_true rfl, rfl, rfl⟩, Nat.le_of_ble_eq_true rfl⟩ rfl (by decide) rfl (Nat.le_of_ble_eq_true rfl) h ?_
    intro M5 h
    refine w_iconst dX11_when_19 ?_
    refine w_istore_n dX11_when_20 (by decide) ?_
    exact k_pick [1, 2, 0] rfl h
  · have h := h.2 c
    refine w_iconst dX11_when_13 ?_
    exact k_iret dX11_when_14 rfl h
theorem vX11_when_21 {E : Scr} {f : Int → Mem → Prop} {M : Mem} (x1 x2 : Int) (h : (iR x2) ∧ ((x2 ≥ 200 → f (-2) M) ∧ (x2 < 200 → (CV E mX11_minuteGoes [pR 98, pI 1] M (fun M3 => ((iR (M3 125 1)) → ((iR (M3 125 0)) → (CI E mX11_isOf [pI (bXor (M3 125 1) (M3 125 0)), pI x1] M3 (fun r6 M7 => (iR r6) ∧ ((r6 = 0 → (KW E mX11_when (qI f) M7 21 [(0, pR 98), (1, pI x1), (2, pI (x2 + 1))] [])) ∧ (r6 ≠ 0 → f x2 M7))))))))))) : KW E mX11_when (qI f) M 21 [(0, pR 98), (1, pI x1), (2, pI x2)] [] := by
  refine w_iload_n dX11_when_21 rfl ?_
  refine w_sipush dX11_when_22 (by decide) ?_
  obtain ⟨o1, h⟩ := h
  refine w_icmp_ge dX11_when_25 rfl ⟨o1, (by decide)⟩ (fun c => ?_) (fun c => ?_)
  · have h := h.1 c
    refine w_bipush dX11_when_61 (by decide) ?_
    exact k_iret dX11_when_63 rfl h
  · have h := h.2 c
    refine w_aload_n dX11_when_28 rfl ?_
    refine w_iconst dX11_when_29 ?_
    refine k_vV (as := [pI 1]) dX11_when_30 kX11_453 ⟨⟨Nat.le_of_ble_eq_true rfl, rfl, rfl⟩, Nat.le_of_ble_eq_true rfl⟩ rfl (by decide) rfl (Nat.le_of_ble_eq_true rfl) h ?_
    intro M3 h
    refine w_aload_n dX11_when_33 rfl ?_
    refine w_getR dX11_when_34 fX11_94 rfl rfl rfl ?_
    refine w_iconst dX11_when_37 ?_
    refine w_iald (x := (M3 125 1)) dX11_when_38 rfl (by decide) rfl (fun g4 => ?_)
    have h := h g4
    refine w_aload_n dX11_when_39 rfl ?_
    refine w_getR dX11_when_40 fX11_94 rfl rfl rfl ?_
    refine w_iconst dX11_when_43 ?_
    refine w_iald (x := (M3 125 0)) dX11_when_44 rfl (by decide) rfl (fun g5 => ?_)
    have h := h g5
    refine w_ixor dX11_when_45 ?_
    refine w_iload_n dX11_when_46 rfl ?_
    refine k_sI (as := [pI (bXor (M3 125 1) (M3 125 0)), pI x1]) dX11_when_47 kX11_372 ⟨⟨Nat.le_of_ble_eq_true rfl, rfl, rfl⟩, Nat.le_of_ble_eq_true rfl⟩ rfl (Nat.le_of_ble_eq_true rfl) h ?_
    intro r6 M7 h
    obtain ⟨o8, h⟩ := h
    refine w_if_eq dX11_when_50 rfl o8 (fun c => ?_) (fun c => ?_)
    · have h := h.1 c
      refine w_iinc dX11_when_55 rfl (by decide) ?_
      refine w_goto dX11_when_58 rfl ?_
      exact k_pick [1, 2, 0] rfl h
    · have h := h.2 c
      refine w_iload_n dX11_when_53 rfl ?_
      exact k_iret dX11_when_54 rfl h
theorem vX11_layFar_0 {E : Scr} {f : Mem → Prop} {M : Mem} (x1 x2 x3 x4 : Int) (h : (KW E mX11_layFar (qV f) M 3 [(0, pR 98), (1, pI x1), (2, pI x2), (3, pI x3), (4, pI x4), (5, pI 0)] [])) : CV E mX11_layFar [pR 98, pI x1, pI x2, pI x3, pI x4] M f := by
  refine (show KW E mX11_layFar (qV f) M 0 [(0, pR 98), (1, pI x1), (2, pI x2), (3, pI x3), (4, pI x4)] [] from ?_)
  refine w_iconst dX11_layFar_0 ?_
  refine w_istore dX11_layFar_1 (by decide) ?_
  exact k_pick [1, 2, 3, 4, 5, 0] rfl h
theorem vX11_layFar_3 {E : Scr} {f : Mem → Prop} {M : Mem} (x1 x2 x3 x4 x5 : Int) (h : (iR x5) ∧ ((x5 ≥ 256 → (0 ≤ x1 ∧ x1 < 256) ∧ (0 ≤ x1 ∧ x1 < 256) ∧ (iR x1) ∧ (KW E mX11_layFar (qV f) (upM (upM (upM (upM M 131 x1.toNat 0) 132 x1.toNat 1) 133 0 x1) 98 69 1) 54 [(0, pR 98), (2, pI x2), (3, pI x3), (4, pI x4), (5, pI 0)] [])) ∧ (x5 < 256 → (0 ≤ x5 ∧ x5 < 256) ∧ (KW E mX11_layFar (qV f) (upM M 131 x5.toNat (-1)) 3 [(0, pR 98), (1, pI x1), (2, pI x2), (3, pI x3), (4, pI x4), (5, pI (x5 + 1))] [])))) : KW E mX11_layFar (qV f) M 3 [(0, pR 98), (1, pI x1), (2, pI x2), (3, pI x3), (4, pI x4), (5, pI x5)] [] := by
  refine w_iload dX11_layFar_3 rfl ?_
  refine w_sipush dX11_layFar_5 (by decide) ?_
  obtain ⟨o1, h⟩ := h
  refine w_icmp_ge dX11_layFar_8 rfl ⟨o1, (by decide)⟩ (fun c => ?_) (fun c => ?_)
  · have h := h.1 c
    refine w_aload_n dX11_layFar_25 rfl ?_
    refine w_getR dX11_layFar_26 fX11_112 rfl rfl rfl ?_
    refine w_iload_n dX11_layFar_29 rfl ?_
    refine w_iconst dX11_layFar_30 ?_
    obtain ⟨o2, h⟩ := h
    refine w_iast dX11_layFar_31 rfl o2 (by decide) ?_
    refine w_aload_n dX11_layFar_32 rfl ?_
    refine w_getR dX11_layFar_33 fX11_115 rfl rfl rfl ?_
    refine w_iload_n dX11_layFar_36 rfl ?_
    refine w_iconst dX11_layFar_37 ?_
    obtain ⟨o3, h⟩ := h
    refine w_iast dX11_layFar_38 rfl o3 (by decide) ?_
    refine w_aload_n dX11_layFar_39 rfl ?_
    refine w_getR dX11_layFar_40 fX11_118 rfl rfl rfl ?_
    refine w_iconst dX11_layFar_43 ?_
    refine w_iload_n dX11_layFar_44 rfl ?_
    obtain ⟨o4, h⟩ := h
    refine w_iast dX11_layFar_45 rfl (by decide) o4 ?_
    refine w_aload_n dX11_layFar_46 rfl ?_
    refine w_iconst dX11_layFar_47 ?_
    refine w_putI dX11_layFar_48 (Or.inl ⟨rfl, fX11_476⟩) rfl rfl (by decide) ?_
    refine w_iconst dX11_layFar_51 ?_
    refine w_istore dX11_layFar_52 (by decide) ?_
    exact k_pick [1, 3, 4, 5, 0] rfl h
  · have h := h.2 c
    refine w_aload_n dX11_layFar_11 rfl ?_
    refine w_getR dX11_layFar_12 fX11_112 rfl rfl rfl ?_
    refine w_iload dX11_layFar_15 rfl ?_
    refine w_iconst dX11_layFar_17 ?_
    obtain ⟨o5, h⟩ := h
    refine w_iast dX11_layFar_18 rfl o5 (by decide) ?_
    refine w_iinc dX11_layFar_19 rfl (by decide) ?_
    refine w_goto dX11_layFar_22 rfl ?_
    exact k_pick [1, 2, 3, 4, 5, 0] rfl h
theorem vX11_layFar_54 {E : Scr} {f : Mem → Prop} {M : Mem} (x2 x3 x4 x5 : Int) (h : ((iR (M 98 69)) → (iR x5) ∧ ((x5 ≥ (M 98 69) → f M) ∧ (x5 < (M 98 69) → (0 ≤ x5 ∧ x5 < 256) ∧ ((iR (M 133 x5.toNat)) → (0 ≤ (M 133 x5.toNat) ∧ (M 133 x5.toNat) < 256) ∧ ((iR (M 123 ((M 133 x5.toNat).toNat))) → (KW E mX11_layFar (qV f) M 91 [(0, pR 98), (2, pI x2), (3, pI x3), (4, pI x4), (5, pI x5), (6, pI (M 133 x5.toNat)), (7, pI (bAnd (bOr (M 123 ((M 133 x5.toNat).toNat)) x4) (bXor x3 (-1)))), (8, pI 0)] []))))))) : KW E mX11_layFar (qV f) M 54 [(0, pR 98), (2, pI x2), (3, pI x3), (4, pI x4), (5, pI x5)] [] := by
  refine w_iload dX11_layFar_54 rfl ?_
  refine w_aload_n dX11_layFar_56 rfl ?_
  refine w_getI (x := (M 98 69)) dX11_layFar_57 fX11_476 rfl rfl rfl (fun g1 => ?_)
  have h := h g1
  obtain ⟨o2, h⟩ := h
  refine w_icmp_ge dX11_layFar_60 rfl ⟨o2, g1⟩ (fun c => ?_) (fun c => ?_)
  · have h := h.1 c
    exact k_vret dX11_layFar_263 rfl h
  · have h := h.2 c
    refine w_aload_n dX11_layFar_63 rfl ?_
    refine w_getR dX11_layFar_64 fX11_118 rfl rfl rfl ?_
    refine w_iload dX11_layFar_67 rfl ?_
    obtain ⟨o3, h⟩ := h
    refine w_iald (x := (M 133 x5.toNat)) dX11_layFar_69 rfl o3 rfl (fun g4 => ?_)
    have h := h g4
    refine w_istore dX11_layFar_70 (by decide) ?_
    refine w_aload_n dX11_layFar_72 rfl ?_
    refine w_getR dX11_layFar_73 fX11_88 rfl rfl rfl ?_
    refine w_iload dX11_layFar_76 rfl ?_
    obtain ⟨o5, h⟩ := h
    refine w_iald (x := (M 123 ((M 133 x5.toNat).toNat))) dX11_layFar_78 rfl o5 rfl (fun g6 => ?_)
    have h := h g6
    refine w_iload dX11_layFar_79 rfl ?_
    refine w_ior dX11_layFar_81 ?_
    refine w_iload_n dX11_layFar_82 rfl ?_
    refine w_iconst dX11_layFar_83 ?_
    refine w_ixor dX11_layFar_84 ?_
    refine w_iand dX11_layFar_85 ?_
    refine w_istore dX11_layFar_86 (by decide) ?_
    refine w_iconst dX11_layFar_88 ?_
    refine w_istore dX11_layFar_89 (by decide) ?_
    exact k_pick [3, 4, 5, 6, 7, 2, 1, 0] rfl h
theorem vX11_layFar_91 {E : Scr} {f : Mem → Prop} {M : Mem} (x2 x3 x4 x5 x6 x7 x8 : Int) (h : ((iR (M 98 12)) → (iR x8) ∧ ((x8 ≥ (M 98 12) → (KW E mX11_layFar (qV f) M 54 [(0, pR 98), (2, pI x2), (3, pI x3), (4, pI x4), (5, pI (x5 + 1))] [])) ∧ (x8 < (M 98 12) → (CI E mX11_isOf [pI x7, pI x8] M (fun r3 M4 => (iR r3) ∧ ((r3 = 0 → (KW E mX11_layFar (qV f) M4 91 [(0, pR 98), (2, pI x2), (3, pI x3), (4, pI x4), (5, pI x5), (6, pI x6), (7, pI x7), (8, pI (x8 + 1))] [])) ∧ (r3 ≠ 0 → (iR x2) ∧ (((bXor x6 (bShl 1 x8)) ≠ x2 → (0 ≤ (bXor x6 (bShl 1 x8)) ∧ (bXor x6 (bShl 1 x8)) < 256) ∧ ((iR (M4 131 ((bXor x6 (bShl 1 x8)).toNat))) → (((M4 131 ((bXor x6 (bShl 1 x8)).toNat)) ≥ 0 → (KW E mX11_layFar (qV f) M4 183 [(0, pR 98), (2, pI x2), (3, pI x3), (4, pI x4), (5, pI x5), (6, pI x6), (7, pI x7), (8, pI x8), (9, pI (bXor x6 (bShl 1 x8)))] [])) ∧ ((M4 131 ((bXor x6 (bShl 1 x8)).toNat)) < 0 → (0 ≤ x6 ∧ x6 < 256) ∧ ((iR (M4 131 x6.toNat)) → (0 ≤ (bXor x6 (bShl 1 x8)) ∧ (bXor x6 (bShl 1 x8)) < 256) ∧ (iR ((M4 131 x6.toNat) + 1)) ∧ (0 ≤ (bXor x6 (bShl 1 x8)) ∧ (bXor x6 (bShl 1 x8)) < 256) ∧ ((iR (M4 98 69)) → (0 ≤ (M4 98 69) ∧ (M4 98 69) < 256) ∧ ((iR (M4 98 69)) → (iR ((M4 98 69) + 1)) ∧ (KW E mX11_layFar (qV f) (upM (upM (upM (upM M4 131 ((bXor x6 (bShl 1 x8)).toNat) ((M4 131 x6.toNat) + 1)) 132 ((bXor x6 (bShl 1 x8)).toNat) 0) 133 ((M4 98 69).toNat) (bXor x6 (bShl 1 x8))) 98 69 ((M4 98 69) + 1)) 183 [(0, pR 98), (2, pI x2), (3, pI x3), (4, pI x4), (5, pI x5), (6, pI x6), (7, pI x7), (8, pI x8), (9, pI (bXor x6 (bShl 1 x8)))] [])))))))) ∧ ((bXor x6 (bShl 1 x8)) = x2 → (KW E mX11_layFar (qV f) M4 91 [(0, pR 98), (2, pI x2), (3, pI x3), (4, pI x4), (5, pI x5), (6, pI x6), (7, pI x7), (8, pI (x8 + 1))] []))))))))))) : KW E mX11_layFar (qV f) M 91 [(0, pR 98), (2, pI x2), (3, pI x3), (4, pI x4), (5, pI x5), (6, pI x6), (7, pI x7), (8, pI x8)] [] := by
  refine w_iload dX11_layFar_91 rfl ?_
  refine w_aload_n dX11_layFar_93 rfl ?_
  refine w_getI (x := (M 98 12)) dX11_layFar_94 fX11_240 rfl rfl rfl (fun g1 => ?_)
  have h := h g1
  obtain ⟨o2, h⟩ := h
  refine w_icmp_ge dX11_layFar_97 rfl ⟨o2, g1⟩ (fun c => ?_) (fun c => ?_)
  · have h := h.1 c
    refine w_iinc dX11_layFar_257 rfl (by decide) ?_
    refine w_goto dX11_layFar_260 rfl ?_
    exact k_pick [1, 2, 3, 4, 0] rfl h
  · have h := h.2 c
    refine w_iload dX11_layFar_100 rfl ?_
    refine w_iconst dX11_layFar_102 ?_
    refine w_iload dX11_layFar_103 rfl ?_
    refine w_ishl dX11_layFar_105 ?_
    refine w_ixor dX11_layFar_106 ?_
    refine w_istore dX11_layFar_107 (by decide) ?_
    refine w_iload dX11_layFar_109 rfl ?_
    refine w_iload dX11_layFar_111 rfl ?_
    refine k_sI (as := [pI x7, pI x8]) dX11_layFar_113 kX11_372 ⟨⟨Nat.le_of_ble_eq_true rfl, rfl, rfl⟩, Nat.le_of_ble_eq_true rfl⟩ rfl (Nat.le_of_ble_eq_true rfl) h ?_
    intro r3 M4 h
    obtain ⟨o5, h⟩ := h
    refine w_if_eq dX11_layFar_116 rfl o5 (fun c => ?_) (fun c => ?_)
    · have h := h.1 c
      refine w_iinc dX11_layFar_251 rfl (by decide) ?_
      refine w_goto dX11_layFar_254 rfl ?_
      exact k_pick [2, 3, 4, 5, 6, 7, 8, 0] rfl h
    · have h := h.2 c
      refine w_iload dX11_layFar_119 rfl ?_
      refine w_iload_n dX11_layFar_121 rfl ?_
      obtain ⟨o6, h⟩ := h
      refine w_icmp_ne dX11_layFar_122 rfl ⟨(bXor_r _ _), o6⟩ (fun c => ?_) (fun c => ?_)
      · have h := h.1 c
        refine w_aload_n dX11_layFar_128 rfl ?_
        refine w_getR dX11_layFar_129 fX11_112 rfl rfl rfl ?_
        refine w_iload dX11_layFar_132 rfl ?_
        obtain ⟨o7, h⟩ := h
        refine w_iald (x := (M4 131 ((bXor x6 (bShl 1 x8)).toNat))) dX11_layFar_134 rfl o7 rfl (fun g8 => ?_)
        have h := h g8
        refine w_if_ge dX11_layFar_135 rfl g8 (fun c => ?_) (fun c => ?_)
        · have h := h.1 c
          exact k_pick [1, 2, 3, 4, 5, 6, 7, 8, 0] rfl h
        · have h := h.2 c
          refine w_aload_n dX11_layFar_138 rfl ?_
          refine w_getR dX11_layFar_139 fX11_112 rfl rfl rfl ?_
          refine w_iload dX11_layFar_142 rfl ?_
          refine w_aload_n dX11_layFar_144 rfl ?_
          refine w_getR dX11_layFar_145 fX11_112 rfl rfl rfl ?_
          refine w_iload dX11_layFar_148 rfl ?_
          obtain ⟨o9, h⟩ := h
          refine w_iald (x := (M4 131 x6.toNat)) dX11_layFar_150 rfl o9 rfl (fun g10 => ?_)
          have h := h g10
          refine w_iconst dX11_layFar_151 ?_
          refine w_iadd dX11_layFar_152 ?_
          obtain ⟨o11, h⟩ := h
          obtain ⟨o12, h⟩ := h
          refine w_iast dX11_layFar_153 rfl o11 o12 ?_
          refine w_aload_n dX11_layFar_154 rfl ?_
          refine w_getR dX11_layFar_155 fX11_115 rfl rfl rfl ?_
          refine w_iload dX11_layFar_158 rfl ?_
          refine w_iconst dX11_layFar_160 ?_
          obtain ⟨o13, h⟩ := h
          refine w_iast dX11_layFar_161 rfl o13 (by decide) ?_
          refine w_aload_n dX11_layFar_162 rfl ?_
          refine w_getR dX11_layFar_163 fX11_118 rfl rfl rfl ?_
          refine w_aload_n dX11_layFar_166 rfl ?_
          refine w_getI (x := (M4 98 69)) dX11_layFar_167 fX11_476 rfl rfl rfl (fun g14 => ?_)
          have h := h g14
          refine w_iload dX11_layFar_170 rfl ?_
          obtain ⟨o15, h⟩ := h
          refine w_iast dX11_layFar_172 rfl o15 (bXor_r _ _) ?_
          refine w_aload_n dX11_layFar_173 rfl ?_
          refine w_dup dX11_layFar_174 rfl ?_
          refine w_getI (x := (M4 98 69)) dX11_layFar_175 fX11_476 rfl rfl rfl (fun g16 => ?_)
          have h := h g16
          refine w_iconst dX11_layFar_178 ?_
          refine w_iadd dX11_layFar_179 ?_
          obtain ⟨o17, h⟩ := h
          refine w_putI dX11_layFar_180 (Or.inl ⟨rfl, fX11_476⟩) rfl rfl o17 ?_
          exact k_pick [1, 2, 3, 4, 5, 6, 7, 8, 0] rfl h
      · have h := h.2 c
        refine w_goto dX11_layFar_125 rfl ?_
        refine w_iinc dX11_layFar_251 rfl (by decide) ?_
        refine w_goto dX11_layFar_254 rfl ?_
        exact k_pick [2, 3, 4, 5, 6, 7, 8, 0] rfl h
theorem vX11_layFar_183 {E : Scr} {f : Mem → Prop} {M : Mem} (x2 x3 x4 x5 x6 x7 x8 x9 : Int) (h : (0 ≤ x9 ∧ x9 < 256) ∧ ((iR (M 131 x9.toNat)) → (0 ≤ x6 ∧ x6 < 256) ∧ ((iR (M 131 x6.toNat)) → (iR ((M 131 x6.toNat) + 1)) ∧ (((M 131 x9.toNat) ≠ ((M 131 x6.toNat) + 1) → (KW E mX11_layFar (qV f) M 91 [(0, pR 98), (2, pI x2), (3, pI x3), (4, pI x4), (5, pI x5), (6, pI x6), (7, pI x7), (8, pI (x8 + 1))] [])) ∧ ((M 131 x9.toNat) = ((M 131 x6.toNat) + 1) → (0 ≤ x9 ∧ x9 < 256) ∧ ((iR (M 132 x9.toNat)) → (0 ≤ x6 ∧ x6 < 256) ∧ ((iR (M 132 x6.toNat)) → (iR ((M 132 x9.toNat) + (M 132 x6.toNat))) ∧ ((((M 132 x9.toNat) + (M 132 x6.toNat)) ≥ 1000000000 → (0 ≤ x9 ∧ x9 < 256) ∧ (KW E mX11_layFar (qV f) (upM M 132 x9.toNat 1000000000) 91 [(0, pR 98), (2, pI x2), (3, pI x3), (4, pI x4), (5, pI x5), (6, pI x6), (7, pI x7), (8, pI (x8 + 1))] [])) ∧ (((M 132 x9.toNat) + (M 132 x6.toNat)) < 1000000000 → (0 ≤ x9 ∧ x9 < 256) ∧ ((iR (M 132 x9.toNat)) → (0 ≤ x6 ∧ x6 < 256) ∧ ((iR (M 132 x6.toNat)) → (0 ≤ x9 ∧ x9 < 256) ∧ (iR ((M 132 x9.toNat) + (M 132 x6.toNat))) ∧ (KW E mX11_layFar (qV f) (upM M 132 x9.toNat ((M 132 x9.toNat) + (M 132 x6.toNat))) 91 [(0, pR 98), (2, pI x2), (3, pI x3), (4, pI x4), (5, pI x5), (6, pI x6), (7, pI x7), (8, pI (x8 + 1))] [])))))))))))) : KW E mX11_layFar (qV f) M 183 [(0, pR 98), (2, pI x2), (3, pI x3), (4, pI x4), (5, pI x5), (6, pI x6), (7, pI x7), (8, pI x8), (9, pI x9)] [] := by
  refine w_aload_n dX11_layFar_183 rfl ?_
  refine w_getR dX11_layFar_184 fX11_112 rfl rfl rfl ?_
  refine w_iload dX11_layFar_187 rfl ?_
  obtain ⟨o1, h⟩ := h
  refine w_iald (x := (M 131 x9.toNat)) dX11_layFar_189 rfl o1 rfl (fun g2 => ?_)
  have h := h g2
  refine w_aload_n dX11_layFar_190 rfl ?_
  refine w_getR dX11_layFar_191 fX11_112 rfl rfl rfl ?_
  refine w_iload dX11_layFar_194 rfl ?_
  obtain ⟨o3, h⟩ := h
  refine w_iald (x := (M 131 x6.toNat)) dX11_layFar_196 rfl o3 rfl (fun g4 => ?_)
  have h := h g4
  refine w_iconst dX11_layFar_197 ?_
  refine w_iadd dX11_layFar_198 ?_
  obtain ⟨o5, h⟩ := h
  refine w_icmp_ne dX11_layFar_199 rfl ⟨g2, o5⟩ (fun c => ?_) (fun c => ?_)
  · have h := h.1 c
    refine w_iinc dX11_layFar_251 rfl (by decide) ?_
    refine w_goto dX11_layFar_254 rfl ?_
    exact k_pick [1, 2, 3, 4, 5, 6, 7, 0] rfl h
  · have h := h.2 c
    refine w_aload_n dX11_layFar_202 rfl ?_
    refine w_getR dX11_layFar_203 fX11_115 rfl rfl rfl ?_
    refine w_iload dX11_layFar_206 rfl ?_
    refine w_aload_n dX11_layFar_208 rfl ?_
    refine w_getR dX11_layFar_209 fX11_115 rfl rfl rfl ?_
    refine w_iload dX11_layFar_212 rfl ?_
    obtain ⟨o6, h⟩ := h
    refine w_iald (x := (M 132 x9.toNat)) dX11_layFar_214 rfl o6 rfl (fun g7 => ?_)
    have h := h g7
    refine w_aload_n dX11_layFar_215 rfl ?_
    refine w_getR dX11_layFar_216 fX11_115 rfl rfl rfl ?_
    refine w_iload dX11_layFar_219 rfl ?_
    obtain ⟨o8, h⟩ := h
    refine w_iald (x := (M 132 x6.toNat)) dX11_layFar_221 rfl o8 rfl (fun g9 => ?_)
    have h := h g9
    refine w_iadd dX11_layFar_222 ?_
    refine w_ldcw dX11_layFar_223 qX11_479 ?_
    obtain ⟨o10, h⟩ := h
    refine w_icmp_ge dX11_layFar_226 rfl ⟨o10, (by decide)⟩ (fun c => ?_) (fun c => ?_)
    · have h := h.1 c
      refine w_ldcw dX11_layFar_247 qX11_479 ?_
      obtain ⟨o11, h⟩ := h
      refine w_iast dX11_layFar_250 rfl o11 (by decide) ?_
      refine w_iinc dX11_layFar_251 rfl (by decide) ?_
      refine w_goto dX11_layFar_254 rfl ?_
      exact k_pick [1, 2, 3, 4, 5, 6, 7, 0] rfl h
    · have h := h.2 c
      refine w_aload_n dX11_layFar_229 rfl ?_
      refine w_getR dX11_layFar_230 fX11_115 rfl rfl rfl ?_
      refine w_iload dX11_layFar_233 rfl ?_
      obtain ⟨o12, h⟩ := h
      refine w_iald (x := (M 132 x9.toNat)) dX11_layFar_235 rfl o12 rfl (fun g13 => ?_)
      have h := h g13
      refine w_aload_n dX11_layFar_236 rfl ?_
      refine w_getR dX11_layFar_237 fX11_115 rfl rfl rfl ?_
      refine w_iload dX11_layFar_240 rfl ?_
      obtain ⟨o14, h⟩ := h
      refine w_iald (x := (M 132 x6.toNat)) dX11_layFar_242 rfl o14 rfl (fun g15 => ?_)
      have h := h g15
      refine w_iadd dX11_layFar_243 ?_
      refine w_goto dX11_layFar_244 rfl ?_
      obtain ⟨o16, h⟩ := h
      obtain ⟨o17, h⟩ := h
      refine w_iast dX11_layFar_250 rfl o16 o17 ?_
      refine w_iinc dX11_layFar_251 rfl (by decide) ?_
      refine w_goto dX11_layFar_254 rfl ?_
      exact k_pick [1, 2, 3, 4, 5, 6, 7, 0] rfl h
theorem vX11_layNow_0 {E : Scr} {f : Mem → Prop} {M : Mem} (h : ((iR (M 125 0)) → ((iR (M 126 0)) → (CV E mX11_layFar [pR 98, pI (M 125 0), pI (-1), pI (M 126 0), pI 0] M (fun M4 => f M4))))) : CV E mX11_layNow [pR 98] M f := by
  refine (show KW E mX11_layNow (qV f) M 0 [(0, pR 98)] [] from ?_)
  refine w_aload_n dX11_layNow_0 rfl ?_
  refine w_aload_n dX11_layNow_1 rfl ?_
  refine w_getR dX11_layNow_2 fX11_94 rfl rfl rfl ?_
  refine w_iconst dX11_layNow_5 ?_
  refine w_iald (x := (M 125 0)) dX11_layNow_6 rfl (by decide) rfl (fun g1 => ?_)
  have h := h g1
  refine w_iconst dX11_layNow_7 ?_
  refine w_aload_n dX11_layNow_8 rfl ?_
  refine w_getR dX11_layNow_9 fX11_97 rfl rfl rfl ?_
  refine w_iconst dX11_layNow_12 ?_
  refine w_iald (x := (M 126 0)) dX11_layNow_13 rfl (by decide) rfl (fun g2 => ?_)
  have h := h g2
  refine w_iconst dX11_layNow_14 ?_
  refine k_vV (as := [pI (M 125 0), pI (-1), pI (M 126 0), pI 0]) dX11_layNow_15 kX11_480 ⟨⟨Nat.le_of_ble_eq_true rfl, rfl, rfl⟩, Nat.le_of_ble_eq_true rfl⟩ rfl (by decide) rfl (Nat.le_of_ble_eq_true rfl) h ?_
  intro M4 h
  exact k_vret dX11_layNow_18 rfl h
theorem vX11_fewest_0 {E : Scr} {f : Int → Mem → Prop} {M : Mem} (x1 : Int) (h : (CI E mX11_isRow [pR 98, pI x1] (upM M 98 2 0) (fun r1 M2 => (iR r1) ∧ ((r1 ≠ 0 → (CV E mX11_layNow [pR 98] M2 (fun M5 => (0 ≤ x1 ∧ x1 < 256) ∧ ((iR (M5 131 x1.toNat)) → (((M5 131 x1.toNat) ≥ 0 → (0 ≤ x1 ∧ x1 < 256) ∧ ((iR (M5 131 x1.toNat)) → f (M5 131 x1.toNat) M5)) ∧ ((M5 131 x1.toNat) < 0 → f (-2) M5)))))) ∧ (r1 = 0 → f (-1) M2))))) : CI E mX11_fewest [pR 98, pI x1] M f := by
  refine (show KW E mX11_fewest (qI f) M 0 [(0, pR 98), (1, pI x1)] [] from ?_)
  refine w_aload_n dX11_fewest_0 rfl ?_
  refine w_iconst dX11_fewest_1 ?_
  refine w_putI dX11_fewest_2 (Or.inl ⟨rfl, fX11_160⟩) rfl rfl (by decide) ?_
  refine w_aload_n dX11_fewest_5 rfl ?_
  refine w_iload_n dX11_fewest_6 rfl ?_
  refine k_vI (as := [pI x1]) dX11_fewest_7 kX11_462 ⟨⟨Nat.le_of_ble_eq_true rfl, rfl, rfl⟩, Nat.le_of_ble_eq_true rfl⟩ rfl (by decide) rfl (Nat.le_of_ble_eq_true rfl) h ?_
  intro r1 M2 h
  obtain ⟨o3, h⟩ := h
  refine w_if_ne dX11_fewest_10 rfl o3 (fun c => ?_) (fun c => ?_)
  · have h := h.1 c
    refine w_aload_n dX11_fewest_15 rfl ?_
    refine k_vV (as := []) dX11_fewest_16 kX11_484 ⟨⟨Nat.le_of_ble_eq_true rfl, rfl, rfl⟩, Nat.le_of_ble_eq_true rfl⟩ rfl (by decide) rfl (Nat.le_of_ble_eq_true rfl) h ?_
    intro M5 h
    refine w_aload_n dX11_fewest_19 rfl ?_
    refine w_getR dX11_fewest_20 fX11_112 rfl rfl rfl ?_
    refine w_iload_n dX11_fewest_23 rfl ?_
    obtain ⟨o6, h⟩ := h
    refine w_iald (x := (M5 131 x1.toNat)) dX11_fewest_24 rfl o6 rfl (fun g7 => ?_)
    have h := h g7
    refine w_if_ge dX11_fewest_25 rfl g7 (fun c => ?_) (fun c => ?_)
    · have h := h.1 c
      refine w_aload_n dX11_fewest_33 rfl ?_
      refine w_getR dX11_fewest_34 fX11_112 rfl rfl rfl ?_
      refine w_iload_n dX11_fewest_37 rfl ?_
      obtain ⟨o8, h⟩ := h
      refine w_iald (x := (M5 131 x1.toNat)) dX11_fewest_38 rfl o8 rfl (fun g9 => ?_)
      have h := h g9
      exact k_iret dX11_fewest_39 rfl h
    · have h := h.2 c
      refine w_bipush dX11_fewest_28 (by decide) ?_
      refine w_goto dX11_fewest_30 rfl ?_
      exact k_iret dX11_fewest_39 rfl h
  · have h := h.2 c
    refine w_iconst dX11_fewest_13 ?_
    exact k_iret dX11_fewest_14 rfl h
theorem vX11_first_0 {E : Scr} {f : Int → Mem → Prop} {M : Mem} (x1 : Int) (h : (CI E mX11_isRow [pR 98, pI x1] (upM M 98 2 0) (fun r1 M2 => (iR r1) ∧ ((r1 ≠ 0 → ((iR (M2 126 0)) → (CV E mX11_layFar [pR 98, pI x1, pI (-1), pI (M2 126 0), pI 0] M2 (fun M6 => ((iR (M6 125 0)) → (0 ≤ (M6 125 0) ∧ (M6 125 0) < 256) ∧ ((iR (M6 131 ((M6 125 0).toNat))) → ((iR (M6 125 0)) → (0 ≤ (M6 125 0) ∧ (M6 125 0) < 256) ∧ ((iR (M6 123 ((M6 125 0).toNat))) → ((iR (M6 126 0)) → (KW E mX11_first (qI f) M6 64 [(0, pR 98), (2, pI (M6 131 ((M6 125 0).toNat))), (3, pI (bAnd (M6 123 ((M6 125 0).toNat)) (bXor (M6 126 0) (-1)))), (4, pI 0)] [])))))))))) ∧ (r1 = 0 → f (-1) M2))))) : CI E mX11_first [pR 98, pI x1] M f := by
  refine (show KW E mX11_first (qI f) M 0 [(0, pR 98), (1, pI x1)] [] from ?_)
  refine w_aload_n dX11_first_0 rfl ?_
  refine w_iconst dX11_first_1 ?_
  refine w_putI dX11_first_2 (Or.inl ⟨rfl, fX11_160⟩) rfl rfl (by decide) ?_
  refine w_aload_n dX11_first_5 rfl ?_
  refine w_iload_n dX11_first_6 rfl ?_
  refine k_vI (as := [pI x1]) dX11_first_7 kX11_462 ⟨⟨Nat.le_of_ble_eq_true rfl, rfl, rfl⟩, Nat.le_of_ble_eq_true rfl⟩ rfl (by decide) rfl (Nat.le_of_ble_eq_true rfl) h ?_
  intro r1 M2 h
  obtain ⟨o3, h⟩ := h
  refine w_if_ne dX11_first_10 rfl o3 (fun c => ?_) (fun c => ?_)
  · have h := h.1 c
    refine w_aload_n dX11_first_15 rfl ?_
    refine w_iload_n dX11_first_16 rfl ?_
    refine w_iconst dX11_first_17 ?_
    refine w_aload_n dX11_first_18 rfl ?_
    refine w_getR dX11_first_19 fX11_97 rfl rfl rfl ?_
    refine w_iconst dX11_first_22 ?_
    refine w_iald (x := (M2 126 0)) dX11_first_23 rfl (by decide) rfl (fun g4 => ?_)
    have h := h g4
    refine w_iconst dX11_first_24 ?_
    refine k_vV (as := [pI x1, pI (-1), pI (M2 126 0), pI 0]) dX11_first_25 kX11_480 ⟨⟨Nat.le_of_ble_eq_true rfl, rfl, rfl⟩, Nat.le_of_ble_eq_true rfl⟩ rfl (by decide) rfl (Nat.le_of_ble_eq_true rfl) h ?_
    intro M6 h
    refine w_aload_n dX11_first_28 rfl ?_
    refine w_getR dX11_first_29 fX11_112 rfl rfl rfl ?_
    refine w_aload_n dX11_first_32 rfl ?_
    refine w_getR dX11_first_33 fX11_94 rfl rfl rfl ?_
    refine w_iconst dX11_first_36 ?_
    refine w_iald (x := (M6 125 0)) dX11_first_37 rfl (by decide) rfl (fun g7 => ?_)
    have h := h g7
    obtain ⟨o8, h⟩ := h
    refine w_iald (x := (M6 131 ((M6 125 0).toNat))) dX11_first_38 rfl o8 rfl (fun g9 => ?_)
    have h := h g9
    refine w_istore_n dX11_first_39 (by decide) ?_
    refine w_aload_n dX11_first_40 rfl ?_
    refine w_getR dX11_first_41 fX11_88 rfl rfl rfl ?_
    refine w_aload_n dX11_first_44 rfl ?_
    refine w_getR dX11_first_45 fX11_94 rfl rfl rfl ?_
    refine w_iconst dX11_first_48 ?_
    refine w_iald (x := (M6 125 0)) dX11_first_49 rfl (by decide) rfl (fun g10 => ?_)
    have h := h g10
    obtain ⟨o11, h⟩ := h
    refine w_iald (x := (M6 123 ((M6 125 0).toNat))) dX11_first_50 rfl o11 rfl (fun g12 => ?_)
    have h := h g12
    refine w_aload_n dX11_first_51 rfl ?_
    refine w_getR dX11_first_52 fX11_97 rfl rfl rfl ?_
    refine w_iconst dX11_first_55 ?_
    refine w_iald (x := (M6 126 0)) dX11_first_56 rfl (by decide) rfl (fun g13 => ?_)
    have h := h g13
    refine w_iconst dX11_first_57 ?_
    refine w_ixor dX11_first_58 ?_
    refine w_iand dX11_first_59 ?_
    refine w_istore_n dX11_first_60 (by decide) ?_
    refine w_iconst dX11_first_61 ?_
    refine w_istore dX11_first_62 (by decide) ?_
    exact k_pick [3, 2, 1, 0] rfl h
  · have h := h.2 c
    refine w_iconst dX11_first_13 ?_
    exact k_iret dX11_first_14 rfl h
theorem vX11_first_64 {E : Scr} {f : Int → Mem → Prop} {M : Mem} (x2 x3 x4 : Int) (h : ((iR (M 98 12)) → (iR x4) ∧ ((x4 ≥ (M 98 12) → f (-2) M) ∧ (x4 < (M 98 12) → (iR x2) ∧ ((x2 ≤ 0 → f (-2) M) ∧ (x2 > 0 → (CI E mX11_isOf [pI x3, pI x4] M (fun r4 M5 => (iR r4) ∧ ((r4 = 0 → (KW E mX11_first (qI f) M5 64 [(0, pR 98), (2, pI x2), (3, pI x3), (4, pI (x4 + 1))] [])) ∧ (r4 ≠ 0 → ((iR (M5 125 0)) → (0 ≤ (bXor (M5 125 0) (bShl 1 x4)) ∧ (bXor (M5 125 0) (bShl 1 x4)) < 256) ∧ ((iR (M5 131 ((bXor (M5 125 0) (bShl 1 x4)).toNat))) → (iR (x2 - 1)) ∧ (((M5 131 ((bXor (M5 125 0) (bShl 1 x4)).toNat)) ≠ (x2 - 1) → (KW E mX11_first (qI f) M5 64 [(0, pR 98), (2, pI x2), (3, pI x3), (4, pI (x4 + 1))] [])) ∧ ((M5 131 ((bXor (M5 125 0) (bShl 1 x4)).toNat)) = (x2 - 1) → f x4 M5)))))))))))))) : KW E mX11_first (qI f) M 64 [(0, pR 98), (2, pI x2), (3, pI x3), (4, pI x4)] [] := by
  refine w_iload dX11_first_64 rfl ?_
  refine w_aload_n dX11_first_66 rfl ?_
  refine w_getI (x := (M 98 12)) dX11_first_67 fX11_240 rfl rfl rfl (fun g1 => ?_)
  have h := h g1
  obtain ⟨o2, h⟩ := h
  refine w_icmp_ge dX11_first_70 rfl ⟨o2, g1⟩ (fun c => ?_) (fun c => ?_)
  · have h := h.1 c
    refine w_bipush dX11_first_117 (by decide) ?_
    exact k_iret dX11_first_119 rfl h
  · have h := h.2 c
    refine w_iload_n dX11_first_73 rfl ?_
    obtain ⟨o3, h⟩ := h
    refine w_if_le dX11_first_74 rfl o3 (fun c => ?_) (fun c => ?_)
    · have h := h.1 c
      refine w_bipush dX11_first_117 (by decide) ?_
      exact k_iret dX11_first_119 rfl h
    · have h := h.2 c
      refine w_iload_n dX11_first_77 rfl ?_
      refine w_iload dX11_first_78 rfl ?_
      refine k_sI (as := [pI x3, pI x4]) dX11_first_80 kX11_372 ⟨⟨Nat.le_of_ble_eq_true rfl, rfl, rfl⟩, Nat.le_of_ble_eq_true rfl⟩ rfl (Nat.le_of_ble_eq_true rfl) h ?_
      intro r4 M5 h
      obtain ⟨o6, h⟩ := h
      refine w_if_eq dX11_first_83 rfl o6 (fun c => ?_) (fun c => ?_)
      · have h := h.1 c
        refine w_iinc dX11_first_111 rfl (by decide) ?_
        refine w_goto dX11_first_114 rfl ?_
        exact k_pick [1, 2, 3, 0] rfl h
      · have h := h.2 c
        refine w_aload_n dX11_first_86 rfl ?_
        refine w_getR dX11_first_87 fX11_112 rfl rfl rfl ?_
        refine w_aload_n dX11_first_90 rfl ?_
        refine w_getR dX11_first_91 fX11_94 rfl rfl rfl ?_
        refine w_iconst dX11_first_94 ?_
        refine w_iald (x := (M5 125 0)) dX11_first_95 rfl (by decide) rfl (fun g7 => ?_)
        have h := h g7
        refine w_iconst dX11_first_96 ?_
        refine w_iload dX11_first_97 rfl ?_
        refine w_ishl dX11_first_99 ?_
        refine w_ixor dX11_first_100 ?_
        obtain ⟨o8, h⟩ := h
        refine w_iald (x := (M5 131 ((bXor (M5 125 0) (bShl 1 x4)).toNat))) dX11_first_101 rfl o8 rfl (fun g9 => ?_)
        have h := h g9
        refine w_iload_n dX11_first_102 rfl ?_
        refine w_iconst dX11_first_103 ?_
        refine w_isub dX11_first_104 ?_
        obtain ⟨o10, h⟩ := h
        refine w_icmp_ne dX11_first_105 rfl ⟨g9, o10⟩ (fun c => ?_) (fun c => ?_)
        · have h := h.1 c
          refine w_iinc dX11_first_111 rfl (by decide) ?_
          refine w_goto dX11_first_114 rfl ?_
          exact k_pick [1, 2, 3, 0] rfl h
        · have h := h.2 c
          refine w_iload dX11_first_108 rfl ?_
          exact k_iret dX11_first_110 rfl h
theorem vX11_ways_0 {E : Scr} {f : Int → Mem → Prop} {M : Mem} (x1 : Int) (h : (CI E mX11_isRow [pR 98, pI x1] (upM M 98 2 0) (fun r1 M2 => (iR r1) ∧ ((r1 ≠ 0 → (CV E mX11_layNow [pR 98] M2 (fun M5 => (0 ≤ x1 ∧ x1 < 256) ∧ ((iR (M5 131 x1.toNat)) → (((M5 131 x1.toNat) ≥ 0 → (0 ≤ x1 ∧ x1 < 256) ∧ ((iR (M5 132 x1.toNat)) → f (M5 132 x1.toNat) M5)) ∧ ((M5 131 x1.toNat) < 0 → f 0 M5)))))) ∧ (r1 = 0 → f (-1) M2))))) : CI E mX11_ways [pR 98, pI x1] M f := by
  refine (show KW E mX11_ways (qI f) M 0 [(0, pR 98), (1, pI x1)] [] from ?_)
  refine w_aload_n dX11_ways_0 rfl ?_
  refine w_iconst dX11_ways_1 ?_
  refine w_putI dX11_ways_2 (Or.inl ⟨rfl, fX11_160⟩) rfl rfl (by decide) ?_
  refine w_aload_n dX11_ways_5 rfl ?_
  refine w_iload_n dX11_ways_6 rfl ?_
  refine k_vI (as := [pI x1]) dX11_ways_7 kX11_462 ⟨⟨Nat.le_of_ble_eq_true rfl, rfl, rfl⟩, Nat.le_of_ble_eq_true rfl⟩ rfl (by decide) rfl (Nat.le_of_ble_eq_true rfl) h ?_
  intro r1 M2 h
  obtain ⟨o3, h⟩ := h
  refine w_if_ne dX11_ways_10 rfl o3 (fun c => ?_) (fun c => ?_)
  · have h := h.1 c
    refine w_aload_n dX11_ways_15 rfl ?_
    refine k_vV (as := []) dX11_ways_16 kX11_484 ⟨⟨Nat.le_of_ble_eq_true rfl, rfl, rfl⟩, Nat.le_of_ble_eq_true rfl⟩ rfl (by decide) rfl (Nat.le_of_ble_eq_true rfl) h ?_
    intro M5 h
    refine w_aload_n dX11_ways_19 rfl ?_
    refine w_getR dX11_ways_20 fX11_112 rfl rfl rfl ?_
    refine w_iload_n dX11_ways_23 rfl ?_
    obtain ⟨o6, h⟩ := h
    refine w_iald (x := (M5 131 x1.toNat)) dX11_ways_24 rfl o6 rfl (fun g7 => ?_)
    have h := h g7
    refine w_if_ge dX11_ways_25 rfl g7 (fun c => ?_) (fun c => ?_)
    · have h := h.1 c
      refine w_aload_n dX11_ways_32 rfl ?_
      refine w_getR dX11_ways_33 fX11_115 rfl rfl rfl ?_
      refine w_iload_n dX11_ways_36 rfl ?_
      obtain ⟨o8, h⟩ := h
      refine w_iald (x := (M5 132 x1.toNat)) dX11_ways_37 rfl o8 rfl (fun g9 => ?_)
      have h := h g9
      exact k_iret dX11_ways_38 rfl h
    · have h := h.2 c
      refine w_iconst dX11_ways_28 ?_
      refine w_goto dX11_ways_29 rfl ?_
      exact k_iret dX11_ways_38 rfl h
  · have h := h.2 c
    refine w_iconst dX11_ways_13 ?_
    exact k_iret dX11_ways_14 rfl h
theorem vX11_reach_0 {E : Scr} {f : Int → Mem → Prop} {M : Mem} (h : (CV E mX11_layNow [pR 98] (upM M 98 2 0) (fun M2 => ((iR (M2 98 69)) → f (M2 98 69) M2)))) : CI E mX11_reach [pR 98] M f := by
  refine (show KW E mX11_reach (qI f) M 0 [(0, pR 98)] [] from ?_)
  refine w_aload_n dX11_reach_0 rfl ?_
  refine w_iconst dX11_reach_1 ?_
  refine w_putI dX11_reach_2 (Or.inl ⟨rfl, fX11_160⟩) rfl rfl (by decide) ?_
  refine w_aload_n dX11_reach_5 rfl ?_
  refine k_vV (as := []) dX11_reach_6 kX11_484 ⟨⟨Nat.le_of_ble_eq_true rfl, rfl, rfl⟩, Nat.le_of_ble_eq_true rfl⟩ rfl (by decide) rfl (Nat.le_of_ble_eq_true rfl) h ?_
  intro M2 h
  refine w_aload_n dX11_reach_9 rfl ?_
  refine w_getI (x := (M2 98 69)) dX11_reach_10 fX11_476 rfl rfl rfl (fun g3 => ?_)
  have h := h g3
  exact k_iret dX11_reach_13 rfl h
theorem vX11_farthest_0 {E : Scr} {f : Int → Mem → Prop} {M : Mem} (x1 : Int) (h : (CI E mX11_isIn [pI x1, pI 0, pI 1] (upM M 98 2 0) (fun r1 M2 => (iR r1) ∧ ((r1 ≠ 0 → (CV E mX11_layNow [pR 98] M2 (fun M5 => ((iR (M5 98 69)) → (0 ≤ ((M5 98 69) - 1) ∧ ((M5 98 69) - 1) < 256) ∧ ((iR (M5 133 (((M5 98 69) - 1).toNat))) → (0 ≤ (M5 133 (((M5 98 69) - 1).toNat)) ∧ (M5 133 (((M5 98 69) - 1).toNat)) < 256) ∧ ((iR (M5 131 ((M5 133 (((M5 98 69) - 1).toNat)).toNat))) → (KW E mX11_farthest (qI f) M5 39 [(0, pR 98), (1, pI x1), (2, pI (M5 131 ((M5 133 (((M5 98 69) - 1).toNat)).toNat))), (3, pI 0)] []))))))) ∧ (r1 = 0 → f (-1) M2))))) : CI E mX11_farthest [pR 98, pI x1] M f := by
  refine (show KW E mX11_farthest (qI f) M 0 [(0, pR 98), (1, pI x1)] [] from ?_)
  refine w_aload_n dX11_farthest_0 rfl ?_
  refine w_iconst dX11_farthest_1 ?_
  refine w_putI dX11_farthest_2 (Or.inl ⟨rfl, fX11_160⟩) rfl rfl (by decide) ?_
  refine w_iload_n dX11_farthest_5 rfl ?_
  refine w_iconst dX11_farthest_6 ?_
  refine w_iconst dX11_farthest_7 ?_
  refine k_sI (as := [pI x1, pI 0, pI 1]) dX11_farthest_8 kX11_205 ⟨⟨Nat.le_of_ble_eq_true rfl, rfl, rfl⟩, Nat.le_of_ble_eq_true rfl⟩ rfl (Nat.le_of_ble_eq_true rfl) h ?_
  intro r1 M2 h
  obtain ⟨o3, h⟩ := h
  refine w_if_ne dX11_farthest_11 rfl o3 (fun c => ?_) (fun c => ?_)
  · have h := h.1 c
    refine w_aload_n dX11_farthest_16 rfl ?_
    refine k_vV (as := []) dX11_farthest_17 kX11_484 ⟨⟨Nat.le_of_ble_eq_true rfl, rfl, rfl⟩, Nat.le_of_ble_eq_true rfl⟩ rfl (by decide) rfl (Nat.le_of_ble_eq_true rfl) h ?_
    intro M5 h
    refine w_aload_n dX11_farthest_20 rfl ?_
    refine w_getR dX11_farthest_21 fX11_112 rfl rfl rfl ?_
    refine w_aload_n dX11_farthest_24 rfl ?_
    refine w_getR dX11_farthest_25 fX11_118 rfl rfl rfl ?_
    refine w_aload_n dX11_farthest_28 rfl ?_
    refine w_getI (x := (M5 98 69)) dX11_farthest_29 fX11_476 rfl rfl rfl (fun g6 => ?_)
    have h := h g6
    refine w_iconst dX11_farthest_32 ?_
    refine w_isub dX11_farthest_33 ?_
    obtain ⟨o7, h⟩ := h
    refine w_iald (x := (M5 133 (((M5 98 69) - 1).toNat))) dX11_farthest_34 rfl o7 rfl (fun g8 => ?_)
    have h := h g8
    obtain ⟨o9, h⟩ := h
    refine w_iald (x := (M5 131 ((M5 133 (((M5 98 69) - 1).toNat)).toNat))) dX11_farthest_35 rfl o9 rfl (fun g10 => ?_)
    have h := h g10
    refine w_istore_n dX11_farthest_36 (by decide) ?_
    refine w_iconst dX11_farthest_37 ?_
    refine w_istore_n dX11_farthest_38 (by decide) ?_
    exact k_pick [2, 3, 1, 0] rfl h
  · have h := h.2 c
    refine w_iconst dX11_farthest_14 ?_
    exact k_iret dX11_farthest_15 rfl h
theorem vX11_farthest_39 {E : Scr} {f : Int → Mem → Prop} {M : Mem} (x1 x2 x3 : Int) (h : (0 ≤ x3 ∧ x3 < 256) ∧ ((iR (M 131 x3.toNat)) → (iR x2) ∧ (((M 131 x3.toNat) = x2 → (iR x1) ∧ ((x1 ≠ 0 → f x3 M) ∧ (x1 = 0 → f x2 M))) ∧ ((M 131 x3.toNat) ≠ x2 → (KW E mX11_farthest (qI f) M 39 [(0, pR 98), (1, pI x1), (2, pI x2), (3, pI (x3 + 1))] []))))) : KW E mX11_farthest (qI f) M 39 [(0, pR 98), (1, pI x1), (2, pI x2), (3, pI x3)] [] := by
  refine w_aload_n dX11_farthest_39 rfl ?_
  refine w_getR dX11_farthest_40 fX11_112 rfl rfl rfl ?_
  refine w_iload_n dX11_farthest_43 rfl ?_
  obtain ⟨o1, h⟩ := h
  refine w_iald (x := (M 131 x3.toNat)) dX11_farthest_44 rfl o1 rfl (fun g2 => ?_)
  have h := h g2
  refine w_iload_n dX11_farthest_45 rfl ?_
  obtain ⟨o3, h⟩ := h
  refine w_icmp_eq dX11_farthest_46 rfl ⟨g2, o3⟩ (fun c => ?_) (fun c => ?_)
  · have h := h.1 c
    refine w_iload_n dX11_farthest_55 rfl ?_
    obtain ⟨o4, h⟩ := h
    refine w_if_ne dX11_farthest_56 rfl o4 (fun c => ?_) (fun c => ?_)
    · have h := h.1 c
      refine w_iload_n dX11_farthest_63 rfl ?_
      exact k_iret dX11_farthest_64 rfl h
    · have h := h.2 c
      refine w_iload_n dX11_farthest_59 rfl ?_
      refine w_goto dX11_farthest_60 rfl ?_
      exact k_iret dX11_farthest_64 rfl h
  · have h := h.2 c
    refine w_iinc dX11_farthest_49 rfl (by decide) ?_
    refine w_goto dX11_farthest_52 rfl ?_
    exact k_pick [1, 2, 3, 0] rfl h
theorem vX11_wide_0 {E : Scr} {f : Int → Mem → Prop} {M : Mem} (h : (CV E mX11_layNow [pR 98] (upM M 98 2 0) (fun M2 => (KW E mX11_wide (qI f) M2 11 [(0, pR 98), (1, pI 0)] [])))) : CI E mX11_wide [pR 98] M f := by
  refine (show KW E mX11_wide (qI f) M 0 [(0, pR 98)] [] from ?_)
  refine w_aload_n dX11_wide_0 rfl ?_
  refine w_iconst dX11_wide_1 ?_
  refine w_putI dX11_wide_2 (Or.inl ⟨rfl, fX11_160⟩) rfl rfl (by decide) ?_
  refine w_aload_n dX11_wide_5 rfl ?_
  refine k_vV (as := []) dX11_wide_6 kX11_484 ⟨⟨Nat.le_of_ble_eq_true rfl, rfl, rfl⟩, Nat.le_of_ble_eq_true rfl⟩ rfl (by decide) rfl (Nat.le_of_ble_eq_true rfl) h ?_
  intro M2 h
  refine w_iconst dX11_wide_9 ?_
  refine w_istore_n dX11_wide_10 (by decide) ?_
  exact k_pick [1, 0] rfl h
theorem vX11_wide_11 {E : Scr} {f : Int → Mem → Prop} {M : Mem} (x1 : Int) (h : (iR x1) ∧ ((x1 ≥ 256 → (KW E mX11_wide (qI f) M 40 [(0, pR 98), (1, pI 0), (2, pI 0)] [])) ∧ (x1 < 256 → (0 ≤ x1 ∧ x1 < 256) ∧ ((iR (M 131 x1.toNat)) → (0 ≤ x1 ∧ x1 < 256) ∧ (KW E mX11_wide (qI f) (upM M 134 x1.toNat (M 131 x1.toNat)) 11 [(0, pR 98), (1, pI (x1 + 1))] []))))) : KW E mX11_wide (qI f) M 11 [(0, pR 98), (1, pI x1)] [] := by
  refine w_iload_n dX11_wide_11 rfl ?_
  refine w_sipush dX11_wide_12 (by decide) ?_
  obtain ⟨o1, h⟩ := h
  refine w_icmp_ge dX11_wide_15 rfl ⟨o1, (by decide)⟩ (fun c => ?_) (fun c => ?_)
  · have h := h.1 c
    refine w_iconst dX11_wide_36 ?_
    refine w_istore_n dX11_wide_37 (by decide) ?_
    refine w_iconst dX11_wide_38 ?_
    refine w_istore_n dX11_wide_39 (by decide) ?_
    exact k_pick [2, 1, 0] rfl h
  · have h := h.2 c
    refine w_aload_n dX11_wide_18 rfl ?_
    refine w_getR dX11_wide_19 fX11_121 rfl rfl rfl ?_
    refine w_iload_n dX11_wide_22 rfl ?_
    refine w_aload_n dX11_wide_23 rfl ?_
    refine w_getR dX11_wide_24 fX11_112 rfl rfl rfl ?_
    refine w_iload_n dX11_wide_27 rfl ?_
    obtain ⟨o2, h⟩ := h
    refine w_iald (x := (M 131 x1.toNat)) dX11_wide_28 rfl o2 rfl (fun g3 => ?_)
    have h := h g3
    obtain ⟨o4, h⟩ := h
    refine w_iast dX11_wide_29 rfl o4 g3 ?_
    refine w_iinc dX11_wide_30 rfl (by decide) ?_
    refine w_goto dX11_wide_33 rfl ?_
    exact k_pick [1, 0] rfl h
theorem vX11_wide_40 {E : Scr} {f : Int → Mem → Prop} {M : Mem} (x1 x2 : Int) (h : (iR x2) ∧ ((x2 ≥ 256 → f x1 M) ∧ (x2 < 256 → (0 ≤ x2 ∧ x2 < 256) ∧ ((iR (M 134 x2.toNat)) → (((M 134 x2.toNat) ≥ 0 → ((iR (M 126 0)) → (CV E mX11_layFar [pR 98, pI x2, pI (-1), pI (M 126 0), pI 0] M (fun M6 => ((iR (M6 98 69)) → (0 ≤ ((M6 98 69) - 1) ∧ ((M6 98 69) - 1) < 256) ∧ ((iR (M6 133 (((M6 98 69) - 1).toNat))) → (0 ≤ (M6 133 (((M6 98 69) - 1).toNat)) ∧ (M6 133 (((M6 98 69) - 1).toNat)) < 256) ∧ ((iR (M6 131 ((M6 133 (((M6 98 69) - 1).toNat)).toNat))) → (iR x1) ∧ (((M6 131 ((M6 133 (((M6 98 69) - 1).toNat)).toNat)) ≤ x1 → (KW E mX11_wide (qI f) M6 40 [(0, pR 98), (1, pI x1), (2, pI (x2 + 1))] [])) ∧ ((M6 131 ((M6 133 (((M6 98 69) - 1).toNat)).toNat)) > x1 → ((iR (M6 98 69)) → (0 ≤ ((M6 98 69) - 1) ∧ ((M6 98 69) - 1) < 256) ∧ ((iR (M6 133 (((M6 98 69) - 1).toNat))) → (0 ≤ (M6 133 (((M6 98 69) - 1).toNat)) ∧ (M6 133 (((M6 98 69) - 1).toNat)) < 256) ∧ ((iR (M6 131 ((M6 133 (((M6 98 69) - 1).toNat)).toNat))) → (KW E mX11_wide (qI f) M6 40 [(0, pR 98), (1, pI (M6 131 ((M6 133 (((M6 98 69) - 1).toNat)).toNat))), (2, pI (x2 + 1))] []))))))))))))) ∧ ((M 134 x2.toNat) < 0 → (KW E mX11_wide (qI f) M 40 [(0, pR 98), (1, pI x1), (2, pI (x2 + 1))] []))))))) : KW E mX11_wide (qI f) M 40 [(0, pR 98), (1, pI x1), (2, pI x2)] [] := by
  refine w_iload_n dX11_wide_40 rfl ?_
  refine w_sipush dX11_wide_41 (by decide) ?_
  obtain ⟨o1, h⟩ := h
  refine w_icmp_ge dX11_wide_44 rfl ⟨o1, (by decide)⟩ (fun c => ?_) (fun c => ?_)
  · have h := h.1 c
    refine w_iload_n dX11_wide_119 rfl ?_
    exact k_iret dX11_wide_120 rfl h
  · have h := h.2 c
    refine w_aload_n dX11_wide_47 rfl ?_
    refine w_getR dX11_wide_48 fX11_121 rfl rfl rfl ?_
    refine w_iload_n dX11_wide_51 rfl ?_
    obtain ⟨o2, h⟩ := h
    refine w_iald (x := (M 134 x2.toNat)) dX11_wide_52 rfl o2 rfl (fun g3 => ?_)
    have h := h g3
    refine w_if_ge dX11_wide_53 rfl g3 (fun c => ?_) (fun c => ?_)
    · have h := h.1 c
      refine w_aload_n dX11_wide_59 rfl ?_
      refine w_iload_n dX11_wide_60 rfl ?_
      refine w_iconst dX11_wide_61 ?_
      refine w_aload_n dX11_wide_62 rfl ?_
      refine w_getR dX11_wide_63 fX11_97 rfl rfl rfl ?_
      refine w_iconst dX11_wide_66 ?_
      refine w_iald (x := (M 126 0)) dX11_wide_67 rfl (by decide) rfl (fun g4 => ?_)
      have h := h g4
      refine w_iconst dX11_wide_68 ?_
      refine k_vV (as := [pI x2, pI (-1), pI (M 126 0), pI 0]) dX11_wide_69 kX11_480 ⟨⟨Nat.le_of_ble_eq_true rfl, rfl, rfl⟩, Nat.le_of_ble_eq_true rfl⟩ rfl (by decide) rfl (Nat.le_of_ble_eq_true rfl) h ?_
      intro M6 h
      refine w_aload_n dX11_wide_72 rfl ?_
      refine w_getR dX11_wide_73 fX11_112 rfl rfl rfl ?_
      refine w_aload_n dX11_wide_76 rfl ?_
      refine w_getR dX11_wide_77 fX11_118 rfl rfl rfl ?_
      refine w_aload_n dX11_wide_80 rfl ?_
      refine w_getI (x := (M6 98 69)) dX11_wide_81 fX11_476 rfl rfl rfl (fun g7 => ?_)
      have h := h g7
      refine w_iconst dX11_wide_84 ?_
      refine w_isub dX11_wide_85 ?_
      obtain ⟨o8, h⟩ := h
      refine w_iald (x := (M6 133 (((M6 98 69) - 1).toNat))) dX11_wide_86 rfl o8 rfl (fun g9 => ?_)
      have h := h g9
      obtain ⟨o10, h⟩ := h
      refine w_iald (x := (M6 131 ((M6 133 (((M6 98 69) - 1).toNat)).toNat))) dX11_wide_87 rfl o10 rfl (fun g11 => ?_)
      have h := h g11
      refine w_iload_n dX11_wide_88 rfl ?_
      obtain ⟨o12, h⟩ := h
      refine w_icmp_le dX11_wide_89 rfl ⟨g11, o12⟩ (fun c => ?_) (fun c => ?_)
      · have h := h.1 c
        refine w_iload_n dX11_wide_111 rfl ?_
        refine w_istore_n dX11_wide_112 (by decide) ?_
        refine w_iinc dX11_wide_113 rfl (by decide) ?_
        refine w_goto dX11_wide_116 rfl ?_
        exact k_pick [2, 1, 0] rfl h
      · have h := h.2 c
        refine w_aload_n dX11_wide_92 rfl ?_
        refine w_getR dX11_wide_93 fX11_112 rfl rfl rfl ?_
        refine w_aload_n dX11_wide_96 rfl ?_
        refine w_getR dX11_wide_97 fX11_118 rfl rfl rfl ?_
        refine w_aload_n dX11_wide_100 rfl ?_
        refine w_getI (x := (M6 98 69)) dX11_wide_101 fX11_476 rfl rfl rfl (fun g13 => ?_)
        have h := h g13
        refine w_iconst dX11_wide_104 ?_
        refine w_isub dX11_wide_105 ?_
        obtain ⟨o14, h⟩ := h
        refine w_iald (x := (M6 133 (((M6 98 69) - 1).toNat))) dX11_wide_106 rfl o14 rfl (fun g15 => ?_)
        have h := h g15
        obtain ⟨o16, h⟩ := h
        refine w_iald (x := (M6 131 ((M6 133 (((M6 98 69) - 1).toNat)).toNat))) dX11_wide_107 rfl o16 rfl (fun g17 => ?_)
        have h := h g17
        refine w_goto dX11_wide_108 rfl ?_
        refine w_istore_n dX11_wide_112 (by decide) ?_
        refine w_iinc dX11_wide_113 rfl (by decide) ?_
        refine w_goto dX11_wide_116 rfl ?_
        exact k_pick [2, 1, 0] rfl h
    · have h := h.2 c
      refine w_goto dX11_wide_56 rfl ?_
      refine w_iinc dX11_wide_113 rfl (by decide) ?_
      refine w_goto dX11_wide_116 rfl ?_
      exact k_pick [1, 2, 0] rfl h
theorem vX11_parts_0 {E : Scr} {f : Int → Mem → Prop} {M : Mem} (h : (KW E mX11_parts (qI f) (upM M 98 2 0) 7 [(0, pR 98), (1, pI 0)] [])) : CI E mX11_parts [pR 98] M f := by
  refine (show KW E mX11_parts (qI f) M 0 [(0, pR 98)] [] from ?_)
  refine w_aload_n dX11_parts_0 rfl ?_
  refine w_iconst dX11_parts_1 ?_
  refine w_putI dX11_parts_2 (Or.inl ⟨rfl, fX11_160⟩) rfl rfl (by decide) ?_
  refine w_iconst dX11_parts_5 ?_
  refine w_istore_n dX11_parts_6 (by decide) ?_
  exact k_pick [1, 0] rfl h
theorem vX11_parts_7 {E : Scr} {f : Int → Mem → Prop} {M : Mem} (x1 : Int) (h : (iR x1) ∧ ((x1 ≥ 256 → (KW E mX11_parts (qI f) M 31 [(0, pR 98), (1, pI 0), (2, pI 0)] [])) ∧ (x1 < 256 → (0 ≤ x1 ∧ x1 < 256) ∧ (KW E mX11_parts (qI f) (upM M 135 x1.toNat 0) 7 [(0, pR 98), (1, pI (x1 + 1))] [])))) : KW E mX11_parts (qI f) M 7 [(0, pR 98), (1, pI x1)] [] := by
  refine w_iload_n dX11_parts_7 rfl ?_
  refine w_sipush dX11_parts_8 (by decide) ?_
  obtain ⟨o1, h⟩ := h
  refine w_icmp_ge dX11_parts_11 rfl ⟨o1, (by decide)⟩ (fun c => ?_) (fun c => ?_)
  · have h := h.1 c
    refine w_iconst dX11_parts_27 ?_
    refine w_istore_n dX11_parts_28 (by decide) ?_
    refine w_iconst dX11_parts_29 ?_
    refine w_istore_n dX11_parts_30 (by decide) ?_
    exact k_pick [2, 1, 0] rfl h
  · have h := h.2 c
    refine w_aload_n dX11_parts_14 rfl ?_
    refine w_getR dX11_parts_15 fX11_124 rfl rfl rfl ?_
    refine w_iload_n dX11_parts_18 rfl ?_
    refine w_iconst dX11_parts_19 ?_
    obtain ⟨o2, h⟩ := h
    refine w_zast dX11_parts_20 rfl o2 (by decide) ?_
    refine w_iinc dX11_parts_21 rfl (by decide) ?_
    refine w_goto dX11_parts_24 rfl ?_
    exact k_pick [1, 0] rfl h
theorem vX11_parts_31 {E : Scr} {f : Int → Mem → Prop} {M : Mem} (x1 x2 : Int) (h : ((iR (M 98 12)) → (iR x2) ∧ ((x2 ≥ (bShl 1 (M 98 12)) → f x1 M) ∧ (x2 < (bShl 1 (M 98 12)) → (0 ≤ x2 ∧ x2 < 256) ∧ ((zR (M 135 x2.toNat)) → (((M 135 x2.toNat) = 0 → ((iR (M 126 0)) → (CV E mX11_layFar [pR 98, pI x2, pI (-1), pI (M 126 0), pI 0] M (fun M7 => (KW E mX11_parts (qI f) M7 71 [(0, pR 98), (1, pI (x1 + 1)), (2, pI x2), (3, pI 0)] []))))) ∧ ((M 135 x2.toNat) ≠ 0 → (KW E mX11_parts (qI f) M 31 [(0, pR 98), (1, pI x1), (2, pI (x2 + 1))] [])))))))) : KW E mX11_parts (qI f) M 31 [(0, pR 98), (1, pI x1), (2, pI x2)] [] := by
  refine w_iload_n dX11_parts_31 rfl ?_
  refine w_iconst dX11_parts_32 ?_
  refine w_aload_n dX11_parts_33 rfl ?_
  refine w_getI (x := (M 98 12)) dX11_parts_34 fX11_240 rfl rfl rfl (fun g1 => ?_)
  have h := h g1
  refine w_ishl dX11_parts_37 ?_
  obtain ⟨o2, h⟩ := h
  refine w_icmp_ge dX11_parts_38 rfl ⟨o2, (bShl_r _ _)⟩ (fun c => ?_) (fun c => ?_)
  · have h := h.1 c
    refine w_iload_n dX11_parts_103 rfl ?_
    exact k_iret dX11_parts_104 rfl h
  · have h := h.2 c
    refine w_aload_n dX11_parts_41 rfl ?_
    refine w_getR dX11_parts_42 fX11_124 rfl rfl rfl ?_
    refine w_iload_n dX11_parts_45 rfl ?_
    obtain ⟨o3, h⟩ := h
    refine w_zald (x := (M 135 x2.toNat)) dX11_parts_46 rfl o3 rfl (fun g4 => ?_)
    have h := h g4
    refine w_if_eq dX11_parts_47 rfl (z2i g4) (fun c => ?_) (fun c => ?_)
    · have h := h.1 c
      refine w_iinc dX11_parts_53 rfl (by decide) ?_
      refine w_aload_n dX11_parts_56 rfl ?_
      refine w_iload_n dX11_parts_57 rfl ?_
      refine w_iconst dX11_parts_58 ?_
      refine w_aload_n dX11_parts_59 rfl ?_
      refine w_getR dX11_parts_60 fX11_97 rfl rfl rfl ?_
      refine w_iconst dX11_parts_63 ?_
      refine w_iald (x := (M 126 0)) dX11_parts_64 rfl (by decide) rfl (fun g5 => ?_)
      have h := h g5
      refine w_iconst dX11_parts_65 ?_
      refine k_vV (as := [pI x2, pI (-1), pI (M 126 0), pI 0]) dX11_parts_66 kX11_480 ⟨⟨Nat.le_of_ble_eq_true rfl, rfl, rfl⟩, Nat.le_of_ble_eq_true rfl⟩ rfl (by decide) rfl (Nat.le_of_ble_eq_true rfl) h ?_
      intro M7 h
      refine w_iconst dX11_parts_69 ?_
      refine w_istore_n dX11_parts_70 (by decide) ?_
      exact k_pick [2, 1, 3, 0] rfl h
    · have h := h.2 c
      refine w_goto dX11_parts_50 rfl ?_
      refine w_iinc dX11_parts_97 rfl (by decide) ?_
      refine w_goto dX11_parts_100 rfl ?_
      exact k_pick [1, 2, 0] rfl h
theorem vX11_parts_71 {E : Scr} {f : Int → Mem → Prop} {M : Mem} (x1 x2 x3 : Int) (h : ((iR (M 98 69)) → (iR x3) ∧ ((x3 ≥ (M 98 69) → (KW E mX11_parts (qI f) M 31 [(0, pR 98), (1, pI x1), (2, pI (x2 + 1))] [])) ∧ (x3 < (M 98 69) → (0 ≤ x3 ∧ x3 < 256) ∧ ((iR (M 133 x3.toNat)) → (0 ≤ (M 133 x3.toNat) ∧ (M 133 x3.toNat) < 256) ∧ (KW E mX11_parts (qI f) (upM M 135 ((M 133 x3.toNat).toNat) 1) 71 [(0, pR 98), (1, pI x1), (2, pI x2), (3, pI (x3 + 1))] [])))))) : KW E mX11_parts (qI f) M 71 [(0, pR 98), (1, pI x1), (2, pI x2), (3, pI x3)] [] := by
  refine w_iload_n dX11_parts_71 rfl ?_
  refine w_aload_n dX11_parts_72 rfl ?_
  refine w_getI (x := (M 98 69)) dX11_parts_73 fX11_476 rfl rfl rfl (fun g1 => ?_)
  have h := h g1
  obtain ⟨o2, h⟩ := h
  refine w_icmp_ge dX11_parts_76 rfl ⟨o2, g1⟩ (fun c => ?_) (fun c => ?_)
  · have h := h.1 c
    refine w_iinc dX11_parts_97 rfl (by decide) ?_
    refine w_goto dX11_parts_100 rfl ?_
    exact k_pick [1, 2, 0] rfl h
  · have h := h.2 c
    refine w_aload_n dX11_parts_79 rfl ?_
    refine w_getR dX11_parts_80 fX11_124 rfl rfl rfl ?_
    refine w_aload_n dX11_parts_83 rfl ?_
    refine w_getR dX11_parts_84 fX11_118 rfl rfl rfl ?_
    refine w_iload_n dX11_parts_87 rfl ?_
    obtain ⟨o3, h⟩ := h
    refine w_iald (x := (M 133 x3.toNat)) dX11_parts_88 rfl o3 rfl (fun g4 => ?_)
    have h := h g4
    refine w_iconst dX11_parts_89 ?_
    obtain ⟨o5, h⟩ := h
    refine w_zast dX11_parts_90 rfl o5 (by decide) ?_
    refine w_iinc dX11_parts_91 rfl (by decide) ?_
    refine w_goto dX11_parts_94 rfl ?_
    exact k_pick [1, 2, 3, 0] rfl h
theorem vX11_past_0 {E : Scr} {f : Int → Mem → Prop} {M : Mem} (x1 x2 : Int) (h : (CI E mX11_isRow [pR 98, pI x1] (upM M 98 2 0) (fun r1 M2 => (iR r1) ∧ ((r1 = 0 → f (-1) M2) ∧ (r1 ≠ 0 → (iR x2) ∧ ((x2 < 0 → f (-1) M2) ∧ (x2 ≥ 0 → ((iR (M2 125 0)) → (iR x1) ∧ ((x1 ≠ (M2 125 0) → (CV E mX11_layNow [pR 98] M2 (fun M8 => (0 ≤ x1 ∧ x1 < 256) ∧ ((iR (M8 131 x1.toNat)) → (((M8 131 x1.toNat) ≥ 0 → (0 ≤ x1 ∧ x1 < 256) ∧ ((iR (M8 131 x1.toNat)) → (KW E mX11_past (qI f) M8 54 [(0, pR 98), (1, pI x1), (2, pI x2), (3, pI (M8 131 x1.toNat)), (4, pI 0)] []))) ∧ ((M8 131 x1.toNat) < 0 → f (-1) M8)))))) ∧ (x1 = (M2 125 0) → f (-1) M2)))))))))) : CI E mX11_past [pR 98, pI x1, pI x2] M f := by
  refine (show KW E mX11_past (qI f) M 0 [(0, pR 98), (1, pI x1), (2, pI x2)] [] from ?_)
  refine w_aload_n dX11_past_0 rfl ?_
  refine w_iconst dX11_past_1 ?_
  refine w_putI dX11_past_2 (Or.inl ⟨rfl, fX11_160⟩) rfl rfl (by decide) ?_
  refine w_aload_n dX11_past_5 rfl ?_
  refine w_iload_n dX11_past_6 rfl ?_
  refine k_vI (as := [pI x1]) dX11_past_7 kX11_462 ⟨⟨Nat.le_of_ble_eq_true rfl, rfl, rfl⟩, Nat.le_of_ble_eq_true rfl⟩ rfl (by decide) rfl (Nat.le_of_ble_eq_true rfl) h ?_
  intro r1 M2 h
  obtain ⟨o3, h⟩ := h
  refine w_if_eq dX11_past_10 rfl o3 (fun c => ?_) (fun c => ?_)
  · have h := h.1 c
    refine w_iconst dX11_past_27 ?_
    exact k_iret dX11_past_28 rfl h
  · have h := h.2 c
    refine w_iload_n dX11_past_13 rfl ?_
    obtain ⟨o4, h⟩ := h
    refine w_if_lt dX11_past_14 rfl o4 (fun c => ?_) (fun c => ?_)
    · have h := h.1 c
      refine w_iconst dX11_past_27 ?_
      exact k_iret dX11_past_28 rfl h
    · have h := h.2 c
      refine w_iload_n dX11_past_17 rfl ?_
      refine w_aload_n dX11_past_18 rfl ?_
      refine w_getR dX11_past_19 fX11_94 rfl rfl rfl ?_
      refine w_iconst dX11_past_22 ?_
      refine w_iald (x := (M2 125 0)) dX11_past_23 rfl (by decide) rfl (fun g5 => ?_)
      have h := h g5
      obtain ⟨o6, h⟩ := h
      refine w_icmp_ne dX11_past_24 rfl ⟨o6, g5⟩ (fun c => ?_) (fun c => ?_)
      · have h := h.1 c
        refine w_aload_n dX11_past_29 rfl ?_
        refine k_vV (as := []) dX11_past_30 kX11_484 ⟨⟨Nat.le_of_ble_eq_true rfl, rfl, rfl⟩, Nat.le_of_ble_eq_true rfl⟩ rfl (by decide) rfl (Nat.le_of_ble_eq_true rfl) h ?_
        intro M8 h
        refine w_aload_n dX11_past_33 rfl ?_
        refine w_getR dX11_past_34 fX11_112 rfl rfl rfl ?_
        refine w_iload_n dX11_past_37 rfl ?_
        obtain ⟨o9, h⟩ := h
        refine w_iald (x := (M8 131 x1.toNat)) dX11_past_38 rfl o9 rfl (fun g10 => ?_)
        have h := h g10
        refine w_if_ge dX11_past_39 rfl g10 (fun c => ?_) (fun c => ?_)
        · have h := h.1 c
          refine w_aload_n dX11_past_44 rfl ?_
          refine w_getR dX11_past_45 fX11_112 rfl rfl rfl ?_
          refine w_iload_n dX11_past_48 rfl ?_
          obtain ⟨o11, h⟩ := h
          refine w_iald (x := (M8 131 x1.toNat)) dX11_past_49 rfl o11 rfl (fun g12 => ?_)
          have h := h g12
          refine w_istore_n dX11_past_50 (by decide) ?_
          refine w_iconst dX11_past_51 ?_
          refine w_istore dX11_past_52 (by decide) ?_
          exact k_pick [2, 3, 4, 1, 0] rfl h
        · have h := h.2 c
          refine w_iconst dX11_past_42 ?_
          exact k_iret dX11_past_43 rfl h
      · have h := h.2 c
        refine w_iconst dX11_past_27 ?_
        exact k_iret dX11_past_28 rfl h
theorem vX11_past_54 {E : Scr} {f : Int → Mem → Prop} {M : Mem} (x1 x2 x3 x4 : Int) (h : (iR x4) ∧ ((x4 ≥ 256 → (KW E mX11_past (qI f) M 93 [(0, pR 98), (1, pI x1), (2, pI x2), (3, pI x3), (4, pI 0)] [])) ∧ (x4 < 256 → (0 ≤ x4 ∧ x4 < 256) ∧ ((iR (M 131 x4.toNat)) → (0 ≤ x4 ∧ x4 < 256) ∧ (0 ≤ x4 ∧ x4 < 256) ∧ (KW E mX11_past (qI f) (upM (upM M 134 x4.toNat (M 131 x4.toNat)) 136 x4.toNat (-1)) 54 [(0, pR 98), (1, pI x1), (2, pI x2), (3, pI x3), (4, pI (x4 + 1))] []))))) : KW E mX11_past (qI f) M 54 [(0, pR 98), (1, pI x1), (2, pI x2), (3, pI x3), (4, pI x4)] [] := by
  refine w_iload dX11_past_54 rfl ?_
  refine w_sipush dX11_past_56 (by decide) ?_
  obtain ⟨o1, h⟩ := h
  refine w_icmp_ge dX11_past_59 rfl ⟨o1, (by decide)⟩ (fun c => ?_) (fun c => ?_)
  · have h := h.1 c
    refine w_iconst dX11_past_90 ?_
    refine w_istore dX11_past_91 (by decide) ?_
    exact k_pick [1, 2, 3, 4, 0] rfl h
  · have h := h.2 c
    refine w_aload_n dX11_past_62 rfl ?_
    refine w_getR dX11_past_63 fX11_121 rfl rfl rfl ?_
    refine w_iload dX11_past_66 rfl ?_
    refine w_aload_n dX11_past_68 rfl ?_
    refine w_getR dX11_past_69 fX11_112 rfl rfl rfl ?_
    refine w_iload dX11_past_72 rfl ?_
    obtain ⟨o2, h⟩ := h
    refine w_iald (x := (M 131 x4.toNat)) dX11_past_74 rfl o2 rfl (fun g3 => ?_)
    have h := h g3
    obtain ⟨o4, h⟩ := h
    refine w_iast dX11_past_75 rfl o4 g3 ?_
    refine w_aload_n dX11_past_76 rfl ?_
    refine w_getR dX11_past_77 fX11_127 rfl rfl rfl ?_
    refine w_iload dX11_past_80 rfl ?_
    refine w_iconst dX11_past_82 ?_
    obtain ⟨o5, h⟩ := h
    refine w_iast dX11_past_83 rfl o5 (by decide) ?_
    refine w_iinc dX11_past_84 rfl (by decide) ?_
    refine w_goto dX11_past_87 rfl ?_
    exact k_pick [1, 2, 3, 4, 0] rfl h
theorem vX11_past_93 {E : Scr} {f : Int → Mem → Prop} {M : Mem} (x1 x2 x3 x4 : Int) (h : (iR x4) ∧ ((x4 ≥ 256 → (KW E mX11_past (qI f) M 180 [(0, pR 98), (2, pI x2), (4, pI 0), (5, pI 0)] [])) ∧ (x4 < 256 → (0 ≤ x4 ∧ x4 < 256) ∧ ((iR (M 134 x4.toNat)) → (((M 134 x4.toNat) < 1 → (KW E mX11_past (qI f) M 93 [(0, pR 98), (1, pI x1), (2, pI x2), (3, pI x3), (4, pI (x4 + 1))] [])) ∧ ((M 134 x4.toNat) ≥ 1 → (0 ≤ x4 ∧ x4 < 256) ∧ ((iR (M 134 x4.toNat)) → (iR x3) ∧ (((M 134 x4.toNat) < x3 → ((iR (M 125 0)) → ((iR (M 126 0)) → (CV E mX11_layFar [pR 98, pI (M 125 0), pI x4, pI (M 126 0), pI 0] M (fun M10 => (0 ≤ x1 ∧ x1 < 256) ∧ ((iR (M10 131 x1.toNat)) → (((M10 131 x1.toNat) ≥ 0 → (KW E mX11_past (qI f) M10 93 [(0, pR 98), (1, pI x1), (2, pI x2), (3, pI x3), (4, pI (x4 + 1))] [])) ∧ ((M10 131 x1.toNat) < 0 → (0 ≤ x4 ∧ x4 < 256) ∧ ((iR (M10 134 x4.toNat)) → (0 ≤ (M10 134 x4.toNat) ∧ (M10 134 x4.toNat) < 256) ∧ (iR x4) ∧ (KW E mX11_past (qI f) (upM M10 136 ((M10 134 x4.toNat).toNat) x4) 93 [(0, pR 98), (1, pI x1), (2, pI x2), (3, pI x3), (4, pI (x4 + 1))] [])))))))))) ∧ ((M 134 x4.toNat) ≥ x3 → (KW E mX11_past (qI f) M 93 [(0, pR 98), (1, pI x1), (2, pI x2), (3, pI x3), (4, pI (x4 + 1))] [])))))))))) : KW E mX11_past (qI f) M 93 [(0, pR 98), (1, pI x1), (2, pI x2), (3, pI x3), (4, pI x4)] [] := by
  refine w_iload dX11_past_93 rfl ?_
  refine w_sipush dX11_past_95 (by decide) ?_
  obtain ⟨o1, h⟩ := h
  refine w_icmp_ge dX11_past_98 rfl ⟨o1, (by decide)⟩ (fun c => ?_) (fun c => ?_)
  · have h := h.1 c
    refine w_iconst dX11_past_174 ?_
    refine w_istore dX11_past_175 (by decide) ?_
    refine w_iconst dX11_past_177 ?_
    refine w_istore dX11_past_178 (by decide) ?_
    exact k_pick [2, 4, 1, 0] rfl h
  · have h := h.2 c
    refine w_aload_n dX11_past_101 rfl ?_
    refine w_getR dX11_past_102 fX11_121 rfl rfl rfl ?_
    refine w_iload dX11_past_105 rfl ?_
    obtain ⟨o2, h⟩ := h
    refine w_iald (x := (M 134 x4.toNat)) dX11_past_107 rfl o2 rfl (fun g3 => ?_)
    have h := h g3
    refine w_iconst dX11_past_108 ?_
    refine w_icmp_lt dX11_past_109 rfl ⟨g3, (by decide)⟩ (fun c => ?_) (fun c => ?_)
    · have h := h.1 c
      refine w_iinc dX11_past_168 rfl (by decide) ?_
      refine w_goto dX11_past_171 rfl ?_
      exact k_pick [1, 2, 3, 4, 0] rfl h
    · have h := h.2 c
      refine w_aload_n dX11_past_112 rfl ?_
      refine w_getR dX11_past_113 fX11_121 rfl rfl rfl ?_
      refine w_iload dX11_past_116 rfl ?_
      obtain ⟨o4, h⟩ := h
      refine w_iald (x := (M 134 x4.toNat)) dX11_past_118 rfl o4 rfl (fun g5 => ?_)
      have h := h g5
      refine w_iload_n dX11_past_119 rfl ?_
      obtain ⟨o6, h⟩ := h
      refine w_icmp_lt dX11_past_120 rfl ⟨g5, o6⟩ (fun c => ?_) (fun c => ?_)
      · have h := h.1 c
        refine w_aload_n dX11_past_126 rfl ?_
        refine w_aload_n dX11_past_127 rfl ?_
        refine w_getR dX11_past_128 fX11_94 rfl rfl rfl ?_
        refine w_iconst dX11_past_131 ?_
        refine w_iald (x := (M 125 0)) dX11_past_132 rfl (by decide) rfl (fun g7 => ?_)
        have h := h g7
        refine w_iload dX11_past_133 rfl ?_
        refine w_aload_n dX11_past_135 rfl ?_
        refine w_getR dX11_past_136 fX11_97 rfl rfl rfl ?_
        refine w_iconst dX11_past_139 ?_
        refine w_iald (x := (M 126 0)) dX11_past_140 rfl (by decide) rfl (fun g8 => ?_)
        have h := h g8
        refine w_iconst dX11_past_141 ?_
        refine k_vV (as := [pI (M 125 0), pI x4, pI (M 126 0), pI 0]) dX11_past_142 kX11_480 ⟨⟨Nat.le_of_ble_eq_true rfl, rfl, rfl⟩, Nat.le_of_ble_eq_true rfl⟩ rfl (by decide) rfl (Nat.le_of_ble_eq_true rfl) h ?_
        intro M10 h
        refine w_aload_n dX11_past_145 rfl ?_
        refine w_getR dX11_past_146 fX11_112 rfl rfl rfl ?_
        refine w_iload_n dX11_past_149 rfl ?_
        obtain ⟨o11, h⟩ := h
        refine w_iald (x := (M10 131 x1.toNat)) dX11_past_150 rfl o11 rfl (fun g12 => ?_)
        have h := h g12
        refine w_if_ge dX11_past_151 rfl g12 (fun c => ?_) (fun c => ?_)
        · have h := h.1 c
          refine w_iinc dX11_past_168 rfl (by decide) ?_
          refine w_goto dX11_past_171 rfl ?_
          exact k_pick [1, 2, 3, 4, 0] rfl h
        · have h := h.2 c
          refine w_aload_n dX11_past_154 rfl ?_
          refine w_getR dX11_past_155 fX11_127 rfl rfl rfl ?_
          refine w_aload_n dX11_past_158 rfl ?_
          refine w_getR dX11_past_159 fX11_121 rfl rfl rfl ?_
          refine w_iload dX11_past_162 rfl ?_
          obtain ⟨o13, h⟩ := h
          refine w_iald (x := (M10 134 x4.toNat)) dX11_past_164 rfl o13 rfl (fun g14 => ?_)
          have h := h g14
          refine w_iload dX11_past_165 rfl ?_
          obtain ⟨o15, h⟩ := h
          obtain ⟨o16, h⟩ := h
          refine w_iast dX11_past_167 rfl o15 o16 ?_
          refine w_iinc dX11_past_168 rfl (by decide) ?_
          refine w_goto dX11_past_171 rfl ?_
          exact k_pick [1, 2, 3, 4, 0] rfl h
      · have h := h.2 c
        refine w_goto dX11_past_123 rfl ?_
        refine w_iinc dX11_past_168 rfl (by decide) ?_
        refine w_goto dX11_past_171 rfl ?_
        exact k_pick [1, 2, 3, 4, 0] rfl h
theorem vX11_past_180 {E : Scr} {f : Int → Mem → Prop} {M : Mem} (x2 x4 x5 : Int) (h : (iR x5) ∧ ((x5 ≥ 256 → f (-2) M) ∧ (x5 < 256 → (0 ≤ x5 ∧ x5 < 256) ∧ ((iR (M 136 x5.toNat)) → (((M 136 x5.toNat) ≥ 0 → (iR x4) ∧ (iR x2) ∧ ((x4 ≠ x2 → (KW E mX11_past (qI f) M 180 [(0, pR 98), (2, pI x2), (4, pI (x4 + 1)), (5, pI (x5 + 1))] [])) ∧ (x4 = x2 → (0 ≤ x5 ∧ x5 < 256) ∧ ((iR (M 136 x5.toNat)) → f (M 136 x5.toNat) M)))) ∧ ((M 136 x5.toNat) < 0 → (KW E mX11_past (qI f) M 180 [(0, pR 98), (2, pI x2), (4, pI x4), (5, pI (x5 + 1))] []))))))) : KW E mX11_past (qI f) M 180 [(0, pR 98), (2, pI x2), (4, pI x4), (5, pI x5)] [] := by
  refine w_iload dX11_past_180 rfl ?_
  refine w_sipush dX11_past_182 (by decide) ?_
  obtain ⟨o1, h⟩ := h
  refine w_icmp_ge dX11_past_185 rfl ⟨o1, (by decide)⟩ (fun c => ?_) (fun c => ?_)
  · have h := h.1 c
    refine w_bipush dX11_past_224 (by decide) ?_
    exact k_iret dX11_past_226 rfl h
  · have h := h.2 c
    refine w_aload_n dX11_past_188 rfl ?_
    refine w_getR dX11_past_189 fX11_127 rfl rfl rfl ?_
    refine w_iload dX11_past_192 rfl ?_
    obtain ⟨o2, h⟩ := h
    refine w_iald (x := (M 136 x5.toNat)) dX11_past_194 rfl o2 rfl (fun g3 => ?_)
    have h := h g3
    refine w_if_ge dX11_past_195 rfl g3 (fun c => ?_) (fun c => ?_)
    · have h := h.1 c
      refine w_iload dX11_past_201 rfl ?_
      refine w_iload_n dX11_past_203 rfl ?_
      obtain ⟨o4, h⟩ := h
      obtain ⟨o5, h⟩ := h
      refine w_icmp_ne dX11_past_204 rfl ⟨o4, o5⟩ (fun c => ?_) (fun c => ?_)
      · have h := h.1 c
        refine w_iinc dX11_past_215 rfl (by decide) ?_
        refine w_iinc dX11_past_218 rfl (by decide) ?_
        refine w_goto dX11_past_221 rfl ?_
        exact k_pick [2, 3, 1, 0] rfl h
      · have h := h.2 c
        refine w_aload_n dX11_past_207 rfl ?_
        refine w_getR dX11_past_208 fX11_127 rfl rfl rfl ?_
        refine w_iload dX11_past_211 rfl ?_
        obtain ⟨o6, h⟩ := h
        refine w_iald (x := (M 136 x5.toNat)) dX11_past_213 rfl o6 rfl (fun g7 => ?_)
        have h := h g7
        exact k_iret dX11_past_214 rfl h
    · have h := h.2 c
      refine w_goto dX11_past_198 rfl ?_
      refine w_iinc dX11_past_218 rfl (by decide) ?_
      refine w_goto dX11_past_221 rfl ?_
      exact k_pick [1, 2, 3, 0] rfl h
