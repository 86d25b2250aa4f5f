theorem vJ6_bitCount_0f7a4_0 {E : Scr} {f : Int → Mem → Prop} {M : Mem} (x0 : Int) (h : f (bAnd (((bAnd (((bAnd (x0 - (bAnd (bUshr x0 1) 1431655765)) 858993459) + (bAnd (bUshr (x0 - (bAnd (bUshr x0 1) 1431655765)) 2) 858993459)) + (bUshr ((bAnd (x0 - (bAnd (bUshr x0 1) 1431655765)) 858993459) + (bAnd (bUshr (x0 - (bAnd (bUshr x0 1) 1431655765)) 2) 858993459)) 4)) 252645135) + (bUshr (bAnd (((bAnd (x0 - (bAnd (bUshr x0 1) 1431655765)) 858993459) + (bAnd (bUshr (x0 - (bAnd (bUshr x0 1) 1431655765)) 2) 858993459)) + (bUshr ((bAnd (x0 - (bAnd (bUshr x0 1) 1431655765)) 858993459) + (bAnd (bUshr (x0 - (bAnd (bUshr x0 1) 1431655765)) 2) 858993459)) 4)) 252645135) 8)) + (bUshr ((bAnd (((bAnd (x0 - (bAnd (bUshr x0 1) 1431655765)) 858993459) + (bAnd (bUshr (x0 - (bAnd (bUshr x0 1) 1431655765)) 2) 858993459)) + (bUshr ((bAnd (x0 - (bAnd (bUshr x0 1) 1431655765)) 858993459) + (bAnd (bUshr (x0 - (bAnd (bUshr x0 1) 1431655765)) 2) 858993459)) 4)) 252645135) + (bUshr (bAnd (((bAnd (x0 - (bAnd (bUshr x0 1) 1431655765)) 858993459) + (bAnd (bUshr (x0 - (bAnd (bUshr x0 1) 1431655765)) 2) 858993459)) + (bUshr ((bAnd (x0 - (bAnd (bUshr x0 1) 1431655765)) 858993459) + (bAnd (bUshr (x0 - (bAnd (bUshr x0 1) 1431655765)) 2) 858993459)) 4)) 252645135) 8)) 16)) 63) M) : CI E mJ6_bitCount_0f7a4 [pI x0] M f := by
  refine (show KW E mJ6_bitCount_0f7a4 (qI f) M 0 [(0, pI x0)] [] from ?_)
  refine w_iload_n dJ6_bitCount_0f7a4_0 rfl ?_
  refine w_iload_n dJ6_bitCount_0f7a4_1 rfl ?_
  refine w_iconst dJ6_bitCount_0f7a4_2 ?_
  refine w_iushr dJ6_bitCount_0f7a4_3 ?_
  refine w_ldcw dJ6_bitCount_0f7a4_4 qJ6_265 ?_
  refine w_iand dJ6_bitCount_0f7a4_7 ?_
  refine w_isub dJ6_bitCount_0f7a4_8 ?_
  refine w_istore_n dJ6_bitCount_0f7a4_9 (by decide) ?_
  refine w_iload_n dJ6_bitCount_0f7a4_10 rfl ?_
  refine w_ldcw dJ6_bitCount_0f7a4_11 qJ6_266 ?_
  refine w_iand dJ6_bitCount_0f7a4_14 ?_
  refine w_iload_n dJ6_bitCount_0f7a4_15 rfl ?_
  refine w_iconst dJ6_bitCount_0f7a4_16 ?_
  refine w_iushr dJ6_bitCount_0f7a4_17 ?_
  refine w_ldcw dJ6_bitCount_0f7a4_18 qJ6_266 ?_
  refine w_iand dJ6_bitCount_0f7a4_21 ?_
  refine w_iadd dJ6_bitCount_0f7a4_22 ?_
  refine w_istore_n dJ6_bitCount_0f7a4_23 (by decide) ?_
  refine w_iload_n dJ6_bitCount_0f7a4_24 rfl ?_
  refine w_iload_n dJ6_bitCount_0f7a4_25 rfl ?_
  refine w_iconst dJ6_bitCount_0f7a4_26 ?_
  refine w_iushr dJ6_bitCount_0f7a4_27 ?_
  refine w_iadd dJ6_bitCount_0f7a4_28 ?_
  refine w_ldcw dJ6_bitCount_0f7a4_29 qJ6_267 ?_
  refine w_iand dJ6_bitCount_0f7a4_32 ?_
  refine w_istore_n dJ6_bitCount_0f7a4_33 (by decide) ?_
  refine w_iload_n dJ6_bitCount_0f7a4_34 rfl ?_
  refine w_iload_n dJ6_bitCount_0f7a4_35 rfl ?_
  refine w_bipush dJ6_bitCount_0f7a4_36 (by decide) ?_
  refine w_iushr dJ6_bitCount_0f7a4_38 ?_
  refine w_iadd dJ6_bitCount_0f7a4_39 ?_
  refine w_istore_n dJ6_bitCount_0f7a4_40 (by decide) ?_
  refine w_iload_n dJ6_bitCount_0f7a4_41 rfl ?_
  refine w_iload_n dJ6_bitCount_0f7a4_42 rfl ?_
  refine w_bipush dJ6_bitCount_0f7a4_43 (by decide) ?_
  refine w_iushr dJ6_bitCount_0f7a4_45 ?_
  refine w_iadd dJ6_bitCount_0f7a4_46 ?_
  refine w_istore_n dJ6_bitCount_0f7a4_47 (by decide) ?_
  refine w_iload_n dJ6_bitCount_0f7a4_48 rfl ?_
  refine w_bipush dJ6_bitCount_0f7a4_49 (by decide) ?_
  refine w_iand dJ6_bitCount_0f7a4_51 ?_
  exact k_iret dJ6_bitCount_0f7a4_52 rfl h
theorem vJ9_floorMod_7cf53_0 {E : Scr} {f : Int → Mem → Prop} {M : Mem} (x0 x1 : Int) (h : (iR x0) ∧ (iR x1) ∧ (x1 ≠ 0) ∧ (((bXor x0 x1) ≥ 0 → f (Int.tmod x0 x1) M) ∧ ((bXor x0 x1) < 0 → (iR (Int.tmod x0 x1)) ∧ (((Int.tmod x0 x1) = 0 → f (Int.tmod x0 x1) M) ∧ ((Int.tmod x0 x1) ≠ 0 → f ((Int.tmod x0 x1) + x1) M))))) : CI E mJ9_floorMod_7cf53 [pI x0, pI x1] M f := by
  refine (show KW E mJ9_floorMod_7cf53 (qI f) M 0 [(0, pI x0), (1, pI x1)] [] from ?_)
  refine w_iload_n dJ9_floorMod_7cf53_0 rfl ?_
  refine w_iload_n dJ9_floorMod_7cf53_1 rfl ?_
  obtain ⟨o1, h⟩ := h
  obtain ⟨o2, h⟩ := h
  obtain ⟨o3, h⟩ := h
  refine w_irem dJ9_floorMod_7cf53_2 ⟨o1, o2, o3⟩ ?_
  refine w_istore_n dJ9_floorMod_7cf53_3 (by decide) ?_
  refine w_iload_n dJ9_floorMod_7cf53_4 rfl ?_
  refine w_iload_n dJ9_floorMod_7cf53_5 rfl ?_
  refine w_ixor dJ9_floorMod_7cf53_6 ?_
  refine w_if_ge dJ9_floorMod_7cf53_7 rfl (bXor_r _ _) (fun c => ?_) (fun c => ?_)
  · have h := h.1 c
    refine w_iload_n dJ9_floorMod_7cf53_18 rfl ?_
    exact k_iret dJ9_floorMod_7cf53_19 rfl h
  · have h := h.2 c
    refine w_iload_n dJ9_floorMod_7cf53_10 rfl ?_
    obtain ⟨o4, h⟩ := h
    refine w_if_eq dJ9_floorMod_7cf53_11 rfl o4 (fun c => ?_) (fun c => ?_)
    · have h := h.1 c
      refine w_iload_n dJ9_floorMod_7cf53_18 rfl ?_
      exact k_iret dJ9_floorMod_7cf53_19 rfl h
    · have h := h.2 c
      refine w_iload_n dJ9_floorMod_7cf53_14 rfl ?_
      refine w_iload_n dJ9_floorMod_7cf53_15 rfl ?_
      refine w_iadd dJ9_floorMod_7cf53_16 ?_
      exact k_iret dJ9_floorMod_7cf53_17 rfl h
theorem vJ7_fill_d0a16_0 {E : Scr} {f : Mem → Prop} {M : Mem} (x1 : Int) {aa nn : Nat} (hT : T0[aa]? = some (21, nn)) (h : (KW E mJ7_fill_d0a16 (qV f) M 6 [(0, pR aa), (1, pL x1), (3, pI 0), (4, pI (nn : Int))] [])) : CV E mJ7_fill_d0a16 [pR aa, pL x1] M f := by
  refine (show KW E mJ7_fill_d0a16 (qV f) M 0 [(0, pR aa), (1, pL x1)] [] from ?_)
  refine w_iconst dJ7_fill_d0a16_0 ?_
  refine w_istore_n dJ7_fill_d0a16_1 (by decide) ?_
  refine w_aload_n dJ7_fill_d0a16_2 rfl ?_
  refine w_alenl dJ7_fill_d0a16_3 hT ?_
  refine w_istore dJ7_fill_d0a16_4 (by decide) ?_
  exact k_pick [2, 3, 1, 0] rfl h
theorem vJ7_fill_d0a16_6 {E : Scr} {f : Mem → Prop} {M : Mem} (x1 x3 x4 : Int) {aa nn : Nat} (hT : T0[aa]? = some (21, nn)) (h : (iR x3) ∧ (iR x4) ∧ ((x3 ≥ x4 → f M) ∧ (x3 < x4 → (0 ≤ x3 ∧ x3 < nn) ∧ (lR x1) ∧ (KW E mJ7_fill_d0a16 (qV f) (upM M aa x3.toNat x1) 6 [(0, pR aa), (1, pL x1), (3, pI (x3 + 1)), (4, pI x4)] [])))) : KW E mJ7_fill_d0a16 (qV f) M 6 [(0, pR aa), (1, pL x1), (3, pI x3), (4, pI x4)] [] := by
  refine w_iload_n dJ7_fill_d0a16_6 rfl ?_
  refine w_iload dJ7_fill_d0a16_7 rfl ?_
  obtain ⟨o1, h⟩ := h
  obtain ⟨o2, h⟩ := h
  refine w_icmp_ge dJ7_fill_d0a16_9 rfl ⟨o1, o2⟩ (fun c => ?_) (fun c => ?_)
  · have h := h.1 c
    exact k_vret dJ7_fill_d0a16_22 rfl h
  · have h := h.2 c
    refine w_aload_n dJ7_fill_d0a16_12 rfl ?_
    refine w_iload_n dJ7_fill_d0a16_13 rfl ?_
    refine w_lload_n dJ7_fill_d0a16_14 rfl ?_
    obtain ⟨o3, h⟩ := h
    obtain ⟨o4, h⟩ := h
    refine w_last dJ7_fill_d0a16_15 hT o3 o4 ?_
    refine w_iinc dJ7_fill_d0a16_16 rfl (by decide) ?_
    refine w_goto dJ7_fill_d0a16_19 rfl ?_
    exact k_pick [1, 2, 0, 3] rfl h
theorem vJ7_fill_53178_0 {E : Scr} {f : Mem → Prop} {M : Mem} (x1 : Int) {aa nn : Nat} (hT : T0[aa]? = some (20, nn)) (h : (KW E mJ7_fill_53178 (qV f) M 5 [(0, pR aa), (1, pI x1), (2, pI 0), (3, pI (nn : Int))] [])) : CV E mJ7_fill_53178 [pR aa, pI x1] M f := by
  refine (show KW E mJ7_fill_53178 (qV f) M 0 [(0, pR aa), (1, pI x1)] [] from ?_)
  refine w_iconst dJ7_fill_53178_0 ?_
  refine w_istore_n dJ7_fill_53178_1 (by decide) ?_
  refine w_aload_n dJ7_fill_53178_2 rfl ?_
  refine w_aleni dJ7_fill_53178_3 hT ?_
  refine w_istore_n dJ7_fill_53178_4 (by decide) ?_
  exact k_pick [2, 3, 1, 0] rfl h
theorem vJ7_fill_53178_5 {E : Scr} {f : Mem → Prop} {M : Mem} (x1 x2 x3 : Int) {aa nn : Nat} (hT : T0[aa]? = some (20, nn)) (h : (iR x2) ∧ (iR x3) ∧ ((x2 ≥ x3 → f M) ∧ (x2 < x3 → (0 ≤ x2 ∧ x2 < nn) ∧ (iR x1) ∧ (KW E mJ7_fill_53178 (qV f) (upM M aa x2.toNat x1) 5 [(0, pR aa), (1, pI x1), (2, pI (x2 + 1)), (3, pI x3)] [])))) : KW E mJ7_fill_53178 (qV f) M 5 [(0, pR aa), (1, pI x1), (2, pI x2), (3, pI x3)] [] := by
  refine w_iload_n dJ7_fill_53178_5 rfl ?_
  refine w_iload_n dJ7_fill_53178_6 rfl ?_
  obtain ⟨o1, h⟩ := h
  obtain ⟨o2, h⟩ := h
  refine w_icmp_ge dJ7_fill_53178_7 rfl ⟨o1, o2⟩ (fun c => ?_) (fun c => ?_)
  · have h := h.1 c
    exact k_vret dJ7_fill_53178_20 rfl h
  · have h := h.2 c
    refine w_aload_n dJ7_fill_53178_10 rfl ?_
    refine w_iload_n dJ7_fill_53178_11 rfl ?_
    refine w_iload_n dJ7_fill_53178_12 rfl ?_
    obtain ⟨o3, h⟩ := h
    obtain ⟨o4, h⟩ := h
    refine w_iast dJ7_fill_53178_13 hT o3 o4 ?_
    refine w_iinc dJ7_fill_53178_14 rfl (by decide) ?_
    refine w_goto dJ7_fill_53178_17 rfl ?_
    exact k_pick [1, 2, 0, 3] rfl h
