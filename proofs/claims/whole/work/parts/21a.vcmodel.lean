theorem vX11_thrown_0 {E : Scr} {f : Int → Mem → Prop} {M : Mem} (h : ((iR (M 98 2)) → f (M 98 2) M)) : CI E mX11_thrown [pR 98] M f := by
  refine (show KW E mX11_thrown (qI f) M 0 [(0, pR 98)] [] from ?_)
  refine w_aload_n dX11_thrown_0 rfl ?_
  refine w_getI (x := (M 98 2)) dX11_thrown_1 fX11_160 rfl rfl rfl (fun g1 => ?_)
  have h := h g1
  exact k_iret dX11_thrown_4 rfl h
theorem vX11_feed_0 {E : Scr} {f : Int → Mem → Prop} {M : Mem} (x1 x2 x3 x4 x5 : Int) (h : ((iR (M 98 1)) → (iR ((M 98 1) + 20)) ∧ ((((M 98 1) + 20) ≤ 700 → (KW E mX11_feed (qI f) (upM M 98 2 0) 23 [(0, pR 98), (1, pI x1), (2, pI x2), (3, pI x3), (4, pI x4), (5, pI x5), (6, pI 0)] [])) ∧ (((M 98 1) + 20) > 700 → f (-1) (upM M 98 2 0))))) : CI E mX11_feed [pR 98, pI x1, pI x2, pI x3, pI x4, pI x5] M f := by
  refine (show KW E mX11_feed (qI f) M 0 [(0, pR 98), (1, pI x1), (2, pI x2), (3, pI x3), (4, pI x4), (5, pI x5)] [] from ?_)
  refine w_aload_n dX11_feed_0 rfl ?_
  refine w_iconst dX11_feed_1 ?_
  refine w_putI dX11_feed_2 (Or.inl ⟨rfl, fX11_160⟩) rfl rfl (by decide) ?_
  refine w_aload_n dX11_feed_5 rfl ?_
  refine w_getI (x := (M 98 1)) dX11_feed_6 fX11_163 rfl rfl rfl (fun g1 => ?_)
  have h := h g1
  refine w_bipush dX11_feed_9 (by decide) ?_
  refine w_iadd dX11_feed_11 ?_
  refine w_sipush dX11_feed_12 (by decide) ?_
  obtain ⟨o2, h⟩ := h
  refine w_icmp_le dX11_feed_15 rfl ⟨o2, (by decide)⟩ (fun c => ?_) (fun c => ?_)
  · have h := h.1 c
    refine w_iconst dX11_feed_20 ?_
    refine w_istore dX11_feed_21 (by decide) ?_
    exact k_pick [1, 2, 3, 4, 5, 6, 0] rfl h
  · have h := h.2 c
    refine w_iconst dX11_feed_18 ?_
    exact k_iret dX11_feed_19 rfl h
theorem vX11_feed_23 {E : Scr} {f : Int → Mem → Prop} {M : Mem} (x1 x2 x3 x4 x5 x6 : Int) (h : (iR x6) ∧ ((x6 ≥ 20 → ((iR (M 98 1)) → (iR ((M 98 1) + 20)) ∧ ((iR ((M 98 1) + 20)) → f ((M 98 1) + 20) (upM M 98 1 ((M 98 1) + 20))))) ∧ (x6 < 20 → (iR x6) ∧ ((x6 ≥ 4 → (iR x6) ∧ ((x6 ≥ 8 → (iR x6) ∧ ((x6 ≥ 12 → (iR x6) ∧ ((x6 ≥ 16 → (KW E mX11_feed (qI f) M 76 [(0, pR 98), (1, pI x1), (2, pI x2), (3, pI x3), (4, pI x4), (5, pI x5), (6, pI x6)] [pI x5])) ∧ (x6 < 16 → (KW E mX11_feed (qI f) M 76 [(0, pR 98), (1, pI x1), (2, pI x2), (3, pI x3), (4, pI x4), (5, pI x5), (6, pI x6)] [pI x4])))) ∧ (x6 < 12 → (KW E mX11_feed (qI f) M 76 [(0, pR 98), (1, pI x1), (2, pI x2), (3, pI x3), (4, pI x4), (5, pI x5), (6, pI x6)] [pI x3])))) ∧ (x6 < 8 → (KW E mX11_feed (qI f) M 76 [(0, pR 98), (1, pI x1), (2, pI x2), (3, pI x3), (4, pI x4), (5, pI x5), (6, pI x6)] [pI x2])))) ∧ (x6 < 4 → (KW E mX11_feed (qI f) M 76 [(0, pR 98), (1, pI x1), (2, pI x2), (3, pI x3), (4, pI x4), (5, pI x5), (6, pI x6)] [pI x1])))))) : KW E mX11_feed (qI f) M 23 [(0, pR 98), (1, pI x1), (2, pI x2), (3, pI x3), (4, pI x4), (5, pI x5), (6, pI x6)] [] := by
  refine w_iload dX11_feed_23 rfl ?_
  refine w_bipush dX11_feed_25 (by decide) ?_
  obtain ⟨o1, h⟩ := h
  refine w_icmp_ge dX11_feed_27 rfl ⟨o1, (by decide)⟩ (fun c => ?_) (fun c => ?_)
  · have h := h.1 c
    refine w_aload_n dX11_feed_113 rfl ?_
    refine w_dup dX11_feed_114 rfl ?_
    refine w_getI (x := (M 98 1)) dX11_feed_115 fX11_163 rfl rfl rfl (fun g2 => ?_)
    have h := h g2
    refine w_bipush dX11_feed_118 (by decide) ?_
    refine w_iadd dX11_feed_120 ?_
    obtain ⟨o3, h⟩ := h
    refine w_putI dX11_feed_121 (Or.inl ⟨rfl, fX11_163⟩) rfl rfl o3 ?_
    refine w_aload_n dX11_feed_124 rfl ?_
    refine w_getI (x := ((M 98 1) + 20)) dX11_feed_125 fX11_163 rfl rfl rfl (fun g4 => ?_)
    have h := h g4
    exact k_iret dX11_feed_128 rfl h
  · have h := h.2 c
    refine w_iload dX11_feed_30 rfl ?_
    refine w_iconst dX11_feed_32 ?_
    obtain ⟨o5, h⟩ := h
    refine w_icmp_ge dX11_feed_33 rfl ⟨o5, (by decide)⟩ (fun c => ?_) (fun c => ?_)
    · have h := h.1 c
      refine w_iload dX11_feed_40 rfl ?_
      refine w_bipush dX11_feed_42 (by decide) ?_
      obtain ⟨o6, h⟩ := h
      refine w_icmp_ge dX11_feed_44 rfl ⟨o6, (by decide)⟩ (fun c => ?_) (fun c => ?_)
      · have h := h.1 c
        refine w_iload dX11_feed_51 rfl ?_
        refine w_bipush dX11_feed_53 (by decide) ?_
        obtain ⟨o7, h⟩ := h
        refine w_icmp_ge dX11_feed_55 rfl ⟨o7, (by decide)⟩ (fun c => ?_) (fun c => ?_)
        · have h := h.1 c
          refine w_iload dX11_feed_62 rfl ?_
          refine w_bipush dX11_feed_64 (by decide) ?_
          obtain ⟨o8, h⟩ := h
          refine w_icmp_ge dX11_feed_66 rfl ⟨o8, (by decide)⟩ (fun c => ?_) (fun c => ?_)
          · have h := h.1 c
            refine w_iload dX11_feed_74 rfl ?_
            exact k_pick [0, 1, 2, 3, 4, 5, 6] rfl h
          · have h := h.2 c
            refine w_iload dX11_feed_69 rfl ?_
            refine w_goto dX11_feed_71 rfl ?_
            exact k_pick [0, 1, 2, 3, 4, 5, 6] rfl h
        · have h := h.2 c
          refine w_iload_n dX11_feed_58 rfl ?_
          refine w_goto dX11_feed_59 rfl ?_
          exact k_pick [0, 1, 2, 3, 4, 5, 6] rfl h
      · have h := h.2 c
        refine w_iload_n dX11_feed_47 rfl ?_
        refine w_goto dX11_feed_48 rfl ?_
        exact k_pick [0, 1, 2, 3, 4, 5, 6] rfl h
    · have h := h.2 c
      refine w_iload_n dX11_feed_36 rfl ?_
      refine w_goto dX11_feed_37 rfl ?_
      exact k_pick [0, 1, 2, 3, 4, 5, 6] rfl h
theorem vX11_feed_76 {E : Scr} {f : Int → Mem → Prop} {M : Mem} (x1 x2 x3 x4 x5 x6 s0 : Int) (h : ((iR (M 98 1)) → (iR x6) ∧ (0 ≤ ((M 98 1) + x6) ∧ ((M 98 1) + x6) < 700) ∧ (KW E mX11_feed (qI f) (upM M 99 (((M 98 1) + x6).toNat) (bAnd (bShr s0 (24 - (8 * (Int.tmod x6 4)))) 255)) 23 [(0, pR 98), (1, pI x1), (2, pI x2), (3, pI x3), (4, pI x4), (5, pI x5), (6, pI (x6 + 1))] []))) : KW E mX11_feed (qI f) M 76 [(0, pR 98), (1, pI x1), (2, pI x2), (3, pI x3), (4, pI x4), (5, pI x5), (6, pI x6)] [pI s0] := by
  refine w_istore dX11_feed_76 (by decide) ?_
  refine w_aload_n dX11_feed_78 rfl ?_
  refine w_getR dX11_feed_79 fX11_7 rfl rfl rfl ?_
  refine w_aload_n dX11_feed_82 rfl ?_
  refine w_getI (x := (M 98 1)) dX11_feed_83 fX11_163 rfl rfl rfl (fun g1 => ?_)
  have h := h g1
  refine w_iload dX11_feed_86 rfl ?_
  refine w_iadd dX11_feed_88 ?_
  refine w_iload dX11_feed_89 rfl ?_
  refine w_bipush dX11_feed_91 (by decide) ?_
  refine w_bipush dX11_feed_93 (by decide) ?_
  refine w_iload dX11_feed_95 rfl ?_
  refine w_iconst dX11_feed_97 ?_
  obtain ⟨o2, h⟩ := h
  refine w_irem dX11_feed_98 ⟨o2, (by decide), (by decide)⟩ ?_
  refine w_imul dX11_feed_99 ?_
  refine w_isub dX11_feed_100 ?_
  refine w_ishr dX11_feed_101 ?_
  refine w_sipush dX11_feed_102 (by decide) ?_
  refine w_iand dX11_feed_105 ?_
  obtain ⟨o3, h⟩ := h
  refine w_iast dX11_feed_106 rfl o3 (bAnd_r _ _) ?_
  refine w_iinc dX11_feed_107 rfl (by decide) ?_
  refine w_goto dX11_feed_110 rfl ?_
  exact k_pick [2, 3, 4, 5, 6, 7, 0] rfl h
theorem vX11_isIn_0 {E : Scr} {f : Int → Mem → Prop} {M : Mem} (x0 x1 x2 : Int) (h : (iR x0) ∧ (iR x1) ∧ ((x0 < x1 → f 0 M) ∧ (x0 ≥ x1 → (iR x0) ∧ (iR x2) ∧ ((x0 > x2 → f 0 M) ∧ (x0 ≤ x2 → f 1 M))))) : CI E mX11_isIn [pI x0, pI x1, pI x2] M f := by
  refine (show KW E mX11_isIn (qI f) M 0 [(0, pI x0), (1, pI x1), (2, pI x2)] [] from ?_)
  refine w_iload_n dX11_isIn_0 rfl ?_
  refine w_iload_n dX11_isIn_1 rfl ?_
  obtain ⟨o1, h⟩ := h
  obtain ⟨o2, h⟩ := h
  refine w_icmp_lt dX11_isIn_2 rfl ⟨o1, o2⟩ (fun c => ?_) (fun c => ?_)
  · have h := h.1 c
    refine w_iconst dX11_isIn_14 ?_
    exact k_zret dX11_isIn_15 rfl (by decide) h
  · have h := h.2 c
    refine w_iload_n dX11_isIn_5 rfl ?_
    refine w_iload_n dX11_isIn_6 rfl ?_
    obtain ⟨o3, h⟩ := h
    obtain ⟨o4, h⟩ := h
    refine w_icmp_gt dX11_isIn_7 rfl ⟨o3, o4⟩ (fun c => ?_) (fun c => ?_)
    · have h := h.1 c
      refine w_iconst dX11_isIn_14 ?_
      exact k_zret dX11_isIn_15 rfl (by decide) h
    · have h := h.2 c
      refine w_iconst dX11_isIn_10 ?_
      refine w_goto dX11_isIn_11 rfl ?_
      exact k_zret dX11_isIn_15 rfl (by decide) h
theorem vX11_isOf_0 {E : Scr} {f : Int → Mem → Prop} {M : Mem} (x0 x1 : Int) (h : (((bAnd (bShr x0 x1) 1) ≠ 1 → f 0 M) ∧ ((bAnd (bShr x0 x1) 1) = 1 → f 1 M))) : CI E mX11_isOf [pI x0, pI x1] M f := by
  refine (show KW E mX11_isOf (qI f) M 0 [(0, pI x0), (1, pI x1)] [] from ?_)
  refine w_iload_n dX11_isOf_0 rfl ?_
  refine w_iload_n dX11_isOf_1 rfl ?_
  refine w_ishr dX11_isOf_2 ?_
  refine w_iconst dX11_isOf_3 ?_
  refine w_iand dX11_isOf_4 ?_
  refine w_iconst dX11_isOf_5 ?_
  refine w_icmp_ne dX11_isOf_6 rfl ⟨(bAnd_r _ _), (by decide)⟩ (fun c => ?_) (fun c => ?_)
  · have h := h.1 c
    refine w_iconst dX11_isOf_13 ?_
    exact k_zret dX11_isOf_14 rfl (by decide) h
  · have h := h.2 c
    refine w_iconst dX11_isOf_9 ?_
    refine w_goto dX11_isOf_10 rfl ?_
    exact k_zret dX11_isOf_14 rfl (by decide) h
theorem vX11_wrong_0 {E : Scr} {f : Int → Mem → Prop} {M : Mem} (x1 : Int) (h : (iR x1) ∧ ((iR (M 98 10)) → f 0 (upM (upM M 98 4 x1) 98 5 (M 98 10)))) : CI E mX11_wrong [pR 98, pI x1] M f := by
  refine (show KW E mX11_wrong (qI f) M 0 [(0, pR 98), (1, pI x1)] [] from ?_)
  refine w_aload_n dX11_wrong_0 rfl ?_
  refine w_iload_n dX11_wrong_1 rfl ?_
  obtain ⟨o1, h⟩ := h
  refine w_putI dX11_wrong_2 (Or.inl ⟨rfl, fX11_166⟩) rfl rfl o1 ?_
  refine w_aload_n dX11_wrong_5 rfl ?_
  refine w_aload_n dX11_wrong_6 rfl ?_
  refine w_getI (x := (M 98 10)) dX11_wrong_7 fX11_169 rfl rfl rfl (fun g2 => ?_)
  have h := h g2
  refine w_putI dX11_wrong_10 (Or.inl ⟨rfl, fX11_16⟩) rfl rfl g2 ?_
  refine w_iconst dX11_wrong_13 ?_
  exact k_zret dX11_wrong_14 rfl (by decide) h
theorem vX11_wordAt_0 {E : Scr} {f : Int → Mem → Prop} {M : Mem} (x1 x2 : Int) (h : (KW E mX11_wordAt (qI f) M 5 [(0, pR 98), (1, pI x1), (2, pI x2), (3, pI 0), (4, pI 0)] [])) : CI E mX11_wordAt [pR 98, pI x1, pI x2] M f := by
  refine (show KW E mX11_wordAt (qI f) M 0 [(0, pR 98), (1, pI x1), (2, pI x2)] [] from ?_)
  refine w_iconst dX11_wordAt_0 ?_
  refine w_istore_n dX11_wordAt_1 (by decide) ?_
  refine w_iconst dX11_wordAt_2 ?_
  refine w_istore dX11_wordAt_3 (by decide) ?_
  exact k_pick [2, 3, 4, 1, 0] rfl h
theorem vX11_wordAt_5 {E : Scr} {f : Int → Mem → Prop} {M : Mem} (x1 x2 x3 x4 : Int) (h : (iR x4) ∧ ((x4 ≥ 116 → f (-1) M) ∧ (x4 < 116 → (KW E mX11_wordAt (qI f) M 18 [(0, pR 98), (1, pI x1), (2, pI x2), (3, pI x3), (4, pI x4), (5, pI 0)] [])))) : KW E mX11_wordAt (qI f) M 5 [(0, pR 98), (1, pI x1), (2, pI x2), (3, pI x3), (4, pI x4)] [] := by
  refine w_iload dX11_wordAt_5 rfl ?_
  refine w_aload_n dX11_wordAt_7 rfl ?_
  refine w_getR dX11_wordAt_8 fX11_13 rfl rfl rfl ?_
  refine w_aleni dX11_wordAt_11 rfl ?_
  obtain ⟨o1, h⟩ := h
  refine w_icmp_ge dX11_wordAt_12 rfl ⟨o1, (by decide)⟩ (fun c => ?_) (fun c => ?_)
  · have h := h.1 c
    refine w_iconst dX11_wordAt_126 ?_
    exact k_iret dX11_wordAt_127 rfl h
  · have h := h.2 c
    refine w_iconst dX11_wordAt_15 ?_
    refine w_istore dX11_wordAt_16 (by decide) ?_
    exact k_pick [1, 2, 3, 4, 5, 0] rfl h
theorem vX11_wordAt_18 {E : Scr} {f : Int → Mem → Prop} {M : Mem} (x1 x2 x3 x4 x5 : Int) (h : (0 ≤ (x4 + x5) ∧ (x4 + x5) < 116) ∧ ((iR (M 100 ((x4 + x5).toNat))) → (((M 100 ((x4 + x5).toNat)) = 32 → (iR x5) ∧ (iR (x2 - x1)) ∧ ((x5 ≠ (x2 - x1) → (KW E mX11_wordAt (qI f) M 57 [(0, pR 98), (1, pI x1), (2, pI x2), (3, pI x3), (4, pI x4), (5, pI x5), (6, pI 0), (7, pI 0)] [])) ∧ (x5 = (x2 - x1) → (KW E mX11_wordAt (qI f) M 57 [(0, pR 98), (1, pI x1), (2, pI x2), (3, pI x3), (4, pI x4), (5, pI x5), (6, pI 1), (7, pI 0)] [])))) ∧ ((M 100 ((x4 + x5).toNat)) ≠ 32 → (KW E mX11_wordAt (qI f) M 18 [(0, pR 98), (1, pI x1), (2, pI x2), (3, pI x3), (4, pI x4), (5, pI (x5 + 1))] []))))) : KW E mX11_wordAt (qI f) M 18 [(0, pR 98), (1, pI x1), (2, pI x2), (3, pI x3), (4, pI x4), (5, pI x5)] [] := by
  refine w_aload_n dX11_wordAt_18 rfl ?_
  refine w_getR dX11_wordAt_19 fX11_13 rfl rfl rfl ?_
  refine w_iload dX11_wordAt_22 rfl ?_
  refine w_iload dX11_wordAt_24 rfl ?_
  refine w_iadd dX11_wordAt_26 ?_
  obtain ⟨o1, h⟩ := h
  refine w_iald (x := (M 100 ((x4 + x5).toNat))) dX11_wordAt_27 rfl o1 rfl (fun g2 => ?_)
  have h := h g2
  refine w_bipush dX11_wordAt_28 (by decide) ?_
  refine w_icmp_eq dX11_wordAt_30 rfl ⟨g2, (by decide)⟩ (fun c => ?_) (fun c => ?_)
  · have h := h.1 c
    refine w_iload dX11_wordAt_39 rfl ?_
    refine w_iload_n dX11_wordAt_41 rfl ?_
    refine w_iload_n dX11_wordAt_42 rfl ?_
    refine w_isub dX11_wordAt_43 ?_
    obtain ⟨o3, h⟩ := h
    obtain ⟨o4, h⟩ := h
    refine w_icmp_ne dX11_wordAt_44 rfl ⟨o3, o4⟩ (fun c => ?_) (fun c => ?_)
    · have h := h.1 c
      refine w_iconst dX11_wordAt_51 ?_
      refine w_istore dX11_wordAt_52 (by decide) ?_
      refine w_iconst dX11_wordAt_54 ?_
      refine w_istore dX11_wordAt_55 (by decide) ?_
      exact k_pick [2, 3, 4, 5, 6, 7, 1, 0] rfl h
    · have h := h.2 c
      refine w_iconst dX11_wordAt_47 ?_
      refine w_goto dX11_wordAt_48 rfl ?_
      refine w_istore dX11_wordAt_52 (by decide) ?_
      refine w_iconst dX11_wordAt_54 ?_
      refine w_istore dX11_wordAt_55 (by decide) ?_
      exact k_pick [2, 3, 4, 5, 6, 7, 1, 0] rfl h
  · have h := h.2 c
    refine w_iinc dX11_wordAt_33 rfl (by decide) ?_
    refine w_goto dX11_wordAt_36 rfl ?_
    exact k_pick [1, 2, 3, 4, 5, 0] rfl h
theorem vX11_wordAt_57 {E : Scr} {f : Int → Mem → Prop} {M : Mem} (x1 x2 x3 x4 x5 x6 x7 : Int) (h : (iR x7) ∧ (iR x5) ∧ ((x7 ≥ x5 → (iR x6) ∧ ((x6 = 0 → (KW E mX11_wordAt (qI f) M 5 [(0, pR 98), (1, pI x1), (2, pI x2), (3, pI (x3 + 1)), (4, pI (x4 + (x5 + 1)))] [])) ∧ (x6 ≠ 0 → f x3 M))) ∧ (x7 < x5 → (iR x6) ∧ ((x6 = 0 → (iR x6) ∧ ((x6 = 0 → (KW E mX11_wordAt (qI f) M 5 [(0, pR 98), (1, pI x1), (2, pI x2), (3, pI (x3 + 1)), (4, pI (x4 + (x5 + 1)))] [])) ∧ (x6 ≠ 0 → f x3 M))) ∧ (x6 ≠ 0 → (0 ≤ (x4 + x7) ∧ (x4 + x7) < 116) ∧ ((iR (M 100 ((x4 + x7).toNat))) → (0 ≤ (x1 + x7) ∧ (x1 + x7) < 700) ∧ ((iR (M 99 ((x1 + x7).toNat))) → (((M 100 ((x4 + x7).toNat)) ≠ (M 99 ((x1 + x7).toNat)) → (KW E mX11_wordAt (qI f) M 57 [(0, pR 98), (1, pI x1), (2, pI x2), (3, pI x3), (4, pI x4), (5, pI x5), (6, pI 0), (7, pI (x7 + 1))] [])) ∧ ((M 100 ((x4 + x7).toNat)) = (M 99 ((x1 + x7).toNat)) → (KW E mX11_wordAt (qI f) M 57 [(0, pR 98), (1, pI x1), (2, pI x2), (3, pI x3), (4, pI x4), (5, pI x5), (6, pI 1), (7, pI (x7 + 1))] [])))))))))) : KW E mX11_wordAt (qI f) M 57 [(0, pR 98), (1, pI x1), (2, pI x2), (3, pI x3), (4, pI x4), (5, pI x5), (6, pI x6), (7, pI x7)] [] := by
  refine w_iload dX11_wordAt_57 rfl ?_
  refine w_iload dX11_wordAt_59 rfl ?_
  obtain ⟨o1, h⟩ := h
  obtain ⟨o2, h⟩ := h
  refine w_icmp_ge dX11_wordAt_61 rfl ⟨o1, o2⟩ (fun c => ?_) (fun c => ?_)
  · have h := h.1 c
    refine w_iload dX11_wordAt_104 rfl ?_
    obtain ⟨o3, h⟩ := h
    refine w_if_eq dX11_wordAt_106 rfl o3 (fun c => ?_) (fun c => ?_)
    · have h := h.1 c
      refine w_iload dX11_wordAt_111 rfl ?_
      refine w_iload dX11_wordAt_113 rfl ?_
      refine w_iconst dX11_wordAt_115 ?_
      refine w_iadd dX11_wordAt_116 ?_
      refine w_iadd dX11_wordAt_117 ?_
      refine w_istore dX11_wordAt_118 (by decide) ?_
      refine w_iinc dX11_wordAt_120 rfl (by decide) ?_
      refine w_goto dX11_wordAt_123 rfl ?_
      exact k_pick [2, 3, 4, 0, 1] rfl h
    · have h := h.2 c
      refine w_iload_n dX11_wordAt_109 rfl ?_
      exact k_iret dX11_wordAt_110 rfl h
  · have h := h.2 c
    refine w_iload dX11_wordAt_64 rfl ?_
    obtain ⟨o4, h⟩ := h
    refine w_if_eq dX11_wordAt_66 rfl o4 (fun c => ?_) (fun c => ?_)
    · have h := h.1 c
      refine w_iload dX11_wordAt_104 rfl ?_
      obtain ⟨o5, h⟩ := h
      refine w_if_eq dX11_wordAt_106 rfl o5 (fun c => ?_) (fun c => ?_)
      · have h := h.1 c
        refine w_iload dX11_wordAt_111 rfl ?_
        refine w_iload dX11_wordAt_113 rfl ?_
        refine w_iconst dX11_wordAt_115 ?_
        refine w_iadd dX11_wordAt_116 ?_
        refine w_iadd dX11_wordAt_117 ?_
        refine w_istore dX11_wordAt_118 (by decide) ?_
        refine w_iinc dX11_wordAt_120 rfl (by decide) ?_
        refine w_goto dX11_wordAt_123 rfl ?_
        exact k_pick [2, 3, 4, 0, 1] rfl h
      · have h := h.2 c
        refine w_iload_n dX11_wordAt_109 rfl ?_
        exact k_iret dX11_wordAt_110 rfl h
    · have h := h.2 c
      refine w_aload_n dX11_wordAt_69 rfl ?_
      refine w_getR dX11_wordAt_70 fX11_13 rfl rfl rfl ?_
      refine w_iload dX11_wordAt_73 rfl ?_
      refine w_iload dX11_wordAt_75 rfl ?_
      refine w_iadd dX11_wordAt_77 ?_
      obtain ⟨o6, h⟩ := h
      refine w_iald (x := (M 100 ((x4 + x7).toNat))) dX11_wordAt_78 rfl o6 rfl (fun g7 => ?_)
      have h := h g7
      refine w_aload_n dX11_wordAt_79 rfl ?_
      refine w_getR dX11_wordAt_80 fX11_7 rfl rfl rfl ?_
      refine w_iload_n dX11_wordAt_83 rfl ?_
      refine w_iload dX11_wordAt_84 rfl ?_
      refine w_iadd dX11_wordAt_86 ?_
      obtain ⟨o8, h⟩ := h
      refine w_iald (x := (M 99 ((x1 + x7).toNat))) dX11_wordAt_87 rfl o8 rfl (fun g9 => ?_)
      have h := h g9
      refine w_icmp_ne dX11_wordAt_88 rfl ⟨g7, g9⟩ (fun c => ?_) (fun c => ?_)
      · have h := h.1 c
        refine w_iconst dX11_wordAt_95 ?_
        refine w_istore dX11_wordAt_96 (by decide) ?_
        refine w_iinc dX11_wordAt_98 rfl (by decide) ?_
        refine w_goto dX11_wordAt_101 rfl ?_
        exact k_pick [2, 3, 4, 5, 6, 7, 1, 0] rfl h
      · have h := h.2 c
        refine w_iconst dX11_wordAt_91 ?_
        refine w_goto dX11_wordAt_92 rfl ?_
        refine w_istore dX11_wordAt_96 (by decide) ?_
        refine w_iinc dX11_wordAt_98 rfl (by decide) ?_
        refine w_goto dX11_wordAt_101 rfl ?_
        exact k_pick [2, 3, 4, 5, 6, 7, 1, 0] rfl h
theorem vX11_isSmall_0 {E : Scr} {f : Int → Mem → Prop} {M : Mem} (x1 : Int) (h : ((iR (M 98 6)) → (iR x1) ∧ ((x1 ≥ (M 98 6) → f 0 M) ∧ (x1 < (M 98 6) → (0 ≤ x1 ∧ x1 < 700) ∧ ((iR (M 99 x1.toNat)) → (((M 99 x1.toNat) < 97 → f 0 M) ∧ ((M 99 x1.toNat) ≥ 97 → (0 ≤ x1 ∧ x1 < 700) ∧ ((iR (M 99 x1.toNat)) → (((M 99 x1.toNat) > 122 → f 0 M) ∧ ((M 99 x1.toNat) ≤ 122 → f 1 M)))))))))) : CI E mX11_isSmall [pR 98, pI x1] M f := by
  refine (show KW E mX11_isSmall (qI f) M 0 [(0, pR 98), (1, pI x1)] [] from ?_)
  refine w_iload_n dX11_isSmall_0 rfl ?_
  refine w_aload_n dX11_isSmall_1 rfl ?_
  refine w_getI (x := (M 98 6)) dX11_isSmall_2 fX11_172 rfl rfl rfl (fun g1 => ?_)
  have h := h g1
  obtain ⟨o2, h⟩ := h
  refine w_icmp_ge dX11_isSmall_5 rfl ⟨o2, g1⟩ (fun c => ?_) (fun c => ?_)
  · have h := h.1 c
    refine w_iconst dX11_isSmall_34 ?_
    exact k_zret dX11_isSmall_35 rfl (by decide) h
  · have h := h.2 c
    refine w_aload_n dX11_isSmall_8 rfl ?_
    refine w_getR dX11_isSmall_9 fX11_7 rfl rfl rfl ?_
    refine w_iload_n dX11_isSmall_12 rfl ?_
    obtain ⟨o3, h⟩ := h
    refine w_iald (x := (M 99 x1.toNat)) dX11_isSmall_13 rfl o3 rfl (fun g4 => ?_)
    have h := h g4
    refine w_bipush dX11_isSmall_14 (by decide) ?_
    refine w_icmp_lt dX11_isSmall_16 rfl ⟨g4, (by decide)⟩ (fun c => ?_) (fun c => ?_)
    · have h := h.1 c
      refine w_iconst dX11_isSmall_34 ?_
      exact k_zret dX11_isSmall_35 rfl (by decide) h
    · have h := h.2 c
      refine w_aload_n dX11_isSmall_19 rfl ?_
      refine w_getR dX11_isSmall_20 fX11_7 rfl rfl rfl ?_
      refine w_iload_n dX11_isSmall_23 rfl ?_
      obtain ⟨o5, h⟩ := h
      refine w_iald (x := (M 99 x1.toNat)) dX11_isSmall_24 rfl o5 rfl (fun g6 => ?_)
      have h := h g6
      refine w_bipush dX11_isSmall_25 (by decide) ?_
      refine w_icmp_gt dX11_isSmall_27 rfl ⟨g6, (by decide)⟩ (fun c => ?_) (fun c => ?_)
      · have h := h.1 c
        refine w_iconst dX11_isSmall_34 ?_
        exact k_zret dX11_isSmall_35 rfl (by decide) h
      · have h := h.2 c
        refine w_iconst dX11_isSmall_30 ?_
        refine w_goto dX11_isSmall_31 rfl ?_
        exact k_zret dX11_isSmall_35 rfl (by decide) h
theorem vX11_isDigit_0 {E : Scr} {f : Int → Mem → Prop} {M : Mem} (x1 : Int) (h : ((iR (M 98 6)) → (iR x1) ∧ ((x1 ≥ (M 98 6) → f 0 M) ∧ (x1 < (M 98 6) → (0 ≤ x1 ∧ x1 < 700) ∧ ((iR (M 99 x1.toNat)) → (((M 99 x1.toNat) < 48 → f 0 M) ∧ ((M 99 x1.toNat) ≥ 48 → (0 ≤ x1 ∧ x1 < 700) ∧ ((iR (M 99 x1.toNat)) → (((M 99 x1.toNat) > 57 → f 0 M) ∧ ((M 99 x1.toNat) ≤ 57 → f 1 M)))))))))) : CI E mX11_isDigit [pR 98, pI x1] M f := by
  refine (show KW E mX11_isDigit (qI f) M 0 [(0, pR 98), (1, pI x1)] [] from ?_)
  refine w_iload_n dX11_isDigit_0 rfl ?_
  refine w_aload_n dX11_isDigit_1 rfl ?_
  refine w_getI (x := (M 98 6)) dX11_isDigit_2 fX11_172 rfl rfl rfl (fun g1 => ?_)
  have h := h g1
  obtain ⟨o2, h⟩ := h
  refine w_icmp_ge dX11_isDigit_5 rfl ⟨o2, g1⟩ (fun c => ?_) (fun c => ?_)
  · have h := h.1 c
    refine w_iconst dX11_isDigit_34 ?_
    exact k_zret dX11_isDigit_35 rfl (by decide) h
  · have h := h.2 c
    refine w_aload_n dX11_isDigit_8 rfl ?_
    refine w_getR dX11_isDigit_9 fX11_7 rfl rfl rfl ?_
    refine w_iload_n dX11_isDigit_12 rfl ?_
    obtain ⟨o3, h⟩ := h
    refine w_iald (x := (M 99 x1.toNat)) dX11_isDigit_13 rfl o3 rfl (fun g4 => ?_)
    have h := h g4
    refine w_bipush dX11_isDigit_14 (by decide) ?_
    refine w_icmp_lt dX11_isDigit_16 rfl ⟨g4, (by decide)⟩ (fun c => ?_) (fun c => ?_)
    · have h := h.1 c
      refine w_iconst dX11_isDigit_34 ?_
      exact k_zret dX11_isDigit_35 rfl (by decide) h
    · have h := h.2 c
      refine w_aload_n dX11_isDigit_19 rfl ?_
      refine w_getR dX11_isDigit_20 fX11_7 rfl rfl rfl ?_
      refine w_iload_n dX11_isDigit_23 rfl ?_
      obtain ⟨o5, h⟩ := h
      refine w_iald (x := (M 99 x1.toNat)) dX11_isDigit_24 rfl o5 rfl (fun g6 => ?_)
      have h := h g6
      refine w_bipush dX11_isDigit_25 (by decide) ?_
      refine w_icmp_gt dX11_isDigit_27 rfl ⟨g6, (by decide)⟩ (fun c => ?_) (fun c => ?_)
      · have h := h.1 c
        refine w_iconst dX11_isDigit_34 ?_
        exact k_zret dX11_isDigit_35 rfl (by decide) h
      · have h := h.2 c
        refine w_iconst dX11_isDigit_30 ?_
        refine w_goto dX11_isDigit_31 rfl ?_
        exact k_zret dX11_isDigit_35 rfl (by decide) h
theorem vX11_token_in {E : Scr} {f : Mem → Prop} {M : Mem} (h : (KW E mX11_token (qV f) M 0 [(0, pR 98)] [])) : CV E mX11_token [pR 98] M f := by
  refine (show KW E mX11_token (qV f) M 0 [(0, pR 98)] [] from ?_)
  exact k_pick [0] rfl h
theorem vX11_token_0 {E : Scr} {f : Mem → Prop} {M : Mem} (h : ((iR (M 98 7)) → ((iR (M 98 6)) → (((M 98 7) ≥ (M 98 6) → (KW E mX11_token (qV f) M 52 [(0, pR 98)] [])) ∧ ((M 98 7) < (M 98 6) → ((iR (M 98 7)) → (0 ≤ (M 98 7) ∧ (M 98 7) < 700) ∧ ((iR (M 99 ((M 98 7).toNat))) → (((M 99 ((M 98 7).toNat)) = 10 → ((iR (M 98 7)) → (iR ((M 98 7) + 1)) ∧ (KW E mX11_token (qV f) (upM M 98 7 ((M 98 7) + 1)) 0 [(0, pR 98)] []))) ∧ ((M 99 ((M 98 7).toNat)) ≠ 10 → ((iR (M 98 7)) → (0 ≤ (M 98 7) ∧ (M 98 7) < 700) ∧ ((iR (M 99 ((M 98 7).toNat))) → (((M 99 ((M 98 7).toNat)) ≠ 32 → (KW E mX11_token (qV f) M 52 [(0, pR 98)] [])) ∧ ((M 99 ((M 98 7).toNat)) = 32 → ((iR (M 98 7)) → (iR ((M 98 7) + 1)) ∧ (KW E mX11_token (qV f) (upM M 98 7 ((M 98 7) + 1)) 0 [(0, pR 98)] []))))))))))))))) : KW E mX11_token (qV f) M 0 [(0, pR 98)] [] := by
  refine w_aload_n dX11_token_0 rfl ?_
  refine w_getI (x := (M 98 7)) dX11_token_1 fX11_175 rfl rfl rfl (fun g1 => ?_)
  have h := h g1
  refine w_aload_n dX11_token_4 rfl ?_
  refine w_getI (x := (M 98 6)) dX11_token_5 fX11_172 rfl rfl rfl (fun g2 => ?_)
  have h := h g2
  refine w_icmp_ge dX11_token_8 rfl ⟨g1, g2⟩ (fun c => ?_) (fun c => ?_)
  · have h := h.1 c
    exact k_pick [0] rfl h
  · have h := h.2 c
    refine w_aload_n dX11_token_11 rfl ?_
    refine w_getR dX11_token_12 fX11_7 rfl rfl rfl ?_
    refine w_aload_n dX11_token_15 rfl ?_
    refine w_getI (x := (M 98 7)) dX11_token_16 fX11_175 rfl rfl rfl (fun g3 => ?_)
    have h := h g3
    obtain ⟨o4, h⟩ := h
    refine w_iald (x := (M 99 ((M 98 7).toNat))) dX11_token_19 rfl o4 rfl (fun g5 => ?_)
    have h := h g5
    refine w_bipush dX11_token_20 (by decide) ?_
    refine w_icmp_eq dX11_token_22 rfl ⟨g5, (by decide)⟩ (fun c => ?_) (fun c => ?_)
    · have h := h.1 c
      refine w_aload_n dX11_token_39 rfl ?_
      refine w_dup dX11_token_40 rfl ?_
      refine w_getI (x := (M 98 7)) dX11_token_41 fX11_175 rfl rfl rfl (fun g6 => ?_)
      have h := h g6
      refine w_iconst dX11_token_44 ?_
      refine w_iadd dX11_token_45 ?_
      obtain ⟨o7, h⟩ := h
      refine w_putI dX11_token_46 (Or.inl ⟨rfl, fX11_175⟩) rfl rfl o7 ?_
      refine w_goto dX11_token_49 rfl ?_
      exact k_pick [0] rfl h
    · have h := h.2 c
      refine w_aload_n dX11_token_25 rfl ?_
      refine w_getR dX11_token_26 fX11_7 rfl rfl rfl ?_
      refine w_aload_n dX11_token_29 rfl ?_
      refine w_getI (x := (M 98 7)) dX11_token_30 fX11_175 rfl rfl rfl (fun g8 => ?_)
      have h := h g8
      obtain ⟨o9, h⟩ := h
      refine w_iald (x := (M 99 ((M 98 7).toNat))) dX11_token_33 rfl o9 rfl (fun g10 => ?_)
      have h := h g10
      refine w_bipush dX11_token_34 (by decide) ?_
      refine w_icmp_ne dX11_token_36 rfl ⟨g10, (by decide)⟩ (fun c => ?_) (fun c => ?_)
      · have h := h.1 c
        exact k_pick [0] rfl h
      · have h := h.2 c
        refine w_aload_n dX11_token_39 rfl ?_
        refine w_dup dX11_token_40 rfl ?_
        refine w_getI (x := (M 98 7)) dX11_token_41 fX11_175 rfl rfl rfl (fun g11 => ?_)
        have h := h g11
        refine w_iconst dX11_token_44 ?_
        refine w_iadd dX11_token_45 ?_
        obtain ⟨o12, h⟩ := h
        refine w_putI dX11_token_46 (Or.inl ⟨rfl, fX11_175⟩) rfl rfl o12 ?_
        refine w_goto dX11_token_49 rfl ?_
        exact k_pick [0] rfl h
theorem vX11_token_52 {E : Scr} {f : Mem → Prop} {M : Mem} (h : ((iR (M 98 7)) → ((iR (M 98 7)) → ((iR (M 98 6)) → (((M 98 7) ≠ (M 98 6) → ((iR (M 98 7)) → (CI E mX11_isSmall [pR 98, pI (M 98 7)] (upM M 98 10 (M 98 7)) (fun r5 M6 => (iR r5) ∧ ((r5 = 0 → ((iR (M6 98 7)) → (CI E mX11_isDigit [pR 98, pI (M6 98 7)] M6 (fun r9 M10 => (iR r9) ∧ ((r9 = 0 → (CV E mX11_signToken [pR 98] M10 (fun M13 => f M13))) ∧ (r9 ≠ 0 → (KW E mX11_token (qV f) (upM (upM M10 98 8 3) 98 9 0) 213 [(0, pR 98)] []))))))) ∧ (r5 ≠ 0 → (KW E mX11_token (qV f) M6 90 [(0, pR 98)] []))))))) ∧ ((M 98 7) = (M 98 6) → f (upM (upM M 98 10 (M 98 7)) 98 8 0))))))) : KW E mX11_token (qV f) M 52 [(0, pR 98)] [] := by
  refine w_aload_n dX11_token_52 rfl ?_
  refine w_aload_n dX11_token_53 rfl ?_
  refine w_getI (x := (M 98 7)) dX11_token_54 fX11_175 rfl rfl rfl (fun g1 => ?_)
  have h := h g1
  refine w_putI dX11_token_57 (Or.inl ⟨rfl, fX11_169⟩) rfl rfl g1 ?_
  refine w_aload_n dX11_token_60 rfl ?_
  refine w_getI (x := (M 98 7)) dX11_token_61 fX11_175 rfl rfl rfl (fun g2 => ?_)
  have h := h g2
  refine w_aload_n dX11_token_64 rfl ?_
  refine w_getI (x := (M 98 6)) dX11_token_65 fX11_172 rfl rfl rfl (fun g3 => ?_)
  have h := h g3
  refine w_icmp_ne dX11_token_68 rfl ⟨g2, g3⟩ (fun c => ?_) (fun c => ?_)
  · have h := h.1 c
    refine w_aload_n dX11_token_79 rfl ?_
    refine w_aload_n dX11_token_80 rfl ?_
    refine w_getI (x := (M 98 7)) dX11_token_81 fX11_175 rfl rfl rfl (fun g4 => ?_)
    have h := h g4
    refine k_vI (as := [pI (M 98 7)]) dX11_token_84 kX11_181 ⟨⟨Nat.le_of_ble_eq_true rfl, rfl, rfl⟩, Nat.le_of_ble_eq_true rfl⟩ rfl (by decide) rfl (Nat.le_of_ble_eq_true rfl) h ?_
    intro r5 M6 h
    obtain ⟨o7, h⟩ := h
    refine w_if_eq dX11_token_87 rfl o7 (fun c => ?_) (fun c => ?_)
    · have h := h.1 c
      refine w_aload_n dX11_token_192 rfl ?_
      refine w_aload_n dX11_token_193 rfl ?_
      refine w_getI (x := (M6 98 7)) dX11_token_194 fX11_175 rfl rfl rfl (fun g8 => ?_)
      have h := h g8
      refine k_vI (as := [pI (M6 98 7)]) dX11_token_197 kX11_195 ⟨⟨Nat.le_of_ble_eq_true rfl, rfl, rfl⟩, Nat.le_of_ble_eq_true rfl⟩ rfl (by decide) rfl (Nat.le_of_ble_eq_true rfl) h ?_
      intro r9 M10 h
      obtain ⟨o11, h⟩ := h
      refine w_if_eq dX11_token_200 rfl o11 (fun c => ?_) (fun c => ?_)
      · have h := h.1 c
        refine w_aload_n dX11_token_277 rfl ?_
        refine k_vV (as := []) dX11_token_278 kX11_199 ⟨⟨Nat.le_of_ble_eq_true rfl, rfl, rfl⟩, Nat.le_of_ble_eq_true rfl⟩ rfl (by decide) rfl (Nat.le_of_ble_eq_true rfl) h ?_
        intro M13 h
        exact k_vret dX11_token_281 rfl h
      · have h := h.2 c
        refine w_aload_n dX11_token_203 rfl ?_
        refine w_iconst dX11_token_204 ?_
        refine w_putI dX11_token_205 (Or.inl ⟨rfl, fX11_178⟩) rfl rfl (by decide) ?_
        refine w_aload_n dX11_token_208 rfl ?_
        refine w_iconst dX11_token_209 ?_
        refine w_putI dX11_token_210 (Or.inl ⟨rfl, fX11_189⟩) rfl rfl (by decide) ?_
        exact k_pick [0] rfl h
    · have h := h.2 c
      exact k_pick [0] rfl h
  · have h := h.2 c
    refine w_aload_n dX11_token_71 rfl ?_
    refine w_iconst dX11_token_72 ?_
    refine w_putI dX11_token_73 (Or.inl ⟨rfl, fX11_178⟩) rfl rfl (by decide) ?_
    refine w_goto dX11_token_76 rfl ?_
    exact k_vret dX11_token_281 rfl h
theorem vX11_token_213 {E : Scr} {f : Mem → Prop} {M : Mem} (h : ((iR (M 98 7)) → (CI E mX11_isDigit [pR 98, pI (M 98 7)] M (fun r2 M3 => (iR r2) ∧ ((r2 = 0 → f M3) ∧ (r2 ≠ 0 → ((iR (M3 98 9)) → (((M3 98 9) ≤ 99999 → ((iR (M3 98 9)) → ((iR (M3 98 7)) → (0 ≤ (M3 98 7) ∧ (M3 98 7) < 700) ∧ ((iR (M3 99 ((M3 98 7).toNat))) → (iR (((10 * (M3 98 9)) + (M3 99 ((M3 98 7).toNat))) - 48)) ∧ ((iR (M3 98 7)) → (iR ((M3 98 7) + 1)) ∧ (KW E mX11_token (qV f) (upM (upM M3 98 9 (((10 * (M3 98 9)) + (M3 99 ((M3 98 7).toNat))) - 48)) 98 7 ((M3 98 7) + 1)) 213 [(0, pR 98)] [])))))) ∧ ((M3 98 9) > 99999 → ((iR (M3 98 9)) → ((iR (M3 98 7)) → (iR ((M3 98 7) + 1)) ∧ (KW E mX11_token (qV f) (upM (upM M3 98 9 (M3 98 9)) 98 7 ((M3 98 7) + 1)) 213 [(0, pR 98)] [])))))))))))) : KW E mX11_token (qV f) M 213 [(0, pR 98)] [] := by
  refine w_aload_n dX11_token_213 rfl ?_
  refine w_aload_n dX11_token_214 rfl ?_
  refine w_getI (x := (M 98 7)) dX11_token_215 fX11_175 rfl rfl rfl (fun g1 => ?_)
  have h := h g1
  refine k_vI (as := [pI (M 98 7)]) dX11_token_218 kX11_195 ⟨⟨Nat.le_of_ble_eq_true rfl, rfl, rfl⟩, Nat.le_of_ble_eq_true rfl⟩ rfl (by decide) rfl (Nat.le_of_ble_eq_true rfl) h ?_
  intro r2 M3 h
  obtain ⟨o4, h⟩ := h
  refine w_if_eq dX11_token_221 rfl o4 (fun c => ?_) (fun c => ?_)
  · have h := h.1 c
    exact k_vret dX11_token_281 rfl h
  · have h := h.2 c
    refine w_aload_n dX11_token_224 rfl ?_
    refine w_aload_n dX11_token_225 rfl ?_
    refine w_getI (x := (M3 98 9)) dX11_token_226 fX11_189 rfl rfl rfl (fun g5 => ?_)
    have h := h g5
    refine w_ldc dX11_token_229 qX11_198 ?_
    refine w_icmp_le dX11_token_231 rfl ⟨g5, (by decide)⟩ (fun c => ?_) (fun c => ?_)
    · have h := h.1 c
      refine w_bipush dX11_token_241 (by decide) ?_
      refine w_aload_n dX11_token_243 rfl ?_
      refine w_getI (x := (M3 98 9)) dX11_token_244 fX11_189 rfl rfl rfl (fun g6 => ?_)
      have h := h g6
      refine w_imul dX11_token_247 ?_
      refine w_aload_n dX11_token_248 rfl ?_
      refine w_getR dX11_token_249 fX11_7 rfl rfl rfl ?_
      refine w_aload_n dX11_token_252 rfl ?_
      refine w_getI (x := (M3 98 7)) dX11_token_253 fX11_175 rfl rfl rfl (fun g7 => ?_)
      have h := h g7
      obtain ⟨o8, h⟩ := h
      refine w_iald (x := (M3 99 ((M3 98 7).toNat))) dX11_token_256 rfl o8 rfl (fun g9 => ?_)
      have h := h g9
      refine w_iadd dX11_token_257 ?_
      refine w_bipush dX11_token_258 (by decide) ?_
      refine w_isub dX11_token_260 ?_
      obtain ⟨o10, h⟩ := h
      refine w_putI dX11_token_261 (Or.inl ⟨rfl, fX11_189⟩) rfl rfl o10 ?_
      refine w_aload_n dX11_token_264 rfl ?_
      refine w_dup dX11_token_265 rfl ?_
      refine w_getI (x := (M3 98 7)) dX11_token_266 fX11_175 rfl rfl rfl (fun g11 => ?_)
      have h := h g11
      refine w_iconst dX11_token_269 ?_
      refine w_iadd dX11_token_270 ?_
      obtain ⟨o12, h⟩ := h
      refine w_putI dX11_token_271 (Or.inl ⟨rfl, fX11_175⟩) rfl rfl o12 ?_
      refine w_goto dX11_token_274 rfl ?_
      exact k_pick [0] rfl h
    · have h := h.2 c
      refine w_aload_n dX11_token_234 rfl ?_
      refine w_getI (x := (M3 98 9)) dX11_token_235 fX11_189 rfl rfl rfl (fun g13 => ?_)
      have h := h g13
      refine w_goto dX11_token_238 rfl ?_
      refine w_putI dX11_token_261 (Or.inl ⟨rfl, fX11_189⟩) rfl rfl g13 ?_
      refine w_aload_n dX11_token_264 rfl ?_
      refine w_dup dX11_token_265 rfl ?_
      refine w_getI (x := (M3 98 7)) dX11_token_266 fX11_175 rfl rfl rfl (fun g14 => ?_)
      have h := h g14
      refine w_iconst dX11_token_269 ?_
      refine w_iadd dX11_token_270 ?_
      obtain ⟨o15, h⟩ := h
      refine w_putI dX11_token_271 (Or.inl ⟨rfl, fX11_175⟩) rfl rfl o15 ?_
      refine w_goto dX11_token_274 rfl ?_
      exact k_pick [0] rfl h
theorem vX11_token_90 {E : Scr} {f : Mem → Prop} {M : Mem} (h : ((iR (M 98 7)) → (CI E mX11_isSmall [pR 98, pI (M 98 7)] M (fun r2 M3 => (iR r2) ∧ ((r2 = 0 → ((iR (M3 98 10)) → ((iR (M3 98 7)) → (CI E mX11_wordAt [pR 98, pI (M3 98 10), pI (M3 98 7)] M3 (fun r7 M8 => (iR r7) ∧ ((iR r7) → ((r7 < 0 → ((iR (M8 98 7)) → ((iR (M8 98 10)) → (iR ((M8 98 7) - (M8 98 10))) ∧ ((((M8 98 7) - (M8 98 10)) ≤ 6 → (KW E mX11_token (qV f) (upM M8 98 9 r7) 162 [(0, pR 98)] [pI 2, pR 98])) ∧ (((M8 98 7) - (M8 98 10)) > 6 → (KW E mX11_token (qV f) (upM M8 98 9 r7) 162 [(0, pR 98)] [pI 6, pR 98])))))) ∧ (r7 ≥ 0 → (KW E mX11_token (qV f) (upM M8 98 9 r7) 162 [(0, pR 98)] [pI 1, pR 98]))))))))) ∧ (r2 ≠ 0 → ((iR (M3 98 7)) → (iR ((M3 98 7) + 1)) ∧ (KW E mX11_token (qV f) (upM M3 98 7 ((M3 98 7) + 1)) 90 [(0, pR 98)] [])))))))) : KW E mX11_token (qV f) M 90 [(0, pR 98)] [] := by
  refine w_aload_n dX11_token_90 rfl ?_
  refine w_aload_n dX11_token_91 rfl ?_
  refine w_getI (x := (M 98 7)) dX11_token_92 fX11_175 rfl rfl rfl (fun g1 => ?_)
  have h := h g1
  refine k_vI (as := [pI (M 98 7)]) dX11_token_95 kX11_181 ⟨⟨Nat.le_of_ble_eq_true rfl, rfl, rfl⟩, Nat.le_of_ble_eq_true rfl⟩ rfl (by decide) rfl (Nat.le_of_ble_eq_true rfl) h ?_
  intro r2 M3 h
  obtain ⟨o4, h⟩ := h
  refine w_if_eq dX11_token_98 rfl o4 (fun c => ?_) (fun c => ?_)
  · have h := h.1 c
    refine w_aload_n dX11_token_114 rfl ?_
    refine w_aload_n dX11_token_115 rfl ?_
    refine w_aload_n dX11_token_116 rfl ?_
    refine w_getI (x := (M3 98 10)) dX11_token_117 fX11_169 rfl rfl rfl (fun g5 => ?_)
    have h := h g5
    refine w_aload_n dX11_token_120 rfl ?_
    refine w_getI (x := (M3 98 7)) dX11_token_121 fX11_175 rfl rfl rfl (fun g6 => ?_)
    have h := h g6
    refine k_vI (as := [pI (M3 98 10), pI (M3 98 7)]) dX11_token_124 kX11_185 ⟨⟨Nat.le_of_ble_eq_true rfl, rfl, rfl⟩, Nat.le_of_ble_eq_true rfl⟩ rfl (by decide) rfl (Nat.le_of_ble_eq_true rfl) h ?_
    intro r7 M8 h
    obtain ⟨o9, h⟩ := h
    refine w_putI dX11_token_127 (Or.inl ⟨rfl, fX11_189⟩) rfl rfl o9 ?_
    refine w_aload_n dX11_token_130 rfl ?_
    refine w_aload_n dX11_token_131 rfl ?_
    refine w_getI (x := r7) dX11_token_132 fX11_189 rfl rfl rfl (fun g10 => ?_)
    have h := h g10
    refine w_if_lt dX11_token_135 rfl g10 (fun c => ?_) (fun c => ?_)
    · have h := h.1 c
      refine w_aload_n dX11_token_142 rfl ?_
      refine w_getI (x := (M8 98 7)) dX11_token_143 fX11_175 rfl rfl rfl (fun g11 => ?_)
      have h := h g11
      refine w_aload_n dX11_token_146 rfl ?_
      refine w_getI (x := (M8 98 10)) dX11_token_147 fX11_169 rfl rfl rfl (fun g12 => ?_)
      have h := h g12
      refine w_isub dX11_token_150 ?_
      refine w_bipush dX11_token_151 (by decide) ?_
      obtain ⟨o13, h⟩ := h
      refine w_icmp_le dX11_token_153 rfl ⟨o13, (by decide)⟩ (fun c => ?_) (fun c => ?_)
      · have h := h.1 c
        refine w_iconst dX11_token_161 ?_
        exact k_pick [0] rfl h
      · have h := h.2 c
        refine w_bipush dX11_token_156 (by decide) ?_
        refine w_goto dX11_token_158 rfl ?_
        exact k_pick [0] rfl h
    · have h := h.2 c
      refine w_iconst dX11_token_138 ?_
      refine w_goto dX11_token_139 rfl ?_
      exact k_pick [0] rfl h
  · have h := h.2 c
    refine w_aload_n dX11_token_101 rfl ?_
    refine w_dup dX11_token_102 rfl ?_
    refine w_getI (x := (M3 98 7)) dX11_token_103 fX11_175 rfl rfl rfl (fun g14 => ?_)
    have h := h g14
    refine w_iconst dX11_token_106 ?_
    refine w_iadd dX11_token_107 ?_
    obtain ⟨o15, h⟩ := h
    refine w_putI dX11_token_108 (Or.inl ⟨rfl, fX11_175⟩) rfl rfl o15 ?_
    refine w_goto dX11_token_111 rfl ?_
    exact k_pick [0] rfl h
theorem vX11_token_162 {E : Scr} {f : Mem → Prop} {M : Mem} (s0 : Int) (h : (iR s0) ∧ ((iR s0) → ((s0 ≠ 2 → f (upM M 98 8 s0)) ∧ (s0 = 2 → ((iR (M 98 10)) → ((iR (M 98 7)) → (CI E mX11_packed [pR 98, pI (M 98 10), pI (M 98 7)] (upM M 98 8 s0) (fun r5 M6 => (iR r5) ∧ f (upM M6 98 9 r5))))))))) : KW E mX11_token (qV f) M 162 [(0, pR 98)] [pI s0, pR 98] := by
  obtain ⟨o1, h⟩ := h
  refine w_putI dX11_token_162 (Or.inl ⟨rfl, fX11_178⟩) rfl rfl o1 ?_
  refine w_aload_n dX11_token_165 rfl ?_
  refine w_getI (x := s0) dX11_token_166 fX11_178 rfl rfl rfl (fun g2 => ?_)
  have h := h g2
  refine w_iconst dX11_token_169 ?_
  refine w_icmp_ne dX11_token_170 rfl ⟨g2, (by decide)⟩ (fun c => ?_) (fun c => ?_)
  · have h := h.1 c
    exact k_vret dX11_token_281 rfl h
  · have h := h.2 c
    refine w_aload_n dX11_token_173 rfl ?_
    refine w_aload_n dX11_token_174 rfl ?_
    refine w_aload_n dX11_token_175 rfl ?_
    refine w_getI (x := (M 98 10)) dX11_token_176 fX11_169 rfl rfl rfl (fun g3 => ?_)
    have h := h g3
    refine w_aload_n dX11_token_179 rfl ?_
    refine w_getI (x := (M 98 7)) dX11_token_180 fX11_175 rfl rfl rfl (fun g4 => ?_)
    have h := h g4
    refine k_vI (as := [pI (M 98 10), pI (M 98 7)]) dX11_token_183 kX11_192 ⟨⟨Nat.le_of_ble_eq_true rfl, rfl, rfl⟩, Nat.le_of_ble_eq_true rfl⟩ rfl (by decide) rfl (Nat.le_of_ble_eq_true rfl) h ?_
    intro r5 M6 h
    obtain ⟨o7, h⟩ := h
    refine w_putI dX11_token_186 (Or.inl ⟨rfl, fX11_189⟩) rfl rfl o7 ?_
    refine w_goto dX11_token_189 rfl ?_
    exact k_vret dX11_token_281 rfl h
theorem vX11_signToken_0 {E : Scr} {f : Mem → Prop} {M : Mem} (h : ((iR (M 98 7)) → (0 ≤ (M 98 7) ∧ (M 98 7) < 700) ∧ ((iR (M 99 ((M 98 7).toNat))) → ((iR (M 98 7)) → (iR ((M 98 7) + 1)) ∧ ((iR (M 99 ((M 98 7).toNat))) → (((M 99 ((M 98 7).toNat)) = 60 → (KW E mX11_signToken (qV f) (upM (upM M 98 9 (M 99 ((M 98 7).toNat))) 98 7 ((M 98 7) + 1)) 50 [(0, pR 98)] [])) ∧ ((M 99 ((M 98 7).toNat)) ≠ 60 → ((iR (M 99 ((M 98 7).toNat))) → (((M 99 ((M 98 7).toNat)) = 62 → (KW E mX11_signToken (qV f) (upM (upM M 98 9 (M 99 ((M 98 7).toNat))) 98 7 ((M 98 7) + 1)) 50 [(0, pR 98)] [])) ∧ ((M 99 ((M 98 7).toNat)) ≠ 62 → ((iR (M 99 ((M 98 7).toNat))) → (((M 99 ((M 98 7).toNat)) ≠ 61 → ((iR (M 99 ((M 98 7).toNat))) → (((M 99 ((M 98 7).toNat)) = 59 → (KW E mX11_signToken (qV f) (upM (upM M 98 9 (M 99 ((M 98 7).toNat))) 98 7 ((M 98 7) + 1)) 270 [(0, pR 98)] [])) ∧ ((M 99 ((M 98 7).toNat)) ≠ 59 → ((iR (M 99 ((M 98 7).toNat))) → (((M 99 ((M 98 7).toNat)) = 40 → (KW E mX11_signToken (qV f) (upM (upM M 98 9 (M 99 ((M 98 7).toNat))) 98 7 ((M 98 7) + 1)) 270 [(0, pR 98)] [])) ∧ ((M 99 ((M 98 7).toNat)) ≠ 40 → ((iR (M 99 ((M 98 7).toNat))) → (((M 99 ((M 98 7).toNat)) = 41 → (KW E mX11_signToken (qV f) (upM (upM M 98 9 (M 99 ((M 98 7).toNat))) 98 7 ((M 98 7) + 1)) 270 [(0, pR 98)] [])) ∧ ((M 99 ((M 98 7).toNat)) ≠ 41 → ((iR (M 99 ((M 98 7).toNat))) → (((M 99 ((M 98 7).toNat)) = 43 → (KW E mX11_signToken (qV f) (upM (upM M 98 9 (M 99 ((M 98 7).toNat))) 98 7 ((M 98 7) + 1)) 270 [(0, pR 98)] [])) ∧ ((M 99 ((M 98 7).toNat)) ≠ 43 → ((iR (M 99 ((M 98 7).toNat))) → (((M 99 ((M 98 7).toNat)) = 45 → (KW E mX11_signToken (qV f) (upM (upM M 98 9 (M 99 ((M 98 7).toNat))) 98 7 ((M 98 7) + 1)) 270 [(0, pR 98)] [])) ∧ ((M 99 ((M 98 7).toNat)) ≠ 45 → ((iR (M 99 ((M 98 7).toNat))) → (((M 99 ((M 98 7).toNat)) = 42 → (KW E mX11_signToken (qV f) (upM (upM M 98 9 (M 99 ((M 98 7).toNat))) 98 7 ((M 98 7) + 1)) 270 [(0, pR 98)] [])) ∧ ((M 99 ((M 98 7).toNat)) ≠ 42 → ((iR (M 99 ((M 98 7).toNat))) → (((M 99 ((M 98 7).toNat)) = 47 → (KW E mX11_signToken (qV f) (upM (upM M 98 9 (M 99 ((M 98 7).toNat))) 98 7 ((M 98 7) + 1)) 270 [(0, pR 98)] [])) ∧ ((M 99 ((M 98 7).toNat)) ≠ 47 → ((iR (M 99 ((M 98 7).toNat))) → (((M 99 ((M 98 7).toNat)) ≠ 37 → f (upM (upM (upM M 98 9 (M 99 ((M 98 7).toNat))) 98 7 ((M 98 7) + 1)) 98 8 6)) ∧ ((M 99 ((M 98 7).toNat)) = 37 → (KW E mX11_signToken (qV f) (upM (upM M 98 9 (M 99 ((M 98 7).toNat))) 98 7 ((M 98 7) + 1)) 270 [(0, pR 98)] [])))))))))))))))))))))))))) ∧ ((M 99 ((M 98 7).toNat)) = 61 → (KW E mX11_signToken (qV f) (upM (upM M 98 9 (M 99 ((M 98 7).toNat))) 98 7 ((M 98 7) + 1)) 50 [(0, pR 98)] [])))))))))))))) : CV E mX11_signToken [pR 98] M f := by
  refine (show KW E mX11_signToken (qV f) M 0 [(0, pR 98)] [] from ?_)
  refine w_aload_n dX11_signToken_0 rfl ?_
  refine w_aload_n dX11_signToken_1 rfl ?_
  refine w_getR dX11_signToken_2 fX11_7 rfl rfl rfl ?_
  refine w_aload_n dX11_signToken_5 rfl ?_
  refine w_getI (x := (M 98 7)) dX11_signToken_6 fX11_175 rfl rfl rfl (fun g1 => ?_)
  have h := h g1
  obtain ⟨o2, h⟩ := h
  refine w_iald (x := (M 99 ((M 98 7).toNat))) dX11_signToken_9 rfl o2 rfl (fun g3 => ?_)
  have h := h g3
  refine w_putI dX11_signToken_10 (Or.inl ⟨rfl, fX11_189⟩) rfl rfl g3 ?_
  refine w_aload_n dX11_signToken_13 rfl ?_
  refine w_dup dX11_signToken_14 rfl ?_
  refine w_getI (x := (M 98 7)) dX11_signToken_15 fX11_175 rfl rfl rfl (fun g4 => ?_)
  have h := h g4
  refine w_iconst dX11_signToken_18 ?_
  refine w_iadd dX11_signToken_19 ?_
  obtain ⟨o5, h⟩ := h
  refine w_putI dX11_signToken_20 (Or.inl ⟨rfl, fX11_175⟩) rfl rfl o5 ?_
  refine w_aload_n dX11_signToken_23 rfl ?_
  refine w_getI (x := (M 99 ((M 98 7).toNat))) dX11_signToken_24 fX11_189 rfl rfl rfl (fun g6 => ?_)
  have h := h g6
  refine w_bipush dX11_signToken_27 (by decide) ?_
  refine w_icmp_eq dX11_signToken_29 rfl ⟨g6, (by decide)⟩ (fun c => ?_) (fun c => ?_)
  · have h := h.1 c
    exact k_pick [0] rfl h
  · have h := h.2 c
    refine w_aload_n dX11_signToken_32 rfl ?_
    refine w_getI (x := (M 99 ((M 98 7).toNat))) dX11_signToken_33 fX11_189 rfl rfl rfl (fun g7 => ?_)
    have h := h g7
    refine w_bipush dX11_signToken_36 (by decide) ?_
    refine w_icmp_eq dX11_signToken_38 rfl ⟨g7, (by decide)⟩ (fun c => ?_) (fun c => ?_)
    · have h := h.1 c
      exact k_pick [0] rfl h
    · have h := h.2 c
      refine w_aload_n dX11_signToken_41 rfl ?_
      refine w_getI (x := (M 99 ((M 98 7).toNat))) dX11_signToken_42 fX11_189 rfl rfl rfl (fun g8 => ?_)
      have h := h g8
      refine w_bipush dX11_signToken_45 (by decide) ?_
      refine w_icmp_ne dX11_signToken_47 rfl ⟨g8, (by decide)⟩ (fun c => ?_) (fun c => ?_)
      · have h := h.1 c
        refine w_aload_n dX11_signToken_198 rfl ?_
        refine w_getI (x := (M 99 ((M 98 7).toNat))) dX11_signToken_199 fX11_189 rfl rfl rfl (fun g9 => ?_)
        have h := h g9
        refine w_bipush dX11_signToken_202 (by decide) ?_
        refine w_icmp_eq dX11_signToken_204 rfl ⟨g9, (by decide)⟩ (fun c => ?_) (fun c => ?_)
        · have h := h.1 c
          exact k_pick [0] rfl h
        · have h := h.2 c
          refine w_aload_n dX11_signToken_207 rfl ?_
          refine w_getI (x := (M 99 ((M 98 7).toNat))) dX11_signToken_208 fX11_189 rfl rfl rfl (fun g10 => ?_)
          have h := h g10
          refine w_bipush dX11_signToken_211 (by decide) ?_
          refine w_icmp_eq dX11_signToken_213 rfl ⟨g10, (by decide)⟩ (fun c => ?_) (fun c => ?_)
          · have h := h.1 c
            exact k_pick [0] rfl h
          · have h := h.2 c
            refine w_aload_n dX11_signToken_216 rfl ?_
            refine w_getI (x := (M 99 ((M 98 7).toNat))) dX11_signToken_217 fX11_189 rfl rfl rfl (fun g11 => ?_)
            have h := h g11
            refine w_bipush dX11_signToken_220 (by decide) ?_
            refine w_icmp_eq dX11_signToken_222 rfl ⟨g11, (by decide)⟩ (fun c => ?_) (fun c => ?_)
            · have h := h.1 c
              exact k_pick [0] rfl h
            · have h := h.2 c
              refine w_aload_n dX11_signToken_225 rfl ?_
              refine w_getI (x := (M 99 ((M 98 7).toNat))) dX11_signToken_226 fX11_189 rfl rfl rfl (fun g12 => ?_)
              have h := h g12
              refine w_bipush dX11_signToken_229 (by decide) ?_
              refine w_icmp_eq dX11_signToken_231 rfl ⟨g12, (by decide)⟩ (fun c => ?_) (fun c => ?_)
              · have h := h.1 c
                exact k_pick [0] rfl h
              · have h := h.2 c
                refine w_aload_n dX11_signToken_234 rfl ?_
                refine w_getI (x := (M 99 ((M 98 7).toNat))) dX11_signToken_235 fX11_189 rfl rfl rfl (fun g13 => ?_)
                have h := h g13
                refine w_bipush dX11_signToken_238 (by decide) ?_
                refine w_icmp_eq dX11_signToken_240 rfl ⟨g13, (by decide)⟩ (fun c => ?_) (fun c => ?_)
                · have h := h.1 c
                  exact k_pick [0] rfl h
                · have h := h.2 c
                  refine w_aload_n dX11_signToken_243 rfl ?_
                  refine w_getI (x := (M 99 ((M 98 7).toNat))) dX11_signToken_244 fX11_189 rfl rfl rfl (fun g14 => ?_)
                  have h := h g14
                  refine w_bipush dX11_signToken_247 (by decide) ?_
                  refine w_icmp_eq dX11_signToken_249 rfl ⟨g14, (by decide)⟩ (fun c => ?_) (fun c => ?_)
                  · have h := h.1 c
                    exact k_pick [0] rfl h
                  · have h := h.2 c
                    refine w_aload_n dX11_signToken_252 rfl ?_
                    refine w_getI (x := (M 99 ((M 98 7).toNat))) dX11_signToken_253 fX11_189 rfl rfl rfl (fun g15 => ?_)
                    have h := h g15
                    refine w_bipush dX11_signToken_256 (by decide) ?_
                    refine w_icmp_eq dX11_signToken_258 rfl ⟨g15, (by decide)⟩ (fun c => ?_) (fun c => ?_)
                    · have h := h.1 c
                      exact k_pick [0] rfl h
                    · have h := h.2 c
                      refine w_aload_n dX11_signToken_261 rfl ?_
                      refine w_getI (x := (M 99 ((M 98 7).toNat))) dX11_signToken_262 fX11_189 rfl rfl rfl (fun g16 => ?_)
                      have h := h g16
                      refine w_bipush dX11_signToken_265 (by decide) ?_
                      refine w_icmp_ne dX11_signToken_267 rfl ⟨g16, (by decide)⟩ (fun c => ?_) (fun c => ?_)
                      · have h := h.1 c
                        refine w_iconst dX11_signToken_274 ?_
                        refine w_istore_n dX11_signToken_275 (by decide) ?_
                        refine w_aload_n dX11_signToken_276 rfl ?_
                        refine w_iload_n dX11_signToken_277 rfl ?_
                        refine w_if_eq dX11_signToken_278 rfl (by decide) (fun _ => ?_) (fun c => absurd c (by decide))
                        refine w_bipush dX11_signToken_285 (by decide) ?_
                        refine w_putI dX11_signToken_287 (Or.inl ⟨rfl, fX11_178⟩) rfl rfl (by decide) ?_
                        exact k_vret dX11_signToken_290 rfl h
                      · have h := h.2 c
                        exact k_pick [0] rfl h
      · have h := h.2 c
        exact k_pick [0] rfl h
theorem vX11_signToken_50 {E : Scr} {f : Mem → Prop} {M : Mem} (h : ((iR (M 98 7)) → ((iR (M 98 6)) → (((M 98 7) ≥ (M 98 6) → ((iR (M 98 9)) → (((M 98 9) = 61 → (KW E mX11_signToken (qV f) M 95 [(0, pR 98), (1, pI 0)] [pI 0])) ∧ ((M 98 9) ≠ 61 → (KW E mX11_signToken (qV f) M 95 [(0, pR 98), (1, pI 0)] [pI 0]))))) ∧ ((M 98 7) < (M 98 6) → ((iR (M 98 7)) → (0 ≤ (M 98 7) ∧ (M 98 7) < 700) ∧ ((iR (M 99 ((M 98 7).toNat))) → ((iR (M 98 9)) → (((M 98 9) = 61 → (KW E mX11_signToken (qV f) M 95 [(0, pR 98), (1, pI (M 99 ((M 98 7).toNat)))] [pI 0])) ∧ ((M 98 9) ≠ 61 → (((M 99 ((M 98 7).toNat)) ≠ 61 → (KW E mX11_signToken (qV f) M 95 [(0, pR 98), (1, pI (M 99 ((M 98 7).toNat)))] [pI 0])) ∧ ((M 99 ((M 98 7).toNat)) = 61 → (KW E mX11_signToken (qV f) M 95 [(0, pR 98), (1, pI (M 99 ((M 98 7).toNat)))] [pI 1]))))))))))))) : KW E mX11_signToken (qV f) M 50 [(0, pR 98)] [] := by
  refine w_aload_n dX11_signToken_50 rfl ?_
  refine w_getI (x := (M 98 7)) dX11_signToken_51 fX11_175 rfl rfl rfl (fun g1 => ?_)
  have h := h g1
  refine w_aload_n dX11_signToken_54 rfl ?_
  refine w_getI (x := (M 98 6)) dX11_signToken_55 fX11_172 rfl rfl rfl (fun g2 => ?_)
  have h := h g2
  refine w_icmp_ge dX11_signToken_58 rfl ⟨g1, g2⟩ (fun c => ?_) (fun c => ?_)
  · have h := h.1 c
    refine w_iconst dX11_signToken_73 ?_
    refine w_istore_n dX11_signToken_74 (by decide) ?_
    refine w_aload_n dX11_signToken_75 rfl ?_
    refine w_getI (x := (M 98 9)) dX11_signToken_76 fX11_189 rfl rfl rfl (fun g3 => ?_)
    have h := h g3
    refine w_bipush dX11_signToken_79 (by decide) ?_
    refine w_icmp_eq dX11_signToken_81 rfl ⟨g3, (by decide)⟩ (fun c => ?_) (fun c => ?_)
    · have h := h.1 c
      refine w_iconst dX11_signToken_94 ?_
      exact k_pick [1, 0] rfl h
    · have h := h.2 c
      refine w_iload_n dX11_signToken_84 rfl ?_
      refine w_bipush dX11_signToken_85 (by decide) ?_
      refine w_icmp_ne dX11_signToken_87 rfl ⟨(by decide), (by decide)⟩ (fun _ => ?_) (fun c => absurd c (by decide))
      refine w_iconst dX11_signToken_94 ?_
      exact k_pick [1, 0] rfl h
  · have h := h.2 c
    refine w_aload_n dX11_signToken_61 rfl ?_
    refine w_getR dX11_signToken_62 fX11_7 rfl rfl rfl ?_
    refine w_aload_n dX11_signToken_65 rfl ?_
    refine w_getI (x := (M 98 7)) dX11_signToken_66 fX11_175 rfl rfl rfl (fun g4 => ?_)
    have h := h g4
    obtain ⟨o5, h⟩ := h
    refine w_iald (x := (M 99 ((M 98 7).toNat))) dX11_signToken_69 rfl o5 rfl (fun g6 => ?_)
    have h := h g6
    refine w_goto dX11_signToken_70 rfl ?_
    refine w_istore_n dX11_signToken_74 (by decide) ?_
    refine w_aload_n dX11_signToken_75 rfl ?_
    refine w_getI (x := (M 98 9)) dX11_signToken_76 fX11_189 rfl rfl rfl (fun g7 => ?_)
    have h := h g7
    refine w_bipush dX11_signToken_79 (by decide) ?_
    refine w_icmp_eq dX11_signToken_81 rfl ⟨g7, (by decide)⟩ (fun c => ?_) (fun c => ?_)
    · have h := h.1 c
      refine w_iconst dX11_signToken_94 ?_
      exact k_pick [1, 0] rfl h
    · have h := h.2 c
      refine w_iload_n dX11_signToken_84 rfl ?_
      refine w_bipush dX11_signToken_85 (by decide) ?_
      refine w_icmp_ne dX11_signToken_87 rfl ⟨g6, (by decide)⟩ (fun c => ?_) (fun c => ?_)
      · have h := h.1 c
        refine w_iconst dX11_signToken_94 ?_
        exact k_pick [1, 0] rfl h
      · have h := h.2 c
        refine w_iconst dX11_signToken_90 ?_
        refine w_goto dX11_signToken_91 rfl ?_
        exact k_pick [1, 0] rfl h
theorem vX11_signToken_270 {E : Scr} {f : Mem → Prop} {M : Mem} (h : f (upM M 98 8 4)) : KW E mX11_signToken (qV f) M 270 [(0, pR 98)] [] := by
  refine w_iconst dX11_signToken_270 ?_
  refine w_goto dX11_signToken_271 rfl ?_
  refine w_istore_n dX11_signToken_275 (by decide) ?_
  refine w_aload_n dX11_signToken_276 rfl ?_
  refine w_iload_n dX11_signToken_277 rfl ?_
  refine w_if_eq dX11_signToken_278 rfl (by decide) (fun c => absurd c (by decide)) (fun _ => ?_)
  refine w_iconst dX11_signToken_281 ?_
  refine w_goto dX11_signToken_282 rfl ?_
  refine w_putI dX11_signToken_287 (Or.inl ⟨rfl, fX11_178⟩) rfl rfl (by decide) ?_
  exact k_vret dX11_signToken_290 rfl h
theorem vX11_signToken_95 {E : Scr} {f : Mem → Prop} {M : Mem} (x1 s0 : Int) (h : ((iR (M 98 9)) → (((M 98 9) ≠ 60 → (KW E mX11_signToken (qV f) M 115 [(0, pR 98), (2, pI s0)] [])) ∧ ((M 98 9) = 60 → (iR x1) ∧ ((x1 ≠ 62 → (KW E mX11_signToken (qV f) M 115 [(0, pR 98), (2, pI s0)] [])) ∧ (x1 = 62 → (iR s0) ∧ ((s0 ≠ 0 → ((iR (M 98 7)) → (iR ((M 98 7) + 1)) ∧ (KW E mX11_signToken (qV f) (upM M 98 7 ((M 98 7) + 1)) 135 [(0, pR 98), (2, pI s0), (3, pI 1)] []))) ∧ (s0 = 0 → ((iR (M 98 7)) → (iR ((M 98 7) + 1)) ∧ (KW E mX11_signToken (qV f) (upM M 98 7 ((M 98 7) + 1)) 135 [(0, pR 98), (2, pI s0), (3, pI 1)] [])))))))))) : KW E mX11_signToken (qV f) M 95 [(0, pR 98), (1, pI x1)] [pI s0] := by
  refine w_istore_n dX11_signToken_95 (by decide) ?_
  refine w_aload_n dX11_signToken_96 rfl ?_
  refine w_getI (x := (M 98 9)) dX11_signToken_97 fX11_189 rfl rfl rfl (fun g1 => ?_)
  have h := h g1
  refine w_bipush dX11_signToken_100 (by decide) ?_
  refine w_icmp_ne dX11_signToken_102 rfl ⟨g1, (by decide)⟩ (fun c => ?_) (fun c => ?_)
  · have h := h.1 c
    exact k_pick [1, 0] rfl h
  · have h := h.2 c
    refine w_iload_n dX11_signToken_105 rfl ?_
    refine w_bipush dX11_signToken_106 (by decide) ?_
    obtain ⟨o2, h⟩ := h
    refine w_icmp_ne dX11_signToken_108 rfl ⟨o2, (by decide)⟩ (fun c => ?_) (fun c => ?_)
    · have h := h.1 c
      exact k_pick [1, 0] rfl h
    · have h := h.2 c
      refine w_iconst dX11_signToken_111 ?_
      refine w_goto dX11_signToken_112 rfl ?_
      refine w_istore_n dX11_signToken_116 (by decide) ?_
      refine w_iload_n dX11_signToken_117 rfl ?_
      obtain ⟨o3, h⟩ := h
      refine w_if_ne dX11_signToken_118 rfl o3 (fun c => ?_) (fun c => ?_)
      · have h := h.1 c
        refine w_aload_n dX11_signToken_125 rfl ?_
        refine w_dup dX11_signToken_126 rfl ?_
        refine w_getI (x := (M 98 7)) dX11_signToken_127 fX11_175 rfl rfl rfl (fun g4 => ?_)
        have h := h g4
        refine w_iconst dX11_signToken_130 ?_
        refine w_iadd dX11_signToken_131 ?_
        obtain ⟨o5, h⟩ := h
        refine w_putI dX11_signToken_132 (Or.inl ⟨rfl, fX11_175⟩) rfl rfl o5 ?_
        exact k_pick [2, 1, 0] rfl h
      · have h := h.2 c
        refine w_iload_n dX11_signToken_121 rfl ?_
        refine w_if_eq dX11_signToken_122 rfl (by decide) (fun c => absurd c (by decide)) (fun _ => ?_)
        refine w_aload_n dX11_signToken_125 rfl ?_
        refine w_dup dX11_signToken_126 rfl ?_
        refine w_getI (x := (M 98 7)) dX11_signToken_127 fX11_175 rfl rfl rfl (fun g6 => ?_)
        have h := h g6
        refine w_iconst dX11_signToken_130 ?_
        refine w_iadd dX11_signToken_131 ?_
        obtain ⟨o7, h⟩ := h
        refine w_putI dX11_signToken_132 (Or.inl ⟨rfl, fX11_175⟩) rfl rfl o7 ?_
        exact k_pick [2, 1, 0] rfl h
theorem vX11_signToken_115 {E : Scr} {f : Mem → Prop} {M : Mem} (x2 : Int) (h : (iR x2) ∧ ((x2 ≠ 0 → ((iR (M 98 7)) → (iR ((M 98 7) + 1)) ∧ (KW E mX11_signToken (qV f) (upM M 98 7 ((M 98 7) + 1)) 135 [(0, pR 98), (2, pI x2), (3, pI 0)] []))) ∧ (x2 = 0 → (KW E mX11_signToken (qV f) M 135 [(0, pR 98), (2, pI x2), (3, pI 0)] [])))) : KW E mX11_signToken (qV f) M 115 [(0, pR 98), (2, pI x2)] [] := by
  refine w_iconst dX11_signToken_115 ?_
  refine w_istore_n dX11_signToken_116 (by decide) ?_
  refine w_iload_n dX11_signToken_117 rfl ?_
  obtain ⟨o1, h⟩ := h
  refine w_if_ne dX11_signToken_118 rfl o1 (fun c => ?_) (fun c => ?_)
  · have h := h.1 c
    refine w_aload_n dX11_signToken_125 rfl ?_
    refine w_dup dX11_signToken_126 rfl ?_
    refine w_getI (x := (M 98 7)) dX11_signToken_127 fX11_175 rfl rfl rfl (fun g2 => ?_)
    have h := h g2
    refine w_iconst dX11_signToken_130 ?_
    refine w_iadd dX11_signToken_131 ?_
    obtain ⟨o3, h⟩ := h
    refine w_putI dX11_signToken_132 (Or.inl ⟨rfl, fX11_175⟩) rfl rfl o3 ?_
    exact k_pick [1, 2, 0] rfl h
  · have h := h.2 c
    refine w_iload_n dX11_signToken_121 rfl ?_
    refine w_if_eq dX11_signToken_122 rfl (by decide) (fun _ => ?_) (fun c => absurd c (by decide))
    exact k_pick [1, 2, 0] rfl h
theorem vX11_signToken_135 {E : Scr} {f : Mem → Prop} {M : Mem} (x2 x3 : Int) (h : ((iR (M 98 9)) → (((M 98 9) ≠ 61 → ((iR (M 98 9)) → (((M 98 9) ≠ 60 → (iR x2) ∧ ((x2 = 0 → f (upM (upM M 98 8 5) 98 9 5)) ∧ (x2 ≠ 0 → f (upM (upM M 98 8 5) 98 9 4)))) ∧ ((M 98 9) = 60 → (iR x2) ∧ ((x2 = 0 → (iR x3) ∧ ((x3 = 0 → f (upM (upM M 98 8 5) 98 9 0)) ∧ (x3 ≠ 0 → f (upM (upM M 98 8 5) 98 9 3)))) ∧ (x2 ≠ 0 → f (upM (upM M 98 8 5) 98 9 1))))))) ∧ ((M 98 9) = 61 → f (upM (upM M 98 8 5) 98 9 2))))) : KW E mX11_signToken (qV f) M 135 [(0, pR 98), (2, pI x2), (3, pI x3)] [] := by
  refine w_aload_n dX11_signToken_135 rfl ?_
  refine w_iconst dX11_signToken_136 ?_
  refine w_putI dX11_signToken_137 (Or.inl ⟨rfl, fX11_178⟩) rfl rfl (by decide) ?_
  refine w_aload_n dX11_signToken_140 rfl ?_
  refine w_aload_n dX11_signToken_141 rfl ?_
  refine w_getI (x := (M 98 9)) dX11_signToken_142 fX11_189 rfl rfl rfl (fun g1 => ?_)
  have h := h g1
  refine w_bipush dX11_signToken_145 (by decide) ?_
  refine w_icmp_ne dX11_signToken_147 rfl ⟨g1, (by decide)⟩ (fun c => ?_) (fun c => ?_)
  · have h := h.1 c
    refine w_aload_n dX11_signToken_154 rfl ?_
    refine w_getI (x := (M 98 9)) dX11_signToken_155 fX11_189 rfl rfl rfl (fun g2 => ?_)
    have h := h g2
    refine w_bipush dX11_signToken_158 (by decide) ?_
    refine w_icmp_ne dX11_signToken_160 rfl ⟨g2, (by decide)⟩ (fun c => ?_) (fun c => ?_)
    · have h := h.1 c
      refine w_iload_n dX11_signToken_183 rfl ?_
      obtain ⟨o3, h⟩ := h
      refine w_if_eq dX11_signToken_184 rfl o3 (fun c => ?_) (fun c => ?_)
      · have h := h.1 c
        refine w_iconst dX11_signToken_191 ?_
        refine w_putI dX11_signToken_192 (Or.inl ⟨rfl, fX11_189⟩) rfl rfl (by decide) ?_
        refine w_goto dX11_signToken_195 rfl ?_
        exact k_vret dX11_signToken_290 rfl h
      · have h := h.2 c
        refine w_iconst dX11_signToken_187 ?_
        refine w_goto dX11_signToken_188 rfl ?_
        refine w_putI dX11_signToken_192 (Or.inl ⟨rfl, fX11_189⟩) rfl rfl (by decide) ?_
        refine w_goto dX11_signToken_195 rfl ?_
        exact k_vret dX11_signToken_290 rfl h
    · have h := h.2 c
      refine w_iload_n dX11_signToken_163 rfl ?_
      obtain ⟨o4, h⟩ := h
      refine w_if_eq dX11_signToken_164 rfl o4 (fun c => ?_) (fun c => ?_)
      · have h := h.1 c
        refine w_iload_n dX11_signToken_171 rfl ?_
        obtain ⟨o5, h⟩ := h
        refine w_if_eq dX11_signToken_172 rfl o5 (fun c => ?_) (fun c => ?_)
        · have h := h.1 c
          refine w_iconst dX11_signToken_179 ?_
          refine w_goto dX11_signToken_180 rfl ?_
          refine w_putI dX11_signToken_192 (Or.inl ⟨rfl, fX11_189⟩) rfl rfl (by decide) ?_
          refine w_goto dX11_signToken_195 rfl ?_
          exact k_vret dX11_signToken_290 rfl h
        · have h := h.2 c
          refine w_iconst dX11_signToken_175 ?_
          refine w_goto dX11_signToken_176 rfl ?_
          refine w_putI dX11_signToken_192 (Or.inl ⟨rfl, fX11_189⟩) rfl rfl (by decide) ?_
          refine w_goto dX11_signToken_195 rfl ?_
          exact k_vret dX11_signToken_290 rfl h
      · have h := h.2 c
        refine w_iconst dX11_signToken_167 ?_
        refine w_goto dX11_signToken_168 rfl ?_
        refine w_putI dX11_signToken_192 (Or.inl ⟨rfl, fX11_189⟩) rfl rfl (by decide) ?_
        refine w_goto dX11_signToken_195 rfl ?_
        exact k_vret dX11_signToken_290 rfl h
  · have h := h.2 c
    refine w_iconst dX11_signToken_150 ?_
    refine w_goto dX11_signToken_151 rfl ?_
    refine w_putI dX11_signToken_192 (Or.inl ⟨rfl, fX11_189⟩) rfl rfl (by decide) ?_
    refine w_goto dX11_signToken_195 rfl ?_
    exact k_vret dX11_signToken_290 rfl h
theorem vX11_packed_0 {E : Scr} {f : Int → Mem → Prop} {M : Mem} (x1 x2 : Int) (h : (KW E mX11_packed (qI f) M 5 [(0, pR 98), (1, pI x1), (2, pI x2), (3, pI 0), (4, pI x1)] [])) : CI E mX11_packed [pR 98, pI x1, pI x2] M f := by
  refine (show KW E mX11_packed (qI f) M 0 [(0, pR 98), (1, pI x1), (2, pI x2)] [] from ?_)
  refine w_iconst dX11_packed_0 ?_
  refine w_istore_n dX11_packed_1 (by decide) ?_
  refine w_iload_n dX11_packed_2 rfl ?_
  refine w_istore dX11_packed_3 (by decide) ?_
  exact k_pick [2, 3, 4, 1, 0] rfl h
theorem vX11_packed_5 {E : Scr} {f : Int → Mem → Prop} {M : Mem} (x1 x2 x3 x4 : Int) (h : (iR x4) ∧ (iR (x1 + 6)) ∧ ((x4 ≥ (x1 + 6) → f x3 M) ∧ (x4 < (x1 + 6) → (iR x4) ∧ (iR x2) ∧ ((x4 ≥ x2 → (KW E mX11_packed (qI f) M 5 [(0, pR 98), (1, pI x1), (2, pI x2), (3, pI (bOr (bShl x3 5) 0)), (4, pI (x4 + 1))] [])) ∧ (x4 < x2 → (0 ≤ x4 ∧ x4 < 700) ∧ ((iR (M 99 x4.toNat)) → (KW E mX11_packed (qI f) M 5 [(0, pR 98), (1, pI x1), (2, pI x2), (3, pI (bOr (bShl x3 5) ((M 99 x4.toNat) - 96))), (4, pI (x4 + 1))] []))))))) : KW E mX11_packed (qI f) M 5 [(0, pR 98), (1, pI x1), (2, pI x2), (3, pI x3), (4, pI x4)] [] := by
  refine w_iload dX11_packed_5 rfl ?_
  refine w_iload_n dX11_packed_7 rfl ?_
  refine w_bipush dX11_packed_8 (by decide) ?_
  refine w_iadd dX11_packed_10 ?_
  obtain ⟨o1, h⟩ := h
  obtain ⟨o2, h⟩ := h
  refine w_icmp_ge dX11_packed_11 rfl ⟨o1, o2⟩ (fun c => ?_) (fun c => ?_)
  · have h := h.1 c
    refine w_iload_n dX11_packed_45 rfl ?_
    exact k_iret dX11_packed_46 rfl h
  · have h := h.2 c
    refine w_iload_n dX11_packed_14 rfl ?_
    refine w_iconst dX11_packed_15 ?_
    refine w_ishl dX11_packed_16 ?_
    refine w_iload dX11_packed_17 rfl ?_
    refine w_iload_n dX11_packed_19 rfl ?_
    obtain ⟨o3, h⟩ := h
    obtain ⟨o4, h⟩ := h
    refine w_icmp_ge dX11_packed_20 rfl ⟨o3, o4⟩ (fun c => ?_) (fun c => ?_)
    · have h := h.1 c
      refine w_iconst dX11_packed_36 ?_
      refine w_ior dX11_packed_37 ?_
      refine w_istore_n dX11_packed_38 (by decide) ?_
      refine w_iinc dX11_packed_39 rfl (by decide) ?_
      refine w_goto dX11_packed_42 rfl ?_
      exact k_pick [2, 3, 4, 1, 0] rfl h
    · have h := h.2 c
      refine w_aload_n dX11_packed_23 rfl ?_
      refine w_getR dX11_packed_24 fX11_7 rfl rfl rfl ?_
      refine w_iload dX11_packed_27 rfl ?_
      obtain ⟨o5, h⟩ := h
      refine w_iald (x := (M 99 x4.toNat)) dX11_packed_29 rfl o5 rfl (fun g6 => ?_)
      have h := h g6
      refine w_bipush dX11_packed_30 (by decide) ?_
      refine w_isub dX11_packed_32 ?_
      refine w_goto dX11_packed_33 rfl ?_
      refine w_ior dX11_packed_37 ?_
      refine w_istore_n dX11_packed_38 (by decide) ?_
      refine w_iinc dX11_packed_39 rfl (by decide) ?_
      refine w_goto dX11_packed_42 rfl ?_
      exact k_pick [2, 3, 4, 1, 0] rfl h
theorem vX11_isKey_0 {E : Scr} {f : Int → Mem → Prop} {M : Mem} (x1 : Int) (h : ((iR (M 98 8)) → (((M 98 8) ≠ 1 → f 0 M) ∧ ((M 98 8) = 1 → ((iR (M 98 9)) → (iR x1) ∧ (((M 98 9) ≠ x1 → f 0 M) ∧ ((M 98 9) = x1 → f 1 M))))))) : CI E mX11_isKey [pR 98, pI x1] M f := by
  refine (show KW E mX11_isKey (qI f) M 0 [(0, pR 98), (1, pI x1)] [] from ?_)
  refine w_aload_n dX11_isKey_0 rfl ?_
  refine w_getI (x := (M 98 8)) dX11_isKey_1 fX11_178 rfl rfl rfl (fun g1 => ?_)
  have h := h g1
  refine w_iconst dX11_isKey_4 ?_
  refine w_icmp_ne dX11_isKey_5 rfl ⟨g1, (by decide)⟩ (fun c => ?_) (fun c => ?_)
  · have h := h.1 c
    refine w_iconst dX11_isKey_20 ?_
    exact k_zret dX11_isKey_21 rfl (by decide) h
  · have h := h.2 c
    refine w_aload_n dX11_isKey_8 rfl ?_
    refine w_getI (x := (M 98 9)) dX11_isKey_9 fX11_189 rfl rfl rfl (fun g2 => ?_)
    have h := h g2
    refine w_iload_n dX11_isKey_12 rfl ?_
    obtain ⟨o3, h⟩ := h
    refine w_icmp_ne dX11_isKey_13 rfl ⟨g2, o3⟩ (fun c => ?_) (fun c => ?_)
    · have h := h.1 c
      refine w_iconst dX11_isKey_20 ?_
      exact k_zret dX11_isKey_21 rfl (by decide) h
    · have h := h.2 c
      refine w_iconst dX11_isKey_16 ?_
      refine w_goto dX11_isKey_17 rfl ?_
      exact k_zret dX11_isKey_21 rfl (by decide) h
theorem vX11_isSign_0 {E : Scr} {f : Int → Mem → Prop} {M : Mem} (x1 : Int) (h : ((iR (M 98 8)) → (((M 98 8) ≠ 4 → f 0 M) ∧ ((M 98 8) = 4 → ((iR (M 98 9)) → (iR x1) ∧ (((M 98 9) ≠ x1 → f 0 M) ∧ ((M 98 9) = x1 → f 1 M))))))) : CI E mX11_isSign [pR 98, pI x1] M f := by
  refine (show KW E mX11_isSign (qI f) M 0 [(0, pR 98), (1, pI x1)] [] from ?_)
  refine w_aload_n dX11_isSign_0 rfl ?_
  refine w_getI (x := (M 98 8)) dX11_isSign_1 fX11_178 rfl rfl rfl (fun g1 => ?_)
  have h := h g1
  refine w_iconst dX11_isSign_4 ?_
  refine w_icmp_ne dX11_isSign_5 rfl ⟨g1, (by decide)⟩ (fun c => ?_) (fun c => ?_)
  · have h := h.1 c
    refine w_iconst dX11_isSign_20 ?_
    exact k_zret dX11_isSign_21 rfl (by decide) h
  · have h := h.2 c
    refine w_aload_n dX11_isSign_8 rfl ?_
    refine w_getI (x := (M 98 9)) dX11_isSign_9 fX11_189 rfl rfl rfl (fun g2 => ?_)
    have h := h g2
    refine w_iload_n dX11_isSign_12 rfl ?_
    obtain ⟨o3, h⟩ := h
    refine w_icmp_ne dX11_isSign_13 rfl ⟨g2, o3⟩ (fun c => ?_) (fun c => ?_)
    · have h := h.1 c
      refine w_iconst dX11_isSign_20 ?_
      exact k_zret dX11_isSign_21 rfl (by decide) h
    · have h := h.2 c
      refine w_iconst dX11_isSign_16 ?_
      refine w_goto dX11_isSign_17 rfl ?_
      exact k_zret dX11_isSign_21 rfl (by decide) h
theorem vX11_number_0 {E : Scr} {f : Int → Mem → Prop} {M : Mem} (x1 x2 : Int) (h : ((iR (M 98 8)) → (((M 98 8) = 3 → ((iR (M 98 9)) → (CI E mX11_isIn [pI (M 98 9), pI x1, pI x2] M (fun r3 M4 => (iR r3) ∧ ((r3 ≠ 0 → ((iR (M4 98 9)) → (CV E mX11_token [pR 98] (upM M4 98 11 (M4 98 9)) (fun M8 => f 1 M8)))) ∧ (r3 = 0 → (CI E mX11_wrong [pR 98, pI 2] M4 (fun r9 M10 => (zR r9) ∧ f r9 M10)))))))) ∧ ((M 98 8) ≠ 3 → (CI E mX11_wrong [pR 98, pI 1] M (fun r12 M13 => (zR r12) ∧ f r12 M13)))))) : CI E mX11_number [pR 98, pI x1, pI x2] M f := by
  refine (show KW E mX11_number (qI f) M 0 [(0, pR 98), (1, pI x1), (2, pI x2)] [] from ?_)
  refine w_aload_n dX11_number_0 rfl ?_
  refine w_getI (x := (M 98 8)) dX11_number_1 fX11_178 rfl rfl rfl (fun g1 => ?_)
  have h := h g1
  refine w_iconst dX11_number_4 ?_
  refine w_icmp_eq dX11_number_5 rfl ⟨g1, (by decide)⟩ (fun c => ?_) (fun c => ?_)
  · have h := h.1 c
    refine w_aload_n dX11_number_14 rfl ?_
    refine w_getI (x := (M 98 9)) dX11_number_15 fX11_189 rfl rfl rfl (fun g2 => ?_)
    have h := h g2
    refine w_iload_n dX11_number_18 rfl ?_
    refine w_iload_n dX11_number_19 rfl ?_
    refine k_sI (as := [pI (M 98 9), pI x1, pI x2]) dX11_number_20 kX11_205 ⟨⟨Nat.le_of_ble_eq_true rfl, rfl, rfl⟩, Nat.le_of_ble_eq_true rfl⟩ rfl (Nat.le_of_ble_eq_true rfl) h ?_
    intro r3 M4 h
    obtain ⟨o5, h⟩ := h
    refine w_if_ne dX11_number_23 rfl o5 (fun c => ?_) (fun c => ?_)
    · have h := h.1 c
      refine w_aload_n dX11_number_32 rfl ?_
      refine w_aload_n dX11_number_33 rfl ?_
      refine w_getI (x := (M4 98 9)) dX11_number_34 fX11_189 rfl rfl rfl (fun g6 => ?_)
      have h := h g6
      refine w_putI dX11_number_37 (Or.inl ⟨rfl, fX11_209⟩) rfl rfl g6 ?_
      refine w_aload_n dX11_number_40 rfl ?_
      refine k_vV (as := []) dX11_number_41 kX11_212 ⟨⟨Nat.le_of_ble_eq_true rfl, rfl, rfl⟩, Nat.le_of_ble_eq_true rfl⟩ rfl (by decide) rfl (Nat.le_of_ble_eq_true rfl) h ?_
      intro M8 h
      refine w_iconst dX11_number_44 ?_
      exact k_zret dX11_number_45 rfl (by decide) h
    · have h := h.2 c
      refine w_aload_n dX11_number_26 rfl ?_
      refine w_iconst dX11_number_27 ?_
      refine k_vI (as := [pI 2]) dX11_number_28 kX11_202 ⟨⟨Nat.le_of_ble_eq_true rfl, rfl, rfl⟩, Nat.le_of_ble_eq_true rfl⟩ rfl (by decide) rfl (Nat.le_of_ble_eq_true rfl) h ?_
      intro r9 M10 h
      obtain ⟨o11, h⟩ := h
      exact k_zret dX11_number_31 rfl o11 h
  · have h := h.2 c
    refine w_aload_n dX11_number_8 rfl ?_
    refine w_iconst dX11_number_9 ?_
    refine k_vI (as := [pI 1]) dX11_number_10 kX11_202 ⟨⟨Nat.le_of_ble_eq_true rfl, rfl, rfl⟩, Nat.le_of_ble_eq_true rfl⟩ rfl (by decide) rfl (Nat.le_of_ble_eq_true rfl) h ?_
    intro r12 M13 h
    obtain ⟨o14, h⟩ := h
    exact k_zret dX11_number_13 rfl o14 h
theorem vX11_plain_0 {E : Scr} {f : Mem → Prop} {M : Mem} (h : (KW E mX11_plain (qV f) (upM (upM (upM (upM (upM (upM M 98 16 0) 98 17 0) 98 18 0) 98 19 0) 98 33 0) 98 45 0) 32 [(0, pR 98), (1, pI 0)] [])) : CV E mX11_plain [pR 98] M f := by
  refine (show KW E mX11_plain (qV f) M 0 [(0, pR 98)] [] from ?_)
  refine w_aload_n dX11_plain_0 rfl ?_
  refine w_iconst dX11_plain_1 ?_
  refine w_putI dX11_plain_2 (Or.inl ⟨rfl, fX11_222⟩) rfl rfl (by decide) ?_
  refine w_aload_n dX11_plain_5 rfl ?_
  refine w_iconst dX11_plain_6 ?_
  refine w_putI dX11_plain_7 (Or.inl ⟨rfl, fX11_225⟩) rfl rfl (by decide) ?_
  refine w_aload_n dX11_plain_10 rfl ?_
  refine w_iconst dX11_plain_11 ?_
  refine w_putI dX11_plain_12 (Or.inl ⟨rfl, fX11_228⟩) rfl rfl (by decide) ?_
  refine w_aload_n dX11_plain_15 rfl ?_
  refine w_iconst dX11_plain_16 ?_
  refine w_putI dX11_plain_17 (Or.inl ⟨rfl, fX11_231⟩) rfl rfl (by decide) ?_
  refine w_aload_n dX11_plain_20 rfl ?_
  refine w_iconst dX11_plain_21 ?_
  refine w_putI dX11_plain_22 (Or.inl ⟨rfl, fX11_234⟩) rfl rfl (by decide) ?_
  refine w_aload_n dX11_plain_25 rfl ?_
  refine w_iconst dX11_plain_26 ?_
  refine w_putI dX11_plain_27 (Or.inl ⟨rfl, fX11_237⟩) rfl rfl (by decide) ?_
  refine w_iconst dX11_plain_30 ?_
  refine w_istore_n dX11_plain_31 (by decide) ?_
  exact k_pick [1, 0] rfl h
theorem vX11_plain_32 {E : Scr} {f : Mem → Prop} {M : Mem} (x1 : Int) (h : (iR x1) ∧ ((x1 ≥ 2 → (KW E mX11_plain (qV f) M 62 [(0, pR 98), (1, pI 8)] [])) ∧ (x1 < 2 → (0 ≤ x1 ∧ x1 < 2) ∧ (0 ≤ (2 + x1) ∧ (2 + x1) < 4) ∧ (KW E mX11_plain (qV f) (upM (upM M 101 x1.toNat 0) 102 ((2 + x1).toNat) 0) 32 [(0, pR 98), (1, pI (x1 + 1))] [])))) : KW E mX11_plain (qV f) M 32 [(0, pR 98), (1, pI x1)] [] := by
  refine w_iload_n dX11_plain_32 rfl ?_
  refine w_iconst dX11_plain_33 ?_
  obtain ⟨o1, h⟩ := h
  refine w_icmp_ge dX11_plain_34 rfl ⟨o1, (by decide)⟩ (fun c => ?_) (fun c => ?_)
  · have h := h.1 c
    refine w_bipush dX11_plain_59 (by decide) ?_
    refine w_istore_n dX11_plain_61 (by decide) ?_
    exact k_pick [1, 0] rfl h
  · have h := h.2 c
    refine w_aload_n dX11_plain_37 rfl ?_
    refine w_getR dX11_plain_38 fX11_20 rfl rfl rfl ?_
    refine w_iload_n dX11_plain_41 rfl ?_
    refine w_iconst dX11_plain_42 ?_
    obtain ⟨o2, h⟩ := h
    refine w_zast dX11_plain_43 rfl o2 (by decide) ?_
    refine w_aload_n dX11_plain_44 rfl ?_
    refine w_getR dX11_plain_45 fX11_24 rfl rfl rfl ?_
    refine w_iconst dX11_plain_48 ?_
    refine w_iload_n dX11_plain_49 rfl ?_
    refine w_iadd dX11_plain_50 ?_
    refine w_iconst dX11_plain_51 ?_
    obtain ⟨o3, h⟩ := h
    refine w_iast dX11_plain_52 rfl o3 (by decide) ?_
    refine w_iinc dX11_plain_53 rfl (by decide) ?_
    refine w_goto dX11_plain_56 rfl ?_
    exact k_pick [1, 0] rfl h
theorem vX11_plain_62 {E : Scr} {f : Mem → Prop} {M : Mem} (x1 : Int) (h : (iR x1) ∧ ((x1 ≥ 16 → (KW E mX11_plain (qV f) M 90 [(0, pR 98), (1, pI 3)] [])) ∧ (x1 < 16 → (0 ≤ x1 ∧ x1 < 16) ∧ (0 ≤ x1 ∧ x1 < 16) ∧ (KW E mX11_plain (qV f) (upM (upM M 105 x1.toNat (-1)) 106 x1.toNat 0) 62 [(0, pR 98), (1, pI (x1 + 1))] [])))) : KW E mX11_plain (qV f) M 62 [(0, pR 98), (1, pI x1)] [] := by
  refine w_iload_n dX11_plain_62 rfl ?_
  refine w_bipush dX11_plain_63 (by decide) ?_
  obtain ⟨o1, h⟩ := h
  refine w_icmp_ge dX11_plain_65 rfl ⟨o1, (by decide)⟩ (fun c => ?_) (fun c => ?_)
  · have h := h.1 c
    refine w_iconst dX11_plain_88 ?_
    refine w_istore_n dX11_plain_89 (by decide) ?_
    exact k_pick [1, 0] rfl h
  · have h := h.2 c
    refine w_aload_n dX11_plain_68 rfl ?_
    refine w_getR dX11_plain_69 fX11_33 rfl rfl rfl ?_
    refine w_iload_n dX11_plain_72 rfl ?_
    refine w_iconst dX11_plain_73 ?_
    obtain ⟨o2, h⟩ := h
    refine w_iast dX11_plain_74 rfl o2 (by decide) ?_
    refine w_aload_n dX11_plain_75 rfl ?_
    refine w_getR dX11_plain_76 fX11_36 rfl rfl rfl ?_
    refine w_iload_n dX11_plain_79 rfl ?_
    refine w_iconst dX11_plain_80 ?_
    obtain ⟨o3, h⟩ := h
    refine w_iast dX11_plain_81 rfl o3 (by decide) ?_
    refine w_iinc dX11_plain_82 rfl (by decide) ?_
    refine w_goto dX11_plain_85 rfl ?_
    exact k_pick [1, 0] rfl h
theorem vX11_plain_90 {E : Scr} {f : Mem → Prop} {M : Mem} (x1 : Int) (h : (iR x1) ∧ ((x1 ≥ 6 → f M) ∧ (x1 < 6 → (0 ≤ x1 ∧ x1 < 6) ∧ (KW E mX11_plain (qV f) (upM M 113 x1.toNat 0) 90 [(0, pR 98), (1, pI (x1 + 1))] [])))) : KW E mX11_plain (qV f) M 90 [(0, pR 98), (1, pI x1)] [] := by
  refine w_iload_n dX11_plain_90 rfl ?_
  refine w_bipush dX11_plain_91 (by decide) ?_
  obtain ⟨o1, h⟩ := h
  refine w_icmp_ge dX11_plain_93 rfl ⟨o1, (by decide)⟩ (fun c => ?_) (fun c => ?_)
  · have h := h.1 c
    exact k_vret dX11_plain_109 rfl h
  · have h := h.2 c
    refine w_aload_n dX11_plain_96 rfl ?_
    refine w_getR dX11_plain_97 fX11_57 rfl rfl rfl ?_
    refine w_iload_n dX11_plain_100 rfl ?_
    refine w_iconst dX11_plain_101 ?_
    obtain ⟨o2, h⟩ := h
    refine w_zast dX11_plain_102 rfl o2 (by decide) ?_
    refine w_iinc dX11_plain_103 rfl (by decide) ?_
    refine w_goto dX11_plain_106 rfl ?_
    exact k_pick [1, 0] rfl h
theorem vX11_copies_0 {E : Scr} {f : Mem → Prop} {M : Mem} (x1 : Int) {aa nn : Nat} (hT : T0[aa]? = some (20, nn)) (h : (KW E mX11_copies (qV f) M 2 [(0, pR aa), (1, pI x1), (2, pI 0)] [])) : CV E mX11_copies [pR aa, pI x1] M f := by
  refine (show KW E mX11_copies (qV f) M 0 [(0, pR aa), (1, pI x1)] [] from ?_)
  refine w_iconst dX11_copies_0 ?_
  refine w_istore_n dX11_copies_1 (by decide) ?_
  exact k_pick [1, 2, 0] rfl h
theorem vX11_copies_2 {E : Scr} {f : Mem → Prop} {M : Mem} (x1 x2 : Int) {aa nn : Nat} (hT : T0[aa]? = some (20, nn)) (h : (iR x2) ∧ (iR x1) ∧ ((x2 ≥ x1 → f M) ∧ (x2 < x1 → (0 ≤ (x1 + x2) ∧ (x1 + x2) < nn) ∧ ((iR (M aa ((x1 + x2).toNat))) → (0 ≤ x2 ∧ x2 < nn) ∧ (KW E mX11_copies (qV f) (upM M aa x2.toNat (M aa ((x1 + x2).toNat))) 2 [(0, pR aa), (1, pI x1), (2, pI (x2 + 1))] []))))) : KW E mX11_copies (qV f) M 2 [(0, pR aa), (1, pI x1), (2, pI x2)] [] := by
  refine w_iload_n dX11_copies_2 rfl ?_
  refine w_iload_n dX11_copies_3 rfl ?_
  obtain ⟨o1, h⟩ := h
  obtain ⟨o2, h⟩ := h
  refine w_icmp_ge dX11_copies_4 rfl ⟨o1, o2⟩ (fun c => ?_) (fun c => ?_)
  · have h := h.1 c
    exact k_vret dX11_copies_21 rfl h
  · have h := h.2 c
    refine w_aload_n dX11_copies_7 rfl ?_
    refine w_iload_n dX11_copies_8 rfl ?_
    refine w_aload_n dX11_copies_9 rfl ?_
    refine w_iload_n dX11_copies_10 rfl ?_
    refine w_iload_n dX11_copies_11 rfl ?_
    refine w_iadd dX11_copies_12 ?_
    obtain ⟨o3, h⟩ := h
    refine w_iald (x := (M aa ((x1 + x2).toNat))) dX11_copies_13 hT o3 rfl (fun g4 => ?_)
    have h := h g4
    obtain ⟨o5, h⟩ := h
    refine w_iast dX11_copies_14 hT o5 g4 ?_
    refine w_iinc dX11_copies_15 rfl (by decide) ?_
    refine w_goto dX11_copies_18 rfl ?_
    exact k_pick [1, 2, 0] rfl h
theorem vX11_keepText_0 {E : Scr} {f : Mem → Prop} {M : Mem} (h : ((iR (M 98 16)) → ((iR (M 98 17)) → ((iR (M 98 18)) → ((iR (M 98 45)) → ((iR (M 98 33)) → (CV E mX11_copies [pR 102, pI 2] (upM (upM (upM (upM (upM M 98 12 (M 98 16)) 98 13 (M 98 17)) 98 14 (M 98 18)) 98 15 (M 98 45)) 98 32 (M 98 33)) (fun M7 => (CV E mX11_copies [pR 103, pI 8] M7 (fun M9 => (CV E mX11_copies [pR 104, pI 8] M9 (fun M11 => (CV E mX11_copies [pR 105, pI 8] M11 (fun M13 => (CV E mX11_copies [pR 106, pI 8] M13 (fun M15 => (CV E mX11_copies [pR 107, pI 16] M15 (fun M17 => (CV E mX11_copies [pR 108, pI 16] M17 (fun M19 => (CV E mX11_copies [pR 109, pI 4] M19 (fun M21 => (CV E mX11_copies [pR 110, pI 64] M21 (fun M23 => (CV E mX11_copies [pR 111, pI 64] M23 (fun M25 => (CV E mX11_copies [pR 112, pI 64] M25 (fun M27 => (KW E mX11_keepText (qV f) M27 139 [(0, pR 98), (1, pI 0)] []))))))))))))))))))))))))))))) : CV E mX11_keepText [pR 98] M f := by
  refine (show KW E mX11_keepText (qV f) M 0 [(0, pR 98)] [] from ?_)
  refine w_aload_n dX11_keepText_0 rfl ?_
  refine w_aload_n dX11_keepText_1 rfl ?_
  refine w_getI (x := (M 98 16)) dX11_keepText_2 fX11_222 rfl rfl rfl (fun g1 => ?_)
  have h := h g1
  refine w_putI dX11_keepText_5 (Or.inl ⟨rfl, fX11_240⟩) rfl rfl g1 ?_
  refine w_aload_n dX11_keepText_8 rfl ?_
  refine w_aload_n dX11_keepText_9 rfl ?_
  refine w_getI (x := (M 98 17)) dX11_keepText_10 fX11_225 rfl rfl rfl (fun g2 => ?_)
  have h := h g2
  refine w_putI dX11_keepText_13 (Or.inl ⟨rfl, fX11_243⟩) rfl rfl g2 ?_
  refine w_aload_n dX11_keepText_16 rfl ?_
  refine w_aload_n dX11_keepText_17 rfl ?_
  refine w_getI (x := (M 98 18)) dX11_keepText_18 fX11_228 rfl rfl rfl (fun g3 => ?_)
  have h := h g3
  refine w_putI dX11_keepText_21 (Or.inl ⟨rfl, fX11_246⟩) rfl rfl g3 ?_
  refine w_aload_n dX11_keepText_24 rfl ?_
  refine w_aload_n dX11_keepText_25 rfl ?_
  refine w_getI (x := (M 98 45)) dX11_keepText_26 fX11_237 rfl rfl rfl (fun g4 => ?_)
  have h := h g4
  refine w_putI dX11_keepText_29 (Or.inl ⟨rfl, fX11_249⟩) rfl rfl g4 ?_
  refine w_aload_n dX11_keepText_32 rfl ?_
  refine w_aload_n dX11_keepText_33 rfl ?_
  refine w_getI (x := (M 98 33)) dX11_keepText_34 fX11_234 rfl rfl rfl (fun g5 => ?_)
  have h := h g5
  refine w_putI dX11_keepText_37 (Or.inl ⟨rfl, fX11_252⟩) rfl rfl g5 ?_
  refine w_aload_n dX11_keepText_40 rfl ?_
  refine w_getR dX11_keepText_41 fX11_24 rfl rfl rfl ?_
  refine w_iconst dX11_keepText_44 ?_
  refine k_sV (as := [pR 102, pI 2]) dX11_keepText_45 kX11_255 ⟨⟨Nat.le_of_ble_eq_true rfl, rfl, rfl⟩, Nat.le_of_ble_eq_true rfl⟩ rfl (Nat.le_of_ble_eq_true rfl) h ?_
  intro M7 h
  refine w_aload_n dX11_keepText_48 rfl ?_
  refine w_getR dX11_keepText_49 fX11_27 rfl rfl rfl ?_
  refine w_bipush dX11_keepText_52 (by decide) ?_
  refine k_sV (as := [pR 103, pI 8]) dX11_keepText_54 kX11_255 ⟨⟨Nat.le_of_ble_eq_true rfl, rfl, rfl⟩, Nat.le_of_ble_eq_true rfl⟩ rfl (Nat.le_of_ble_eq_true rfl) h ?_
  intro M9 h
  refine w_aload_n dX11_keepText_57 rfl ?_
  refine w_getR dX11_keepText_58 fX11_30 rfl rfl rfl ?_
  refine w_bipush dX11_keepText_61 (by decide) ?_
  refine k_sV (as := [pR 104, pI 8]) dX11_keepText_63 kX11_255 ⟨⟨Nat.le_of_ble_eq_true rfl, rfl, rfl⟩, Nat.le_of_ble_eq_true rfl⟩ rfl (Nat.le_of_ble_eq_true rfl) h ?_
  intro M11 h
  refine w_aload_n dX11_keepText_66 rfl ?_
  refine w_getR dX11_keepText_67 fX11_33 rfl rfl rfl ?_
  refine w_bipush dX11_keepText_70 (by decide) ?_
  refine k_sV (as := [pR 105, pI 8]) dX11_keepText_72 kX11_255 ⟨⟨Nat.le_of_ble_eq_true rfl, rfl, rfl⟩, Nat.le_of_ble_eq_true rfl⟩ rfl (Nat.le_of_ble_eq_true rfl) h ?_
  intro M13 h
  refine w_aload_n dX11_keepText_75 rfl ?_
  refine w_getR dX11_keepText_76 fX11_36 rfl rfl rfl ?_
  refine w_bipush dX11_keepText_79 (by decide) ?_
  refine k_sV (as := [pR 106, pI 8]) dX11_keepText_81 kX11_255 ⟨⟨Nat.le_of_ble_eq_true rfl, rfl, rfl⟩, Nat.le_of_ble_eq_true rfl⟩ rfl (Nat.le_of_ble_eq_true rfl) h ?_
  intro M15 h
  refine w_aload_n dX11_keepText_84 rfl ?_
  refine w_getR dX11_keepText_85 fX11_39 rfl rfl rfl ?_
  refine w_bipush dX11_keepText_88 (by decide) ?_
  refine k_sV (as := [pR 107, pI 16]) dX11_keepText_90 kX11_255 ⟨⟨Nat.le_of_ble_eq_true rfl, rfl, rfl⟩, Nat.le_of_ble_eq_true rfl⟩ rfl (Nat.le_of_ble_eq_true rfl) h ?_
  intro M17 h
  refine w_aload_n dX11_keepText_93 rfl ?_
  refine w_getR dX11_keepText_94 fX11_42 rfl rfl rfl ?_
  refine w_bipush dX11_keepText_97 (by decide) ?_
  refine k_sV (as := [pR 108, pI 16]) dX11_keepText_99 kX11_255 ⟨⟨Nat.le_of_ble_eq_true rfl, rfl, rfl⟩, Nat.le_of_ble_eq_true rfl⟩ rfl (Nat.le_of_ble_eq_true rfl) h ?_
  intro M19 h
  refine w_aload_n dX11_keepText_102 rfl ?_
  refine w_getR dX11_keepText_103 fX11_45 rfl rfl rfl ?_
  refine w_iconst dX11_keepText_106 ?_
  refine k_sV (as := [pR 109, pI 4]) dX11_keepText_107 kX11_255 ⟨⟨Nat.le_of_ble_eq_true rfl, rfl, rfl⟩, Nat.le_of_ble_eq_true rfl⟩ rfl (Nat.le_of_ble_eq_true rfl) h ?_
  intro M21 h
  refine w_aload_n dX11_keepText_110 rfl ?_
  refine w_getR dX11_keepText_111 fX11_48 rfl rfl rfl ?_
  refine w_bipush dX11_keepText_114 (by decide) ?_
  refine k_sV (as := [pR 110, pI 64]) dX11_keepText_116 kX11_255 ⟨⟨Nat.le_of_ble_eq_true rfl, rfl, rfl⟩, Nat.le_of_ble_eq_true rfl⟩ rfl (Nat.le_of_ble_eq_true rfl) h ?_
  intro M23 h
  refine w_aload_n dX11_keepText_119 rfl ?_
  refine w_getR dX11_keepText_120 fX11_51 rfl rfl rfl ?_
  refine w_bipush dX11_keepText_123 (by decide) ?_
  refine k_sV (as := [pR 111, pI 64]) dX11_keepText_125 kX11_255 ⟨⟨Nat.le_of_ble_eq_true rfl, rfl, rfl⟩, Nat.le_of_ble_eq_true rfl⟩ rfl (Nat.le_of_ble_eq_true rfl) h ?_
  intro M25 h
  refine w_aload_n dX11_keepText_128 rfl ?_
  refine w_getR dX11_keepText_129 fX11_54 rfl rfl rfl ?_
  refine w_bipush dX11_keepText_132 (by decide) ?_
  refine k_sV (as := [pR 112, pI 64]) dX11_keepText_134 kX11_255 ⟨⟨Nat.le_of_ble_eq_true rfl, rfl, rfl⟩, Nat.le_of_ble_eq_true rfl⟩ rfl (Nat.le_of_ble_eq_true rfl) h ?_
  intro M27 h
  refine w_iconst dX11_keepText_137 ?_
  refine w_istore_n dX11_keepText_138 (by decide) ?_
  exact k_pick [1, 0] rfl h
theorem vX11_keepText_139 {E : Scr} {f : Mem → Prop} {M : Mem} (x1 : Int) (h : (iR x1) ∧ ((x1 ≥ 3 → (CV E mX11_copies [pR 114, pI 3] M (fun M3 => (CV E mX11_copies [pR 115, pI 3] M3 (fun M5 => (CV E mX11_copies [pR 116, pI 64] M5 (fun M7 => (CV E mX11_copies [pR 117, pI 64] M7 (fun M9 => (CV E mX11_copies [pR 118, pI 64] M9 (fun M11 => (CV E mX11_layMay [pR 98] M11 (fun M13 => (CV E mX11_begin [pR 98] M13 (fun M15 => f M15))))))))))))))) ∧ (x1 < 3 → (0 ≤ (3 + x1) ∧ (3 + x1) < 6) ∧ ((zR (M 113 ((3 + x1).toNat))) → (0 ≤ x1 ∧ x1 < 6) ∧ (zR (M 113 ((3 + x1).toNat))) ∧ (KW E mX11_keepText (qV f) (upM M 113 x1.toNat (M 113 ((3 + x1).toNat))) 139 [(0, pR 98), (1, pI (x1 + 1))] []))))) : KW E mX11_keepText (qV f) M 139 [(0, pR 98), (1, pI x1)] [] := by
  refine w_iload_n dX11_keepText_139 rfl ?_
  refine w_iconst dX11_keepText_140 ?_
  obtain ⟨o1, h⟩ := h
  refine w_icmp_ge dX11_keepText_141 rfl ⟨o1, (by decide)⟩ (fun c => ?_) (fun c => ?_)
  · have h := h.1 c
    refine w_aload_n dX11_keepText_164 rfl ?_
    refine w_getR dX11_keepText_165 fX11_60 rfl rfl rfl ?_
    refine w_iconst dX11_keepText_168 ?_
    refine k_sV (as := [pR 114, pI 3]) dX11_keepText_169 kX11_255 ⟨⟨Nat.le_of_ble_eq_true rfl, rfl, rfl⟩, Nat.le_of_ble_eq_true rfl⟩ rfl (Nat.le_of_ble_eq_true rfl) h ?_
    intro M3 h
    refine w_aload_n dX11_keepText_172 rfl ?_
    refine w_getR dX11_keepText_173 fX11_63 rfl rfl rfl ?_
    refine w_iconst dX11_keepText_176 ?_
    refine k_sV (as := [pR 115, pI 3]) dX11_keepText_177 kX11_255 ⟨⟨Nat.le_of_ble_eq_true rfl, rfl, rfl⟩, Nat.le_of_ble_eq_true rfl⟩ rfl (Nat.le_of_ble_eq_true rfl) h ?_
    intro M5 h
    refine w_aload_n dX11_keepText_180 rfl ?_
    refine w_getR dX11_keepText_181 fX11_66 rfl rfl rfl ?_
    refine w_bipush dX11_keepText_184 (by decide) ?_
    refine k_sV (as := [pR 116, pI 64]) dX11_keepText_186 kX11_255 ⟨⟨Nat.le_of_ble_eq_true rfl, rfl, rfl⟩, Nat.le_of_ble_eq_true rfl⟩ rfl (Nat.le_of_ble_eq_true rfl) h ?_
    intro M7 h
    refine w_aload_n dX11_keepText_189 rfl ?_
    refine w_getR dX11_keepText_190 fX11_69 rfl rfl rfl ?_
    refine w_bipush dX11_keepText_193 (by decide) ?_
    refine k_sV (as := [pR 117, pI 64]) dX11_keepText_195 kX11_255 ⟨⟨Nat.le_of_ble_eq_true rfl, rfl, rfl⟩, Nat.le_of_ble_eq_true rfl⟩ rfl (Nat.le_of_ble_eq_true rfl) h ?_
    intro M9 h
    refine w_aload_n dX11_keepText_198 rfl ?_
    refine w_getR dX11_keepText_199 fX11_72 rfl rfl rfl ?_
    refine w_bipush dX11_keepText_202 (by decide) ?_
    refine k_sV (as := [pR 118, pI 64]) dX11_keepText_204 kX11_255 ⟨⟨Nat.le_of_ble_eq_true rfl, rfl, rfl⟩, Nat.le_of_ble_eq_true rfl⟩ rfl (Nat.le_of_ble_eq_true rfl) h ?_
    intro M11 h
    refine w_aload_n dX11_keepText_207 rfl ?_
    refine k_vV (as := []) dX11_keepText_208 kX11_259 ⟨⟨Nat.le_of_ble_eq_true rfl, rfl, rfl⟩, Nat.le_of_ble_eq_true rfl⟩ rfl (by decide) rfl (Nat.le_of_ble_eq_true rfl) h ?_
    intro M13 h
    refine w_aload_n dX11_keepText_211 rfl ?_
    refine k_vV (as := []) dX11_keepText_212 kX11_262 ⟨⟨Nat.le_of_ble_eq_true rfl, rfl, rfl⟩, Nat.le_of_ble_eq_true rfl⟩ rfl (by decide) rfl (Nat.le_of_ble_eq_true rfl) h ?_
    intro M15 h
    exact k_vret dX11_keepText_215 rfl h
  · have h := h.2 c
    refine w_aload_n dX11_keepText_144 rfl ?_
    refine w_getR dX11_keepText_145 fX11_57 rfl rfl rfl ?_
    refine w_iload_n dX11_keepText_148 rfl ?_
    refine w_aload_n dX11_keepText_149 rfl ?_
    refine w_getR dX11_keepText_150 fX11_57 rfl rfl rfl ?_
    refine w_iconst dX11_keepText_153 ?_
    refine w_iload_n dX11_keepText_154 rfl ?_
    refine w_iadd dX11_keepText_155 ?_
    obtain ⟨o16, h⟩ := h
    refine w_zald (x := (M 113 ((3 + x1).toNat))) dX11_keepText_156 rfl o16 rfl (fun g17 => ?_)
    have h := h g17
    obtain ⟨o18, h⟩ := h
    obtain ⟨o19, h⟩ := h
    refine w_zast dX11_keepText_157 rfl o18 o19 ?_
    refine w_iinc dX11_keepText_158 rfl (by decide) ?_
    refine w_goto dX11_keepText_161 rfl ?_
    exact k_pick [1, 0] rfl h
theorem vX11_find_0 {E : Scr} {f : Int → Mem → Prop} {M : Mem} (x1 x2 x3 : Int) (h : (KW E mX11_find (qI f) M 3 [(0, pR 103), (1, pI x1), (2, pI x2), (3, pI x3), (4, pI 0)] [])) : CI E mX11_find [pR 103, pI x1, pI x2, pI x3] M f := by
  refine (show KW E mX11_find (qI f) M 0 [(0, pR 103), (1, pI x1), (2, pI x2), (3, pI x3)] [] from ?_)
  refine w_iconst dX11_find_0 ?_
  refine w_istore dX11_find_1 (by decide) ?_
  exact k_pick [1, 2, 3, 4, 0] rfl h
theorem vX11_find_3 {E : Scr} {f : Int → Mem → Prop} {M : Mem} (x1 x2 x3 x4 : Int) (h : (iR x4) ∧ (iR x2) ∧ ((x4 ≥ x2 → f (-1) M) ∧ (x4 < x2 → (0 ≤ (x1 + x4) ∧ (x1 + x4) < 16) ∧ ((iR (M 103 ((x1 + x4).toNat))) → (iR x3) ∧ (((M 103 ((x1 + x4).toNat)) ≠ x3 → (KW E mX11_find (qI f) M 3 [(0, pR 103), (1, pI x1), (2, pI x2), (3, pI x3), (4, pI (x4 + 1))] [])) ∧ ((M 103 ((x1 + x4).toNat)) = x3 → f x4 M)))))) : KW E mX11_find (qI f) M 3 [(0, pR 103), (1, pI x1), (2, pI x2), (3, pI x3), (4, pI x4)] [] := by
  refine w_iload dX11_find_3 rfl ?_
  refine w_iload_n dX11_find_5 rfl ?_
  obtain ⟨o1, h⟩ := h
  obtain ⟨o2, h⟩ := h
  refine w_icmp_ge dX11_find_6 rfl ⟨o1, o2⟩ (fun c => ?_) (fun c => ?_)
  · have h := h.1 c
    refine w_iconst dX11_find_28 ?_
    exact k_iret dX11_find_29 rfl h
  · have h := h.2 c
    refine w_aload_n dX11_find_9 rfl ?_
    refine w_iload_n dX11_find_10 rfl ?_
    refine w_iload dX11_find_11 rfl ?_
    refine w_iadd dX11_find_13 ?_
    obtain ⟨o3, h⟩ := h
    refine w_iald (x := (M 103 ((x1 + x4).toNat))) dX11_find_14 rfl o3 rfl (fun g4 => ?_)
    have h := h g4
    refine w_iload_n dX11_find_15 rfl ?_
    obtain ⟨o5, h⟩ := h
    refine w_icmp_ne dX11_find_16 rfl ⟨g4, o5⟩ (fun c => ?_) (fun c => ?_)
    · have h := h.1 c
      refine w_iinc dX11_find_22 rfl (by decide) ?_
      refine w_goto dX11_find_25 rfl ?_
      exact k_pick [1, 2, 3, 4, 0] rfl h
    · have h := h.2 c
      refine w_iload dX11_find_19 rfl ?_
      exact k_iret dX11_find_21 rfl h
theorem vX11_latchThere_0 {E : Scr} {f : Int → Mem → Prop} {M : Mem} (h : ((iR (M 98 8)) → (((M 98 8) = 2 → ((iR (M 98 16)) → ((iR (M 98 9)) → (CI E mX11_find [pR 103, pI 8, pI (M 98 16), pI (M 98 9)] M (fun r4 M5 => (iR r4) ∧ ((r4 ≥ 0 → (CV E mX11_token [pR 98] M5 (fun M8 => (iR r4) ∧ f 1 (upM M8 98 11 r4)))) ∧ (r4 < 0 → (CI E mX11_wrong [pR 98, pI 4] M5 (fun r10 M11 => (zR r10) ∧ f r10 M11))))))))) ∧ ((M 98 8) ≠ 2 → (CI E mX11_wrong [pR 98, pI 1] M (fun r13 M14 => (zR r13) ∧ f r13 M14)))))) : CI E mX11_latchThere [pR 98] M f := by
  refine (show KW E mX11_latchThere (qI f) M 0 [(0, pR 98)] [] from ?_)
  refine w_aload_n dX11_latchThere_0 rfl ?_
  refine w_getI (x := (M 98 8)) dX11_latchThere_1 fX11_178 rfl rfl rfl (fun g1 => ?_)
  have h := h g1
  refine w_iconst dX11_latchThere_4 ?_
  refine w_icmp_eq dX11_latchThere_5 rfl ⟨g1, (by decide)⟩ (fun c => ?_) (fun c => ?_)
  · have h := h.1 c
    refine w_aload_n dX11_latchThere_14 rfl ?_
    refine w_getR dX11_latchThere_15 fX11_27 rfl rfl rfl ?_
    refine w_bipush dX11_latchThere_18 (by decide) ?_
    refine w_aload_n dX11_latchThere_20 rfl ?_
    refine w_getI (x := (M 98 16)) dX11_latchThere_21 fX11_222 rfl rfl rfl (fun g2 => ?_)
    have h := h g2
    refine w_aload_n dX11_latchThere_24 rfl ?_
    refine w_getI (x := (M 98 9)) dX11_latchThere_25 fX11_189 rfl rfl rfl (fun g3 => ?_)
    have h := h g3
    refine k_sI (as := [pR 103, pI 8, pI (M 98 16), pI (M 98 9)]) dX11_latchThere_28 kX11_265 ⟨⟨Nat.le_of_ble_eq_true rfl, rfl, rfl⟩, Nat.le_of_ble_eq_true rfl⟩ rfl (Nat.le_of_ble_eq_true rfl) h ?_
    intro r4 M5 h
    refine w_istore_n dX11_latchThere_31 (by decide) ?_
    refine w_iload_n dX11_latchThere_32 rfl ?_
    obtain ⟨o6, h⟩ := h
    refine w_if_ge dX11_latchThere_33 rfl o6 (fun c => ?_) (fun c => ?_)
    · have h := h.1 c
      refine w_aload_n dX11_latchThere_42 rfl ?_
      refine k_vV (as := []) dX11_latchThere_43 kX11_212 ⟨⟨Nat.le_of_ble_eq_true rfl, rfl, rfl⟩, Nat.le_of_ble_eq_true rfl⟩ rfl (by decide) rfl (Nat.le_of_ble_eq_true rfl) h ?_
      intro M8 h
      refine w_aload_n dX11_latchThere_46 rfl ?_
      refine w_iload_n dX11_latchThere_47 rfl ?_
      obtain ⟨o9, h⟩ := h
      refine w_putI dX11_latchThere_48 (Or.inl ⟨rfl, fX11_209⟩) rfl rfl o9 ?_
      refine w_iconst dX11_latchThere_51 ?_
      exact k_zret dX11_latchThere_52 rfl (by decide) h
    · have h := h.2 c
      refine w_aload_n dX11_latchThere_36 rfl ?_
      refine w_iconst dX11_latchThere_37 ?_
      refine k_vI (as := [pI 4]) dX11_latchThere_38 kX11_202 ⟨⟨Nat.le_of_ble_eq_true rfl, rfl, rfl⟩, Nat.le_of_ble_eq_true rfl⟩ rfl (by decide) rfl (Nat.le_of_ble_eq_true rfl) h ?_
      intro r10 M11 h
      obtain ⟨o12, h⟩ := h
      exact k_zret dX11_latchThere_41 rfl o12 h
  · have h := h.2 c
    refine w_aload_n dX11_latchThere_8 rfl ?_
    refine w_iconst dX11_latchThere_9 ?_
    refine k_vI (as := [pI 1]) dX11_latchThere_10 kX11_202 ⟨⟨Nat.le_of_ble_eq_true rfl, rfl, rfl⟩, Nat.le_of_ble_eq_true rfl⟩ rfl (by decide) rfl (Nat.le_of_ble_eq_true rfl) h ?_
    intro r13 M14 h
    obtain ⟨o15, h⟩ := h
    exact k_zret dX11_latchThere_13 rfl o15 h
theorem vX11_latchLine_0 {E : Scr} {f : Int → Mem → Prop} {M : Mem} (h : ((iR (M 98 16)) → (((M 98 16) ≠ 8 → (CV E mX11_token [pR 98] M (fun M3 => ((iR (M3 98 8)) → (((M3 98 8) = 2 → ((iR (M3 98 16)) → ((iR (M3 98 9)) → (CI E mX11_find [pR 103, pI 8, pI (M3 98 16), pI (M3 98 9)] M3 (fun r7 M8 => (iR r7) ∧ ((r7 < 0 → ((iR (M8 98 16)) → ((iR (M8 98 9)) → (0 ≤ (8 + (M8 98 16)) ∧ (8 + (M8 98 16)) < 16) ∧ (CV E mX11_token [pR 98] (upM M8 103 ((8 + (M8 98 16)).toNat) (M8 98 9)) (fun M14 => (CI E mX11_number [pR 98, pI 0, pI 1] M14 (fun r15 M16 => (iR r15) ∧ ((r15 ≠ 0 → ((iR (M16 98 16)) → ((iR (M16 98 11)) → (0 ≤ (8 + (M16 98 16)) ∧ (8 + (M16 98 16)) < 16) ∧ ((iR (M16 98 16)) → (iR ((M16 98 16) + 1)) ∧ f 1 (upM (upM M16 104 ((8 + (M16 98 16)).toNat) (M16 98 11)) 98 16 ((M16 98 16) + 1)))))) ∧ (r15 = 0 → f 0 M16))))))))) ∧ (r7 ≥ 0 → (CI E mX11_wrong [pR 98, pI 3] M8 (fun r23 M24 => (zR r23) ∧ f r23 M24))))))))) ∧ ((M3 98 8) ≠ 2 → (CI E mX11_wrong [pR 98, pI 1] M3 (fun r26 M27 => (zR r26) ∧ f r26 M27)))))))) ∧ ((M 98 16) = 8 → (CI E mX11_wrong [pR 98, pI 2] M (fun r29 M30 => (zR r29) ∧ f r29 M30)))))) : CI E mX11_latchLine [pR 98] M f := by
  refine (show KW E mX11_latchLine (qI f) M 0 [(0, pR 98)] [] from ?_)
  refine w_aload_n dX11_latchLine_0 rfl ?_
  refine w_getI (x := (M 98 16)) dX11_latchLine_1 fX11_222 rfl rfl rfl (fun g1 => ?_)
  have h := h g1
  refine w_bipush dX11_latchLine_4 (by decide) ?_
  refine w_icmp_ne dX11_latchLine_6 rfl ⟨g1, (by decide)⟩ (fun c => ?_) (fun c => ?_)
  · have h := h.1 c
    refine w_aload_n dX11_latchLine_15 rfl ?_
    refine k_vV (as := []) dX11_latchLine_16 kX11_212 ⟨⟨Nat.le_of_ble_eq_true rfl, rfl, rfl⟩, Nat.le_of_ble_eq_true rfl⟩ rfl (by decide) rfl (Nat.le_of_ble_eq_true rfl) h ?_
    intro M3 h
    refine w_aload_n dX11_latchLine_19 rfl ?_
    refine w_getI (x := (M3 98 8)) dX11_latchLine_20 fX11_178 rfl rfl rfl (fun g4 => ?_)
    have h := h g4
    refine w_iconst dX11_latchLine_23 ?_
    refine w_icmp_eq dX11_latchLine_24 rfl ⟨g4, (by decide)⟩ (fun c => ?_) (fun c => ?_)
    · have h := h.1 c
      refine w_aload_n dX11_latchLine_33 rfl ?_
      refine w_getR dX11_latchLine_34 fX11_27 rfl rfl rfl ?_
      refine w_bipush dX11_latchLine_37 (by decide) ?_
      refine w_aload_n dX11_latchLine_39 rfl ?_
      refine w_getI (x := (M3 98 16)) dX11_latchLine_40 fX11_222 rfl rfl rfl (fun g5 => ?_)
      have h := h g5
      refine w_aload_n dX11_latchLine_43 rfl ?_
      refine w_getI (x := (M3 98 9)) dX11_latchLine_44 fX11_189 rfl rfl rfl (fun g6 => ?_)
      have h := h g6
      refine k_sI (as := [pR 103, pI 8, pI (M3 98 16), pI (M3 98 9)]) dX11_latchLine_47 kX11_265 ⟨⟨Nat.le_of_ble_eq_true rfl, rfl, rfl⟩, Nat.le_of_ble_eq_true rfl⟩ rfl (Nat.le_of_ble_eq_true rfl) h ?_
      intro r7 M8 h
      obtain ⟨o9, h⟩ := h
      refine w_if_lt dX11_latchLine_50 rfl o9 (fun c => ?_) (fun c => ?_)
      · have h := h.1 c
        refine w_aload_n dX11_latchLine_59 rfl ?_
        refine w_getR dX11_latchLine_60 fX11_27 rfl rfl rfl ?_
        refine w_bipush dX11_latchLine_63 (by decide) ?_
        refine w_aload_n dX11_latchLine_65 rfl ?_
        refine w_getI (x := (M8 98 16)) dX11_latchLine_66 fX11_222 rfl rfl rfl (fun g10 => ?_)
        have h := h g10
        refine w_iadd dX11_latchLine_69 ?_
        refine w_aload_n dX11_latchLine_70 rfl ?_
        refine w_getI (x := (M8 98 9)) dX11_latchLine_71 fX11_189 rfl rfl rfl (fun g11 => ?_)
        have h := h g11
        obtain ⟨o12, h⟩ := h
        refine w_iast dX11_latchLine_74 rfl o12 g11 ?_
        refine w_aload_n dX11_latchLine_75 rfl ?_
        refine k_vV (as := []) dX11_latchLine_76 kX11_212 ⟨⟨Nat.le_of_ble_eq_true rfl, rfl, rfl⟩, Nat.le_of_ble_eq_true rfl⟩ rfl (by decide) rfl (Nat.le_of_ble_eq_true rfl) h ?_
        intro M14 h
        refine w_aload_n dX11_latchLine_79 rfl ?_
        refine w_iconst dX11_latchLine_80 ?_
        refine w_iconst dX11_latchLine_81 ?_
        refine k_vI (as := [pI 0, pI 1]) dX11_latchLine_82 kX11_218 ⟨⟨Nat.le_of_ble_eq_true rfl, rfl, rfl⟩, Nat.le_of_ble_eq_true rfl⟩ rfl (by decide) rfl (Nat.le_of_ble_eq_true rfl) h ?_
        intro r15 M16 h
        obtain ⟨o17, h⟩ := h
        refine w_if_ne dX11_latchLine_85 rfl o17 (fun c => ?_) (fun c => ?_)
        · have h := h.1 c
          refine w_aload_n dX11_latchLine_90 rfl ?_
          refine w_getR dX11_latchLine_91 fX11_30 rfl rfl rfl ?_
          refine w_bipush dX11_latchLine_94 (by decide) ?_
          refine w_aload_n dX11_latchLine_96 rfl ?_
          refine w_getI (x := (M16 98 16)) dX11_latchLine_97 fX11_222 rfl rfl rfl (fun g18 => ?_)
          have h := h g18
          refine w_iadd dX11_latchLine_100 ?_
          refine w_aload_n dX11_latchLine_101 rfl ?_
          refine w_getI (x := (M16 98 11)) dX11_latchLine_102 fX11_209 rfl rfl rfl (fun g19 => ?_)
          have h := h g19
          obtain ⟨o20, h⟩ := h
          refine w_iast dX11_latchLine_105 rfl o20 g19 ?_
          refine w_aload_n dX11_latchLine_106 rfl ?_
          refine w_dup dX11_latchLine_107 rfl ?_
          refine w_getI (x := (M16 98 16)) dX11_latchLine_108 fX11_222 rfl rfl rfl (fun g21 => ?_)
          have h := h g21
          refine w_iconst dX11_latchLine_111 ?_
          refine w_iadd dX11_latchLine_112 ?_
          obtain ⟨o22, h⟩ := h
          refine w_putI dX11_latchLine_113 (Or.inl ⟨rfl, fX11_222⟩) rfl rfl o22 ?_
          refine w_iconst dX11_latchLine_116 ?_
          exact k_zret dX11_latchLine_117 rfl (by decide) h
        · have h := h.2 c
          refine w_iconst dX11_latchLine_88 ?_
          exact k_zret dX11_latchLine_89 rfl (by decide) h
      · have h := h.2 c
        refine w_aload_n dX11_latchLine_53 rfl ?_
        refine w_iconst dX11_latchLine_54 ?_
        refine k_vI (as := [pI 3]) dX11_latchLine_55 kX11_202 ⟨⟨Nat.le_of_ble_eq_true rfl, rfl, rfl⟩, Nat.le_of_ble_eq_true rfl⟩ rfl (by decide) rfl (Nat.le_of_ble_eq_true rfl) h ?_
        intro r23 M24 h
        obtain ⟨o25, h⟩ := h
        exact k_zret dX11_latchLine_58 rfl o25 h
    · have h := h.2 c
      refine w_aload_n dX11_latchLine_27 rfl ?_
      refine w_iconst dX11_latchLine_28 ?_
      refine k_vI (as := [pI 1]) dX11_latchLine_29 kX11_202 ⟨⟨Nat.le_of_ble_eq_true rfl, rfl, rfl⟩, Nat.le_of_ble_eq_true rfl⟩ rfl (by decide) rfl (Nat.le_of_ble_eq_true rfl) h ?_
      intro r26 M27 h
      obtain ⟨o28, h⟩ := h
      exact k_zret dX11_latchLine_32 rfl o28 h
  · have h := h.2 c
    refine w_aload_n dX11_latchLine_9 rfl ?_
    refine w_iconst dX11_latchLine_10 ?_
    refine k_vI (as := [pI 2]) dX11_latchLine_11 kX11_202 ⟨⟨Nat.le_of_ble_eq_true rfl, rfl, rfl⟩, Nat.le_of_ble_eq_true rfl⟩ rfl (by decide) rfl (Nat.le_of_ble_eq_true rfl) h ?_
    intro r29 M30 h
    obtain ⟨o31, h⟩ := h
    exact k_zret dX11_latchLine_14 rfl o31 h
theorem vX11_leanLine_0 {E : Scr} {f : Int → Mem → Prop} {M : Mem} (h : (CV E mX11_token [pR 98] M (fun M2 => ((iR (M2 98 10)) → (CI E mX11_latchThere [pR 98] M2 (fun r4 M5 => (iR r4) ∧ ((r4 ≠ 0 → ((iR (M5 98 11)) → (0 ≤ (8 + (M5 98 11)) ∧ (8 + (M5 98 11)) < 16) ∧ ((iR (M5 105 ((8 + (M5 98 11)).toNat))) → (((M5 105 ((8 + (M5 98 11)).toNat)) < 0 → ((iR (M5 98 11)) → (CI E mX11_leaningRead [pR 98, pI (M5 98 11)] M5 (fun r11 M12 => (iR r11) ∧ ((r11 ≠ 0 → ((iR (M12 98 33)) → (0 ≤ (8 + (M5 98 11)) ∧ (8 + (M5 98 11)) < 16) ∧ (iR ((M12 98 33) - 1)) ∧ f 1 (upM M12 105 ((8 + (M5 98 11)).toNat) ((M12 98 33) - 1)))) ∧ (r11 = 0 → f 0 M12)))))) ∧ ((M5 105 ((8 + (M5 98 11)).toNat)) ≥ 0 → (CI E mX11_wrong [pR 98, pI 3] (upM M5 98 10 (M2 98 10)) (fun r17 M18 => (zR r17) ∧ f r17 M18))))))) ∧ (r4 = 0 → f 0 M5)))))))) : CI E mX11_leanLine [pR 98] M f := by
  refine (show KW E mX11_leanLine (qI f) M 0 [(0, pR 98)] [] from ?_)
  refine w_aload_n dX11_leanLine_0 rfl ?_
  refine k_vV (as := []) dX11_leanLine_1 kX11_212 ⟨⟨Nat.le_of_ble_eq_true rfl, rfl, rfl⟩, Nat.le_of_ble_eq_true rfl⟩ rfl (by decide) rfl (Nat.le_of_ble_eq_true rfl) h ?_
  intro M2 h
  refine w_aload_n dX11_leanLine_4 rfl ?_
  refine w_getI (x := (M2 98 10)) dX11_leanLine_5 fX11_169 rfl rfl rfl (fun g3 => ?_)
  have h := h g3
  refine w_istore_n dX11_leanLine_8 (by decide) ?_
  refine w_aload_n dX11_leanLine_9 rfl ?_
  refine k_vI (as := []) dX11_leanLine_10 kX11_269 ⟨⟨Nat.le_of_ble_eq_true rfl, rfl, rfl⟩, Nat.le_of_ble_eq_true rfl⟩ rfl (by decide) rfl (Nat.le_of_ble_eq_true rfl) h ?_
  intro r4 M5 h
  obtain ⟨o6, h⟩ := h
  refine w_if_ne dX11_leanLine_13 rfl o6 (fun c => ?_) (fun c => ?_)
  · have h := h.1 c
    refine w_bipush dX11_leanLine_18 (by decide) ?_
    refine w_aload_n dX11_leanLine_20 rfl ?_
    refine w_getI (x := (M5 98 11)) dX11_leanLine_21 fX11_209 rfl rfl rfl (fun g7 => ?_)
    have h := h g7
    refine w_iadd dX11_leanLine_24 ?_
    refine w_istore_n dX11_leanLine_25 (by decide) ?_
    refine w_aload_n dX11_leanLine_26 rfl ?_
    refine w_getR dX11_leanLine_27 fX11_33 rfl rfl rfl ?_
    refine w_iload_n dX11_leanLine_30 rfl ?_
    obtain ⟨o8, h⟩ := h
    refine w_iald (x := (M5 105 ((8 + (M5 98 11)).toNat))) dX11_leanLine_31 rfl o8 rfl (fun g9 => ?_)
    have h := h g9
    refine w_if_lt dX11_leanLine_32 rfl g9 (fun c => ?_) (fun c => ?_)
    · have h := h.1 c
      refine w_aload_n dX11_leanLine_46 rfl ?_
      refine w_aload_n dX11_leanLine_47 rfl ?_
      refine w_getI (x := (M5 98 11)) dX11_leanLine_48 fX11_209 rfl rfl rfl (fun g10 => ?_)
      have h := h g10
      refine k_vI (as := [pI (M5 98 11)]) dX11_leanLine_51 kX11_273 ⟨⟨Nat.le_of_ble_eq_true rfl, rfl, rfl⟩, Nat.le_of_ble_eq_true rfl⟩ rfl (by decide) rfl (Nat.le_of_ble_eq_true rfl) h ?_
      intro r11 M12 h
      obtain ⟨o13, h⟩ := h
      refine w_if_ne dX11_leanLine_54 rfl o13 (fun c => ?_) (fun c => ?_)
      · have h := h.1 c
        refine w_aload_n dX11_leanLine_59 rfl ?_
        refine w_getR dX11_leanLine_60 fX11_33 rfl rfl rfl ?_
        refine w_iload_n dX11_leanLine_63 rfl ?_
        refine w_aload_n dX11_leanLine_64 rfl ?_
        refine w_getI (x := (M12 98 33)) dX11_leanLine_65 fX11_234 rfl rfl rfl (fun g14 => ?_)
        have h := h g14
        refine w_iconst dX11_leanLine_68 ?_
        refine w_isub dX11_leanLine_69 ?_
        obtain ⟨o15, h⟩ := h
        obtain ⟨o16, h⟩ := h
        refine w_iast dX11_leanLine_70 rfl o15 o16 ?_
        refine w_iconst dX11_leanLine_71 ?_
        exact k_zret dX11_leanLine_72 rfl (by decide) h
      · have h := h.2 c
        refine w_iconst dX11_leanLine_57 ?_
        exact k_zret dX11_leanLine_58 rfl (by decide) h
    · have h := h.2 c
      refine w_aload_n dX11_leanLine_35 rfl ?_
      refine w_iload_n dX11_leanLine_36 rfl ?_
      refine w_putI dX11_leanLine_37 (Or.inl ⟨rfl, fX11_169⟩) rfl rfl g3 ?_
      refine w_aload_n dX11_leanLine_40 rfl ?_
      refine w_iconst dX11_leanLine_41 ?_
      refine k_vI (as := [pI 3]) dX11_leanLine_42 kX11_202 ⟨⟨Nat.le_of_ble_eq_true rfl, rfl, rfl⟩, Nat.le_of_ble_eq_true rfl⟩ rfl (by decide) rfl (Nat.le_of_ble_eq_true rfl) h ?_
      intro r17 M18 h
      obtain ⟨o19, h⟩ := h
      exact k_zret dX11_leanLine_45 rfl o19 h
  · have h := h.2 c
    refine w_iconst dX11_leanLine_16 ?_
    exact k_zret dX11_leanLine_17 rfl (by decide) h
theorem vX11_pushLine_0 {E : Scr} {f : Int → Mem → Prop} {M : Mem} (h : ((iR (M 98 17)) → (((M 98 17) ≠ 16 → (CV E mX11_token [pR 98] M (fun M3 => ((iR (M3 98 17)) → (CI E mX11_latchThere [pR 98] M3 (fun r5 M6 => (iR r5) ∧ ((r5 ≠ 0 → ((iR (M6 98 11)) → (0 ≤ (16 + (M3 98 17)) ∧ (16 + (M3 98 17)) < 32) ∧ (CI E mX11_number [pR 98, pI 0, pI 99] (upM M6 107 ((16 + (M3 98 17)).toNat) (M6 98 11)) (fun r10 M11 => (iR r10) ∧ ((r10 ≠ 0 → ((iR (M11 98 11)) → (0 ≤ (16 + (M3 98 17)) ∧ (16 + (M3 98 17)) < 32) ∧ ((iR (M11 98 17)) → (iR ((M11 98 17) + 1)) ∧ f 1 (upM (upM M11 108 ((16 + (M3 98 17)).toNat) (M11 98 11)) 98 17 ((M11 98 17) + 1))))) ∧ (r10 = 0 → f 0 M11)))))) ∧ (r5 = 0 → f 0 M6)))))))) ∧ ((M 98 17) = 16 → (CI E mX11_wrong [pR 98, pI 2] M (fun r17 M18 => (zR r17) ∧ f r17 M18)))))) : CI E mX11_pushLine [pR 98] M f := by
  refine (show KW E mX11_pushLine (qI f) M 0 [(0, pR 98)] [] from ?_)
  refine w_aload_n dX11_pushLine_0 rfl ?_
  refine w_getI (x := (M 98 17)) dX11_pushLine_1 fX11_225 rfl rfl rfl (fun g1 => ?_)
  have h := h g1
  refine w_bipush dX11_pushLine_4 (by decide) ?_
  refine w_icmp_ne dX11_pushLine_6 rfl ⟨g1, (by decide)⟩ (fun c => ?_) (fun c => ?_)
  · have h := h.1 c
    refine w_aload_n dX11_pushLine_15 rfl ?_
    refine k_vV (as := []) dX11_pushLine_16 kX11_212 ⟨⟨Nat.le_of_ble_eq_true rfl, rfl, rfl⟩, Nat.le_of_ble_eq_true rfl⟩ rfl (by decide) rfl (Nat.le_of_ble_eq_true rfl) h ?_
    intro M3 h
    refine w_bipush dX11_pushLine_19 (by decide) ?_
    refine w_aload_n dX11_pushLine_21 rfl ?_
    refine w_getI (x := (M3 98 17)) dX11_pushLine_22 fX11_225 rfl rfl rfl (fun g4 => ?_)
    have h := h g4
    refine w_iadd dX11_pushLine_25 ?_
    refine w_istore_n dX11_pushLine_26 (by decide) ?_
    refine w_aload_n dX11_pushLine_27 rfl ?_
    refine k_vI (as := []) dX11_pushLine_28 kX11_269 ⟨⟨Nat.le_of_ble_eq_true rfl, rfl, rfl⟩, Nat.le_of_ble_eq_true rfl⟩ rfl (by decide) rfl (Nat.le_of_ble_eq_true rfl) h ?_
    intro r5 M6 h
    obtain ⟨o7, h⟩ := h
    refine w_if_ne dX11_pushLine_31 rfl o7 (fun c => ?_) (fun c => ?_)
    · have h := h.1 c
      refine w_aload_n dX11_pushLine_36 rfl ?_
      refine w_getR dX11_pushLine_37 fX11_39 rfl rfl rfl ?_
      refine w_iload_n dX11_pushLine_40 rfl ?_
      refine w_aload_n dX11_pushLine_41 rfl ?_
      refine w_getI (x := (M6 98 11)) dX11_pushLine_42 fX11_209 rfl rfl rfl (fun g8 => ?_)
      have h := h g8
      obtain ⟨o9, h⟩ := h
      refine w_iast dX11_pushLine_45 rfl o9 g8 ?_
      refine w_aload_n dX11_pushLine_46 rfl ?_
      refine w_iconst dX11_pushLine_47 ?_
      refine w_bipush dX11_pushLine_48 (by decide) ?_
      refine k_vI (as := [pI 0, pI 99]) dX11_pushLine_50 kX11_218 ⟨⟨Nat.le_of_ble_eq_true rfl, rfl, rfl⟩, Nat.le_of_ble_eq_true rfl⟩ rfl (by decide) rfl (Nat.le_of_ble_eq_true rfl) h ?_
      intro r10 M11 h
      obtain ⟨o12, h⟩ := h
      refine w_if_ne dX11_pushLine_53 rfl o12 (fun c => ?_) (fun c => ?_)
      · have h := h.1 c
        refine w_aload_n dX11_pushLine_58 rfl ?_
        refine w_getR dX11_pushLine_59 fX11_42 rfl rfl rfl ?_
        refine w_iload_n dX11_pushLine_62 rfl ?_
        refine w_aload_n dX11_pushLine_63 rfl ?_
        refine w_getI (x := (M11 98 11)) dX11_pushLine_64 fX11_209 rfl rfl rfl (fun g13 => ?_)
        have h := h g13
        obtain ⟨o14, h⟩ := h
        refine w_iast dX11_pushLine_67 rfl o14 g13 ?_
        refine w_aload_n dX11_pushLine_68 rfl ?_
        refine w_dup dX11_pushLine_69 rfl ?_
        refine w_getI (x := (M11 98 17)) dX11_pushLine_70 fX11_225 rfl rfl rfl (fun g15 => ?_)
        have h := h g15
        refine w_iconst dX11_pushLine_73 ?_
        refine w_iadd dX11_pushLine_74 ?_
        obtain ⟨o16, h⟩ := h
        refine w_putI dX11_pushLine_75 (Or.inl ⟨rfl, fX11_225⟩) rfl rfl o16 ?_
        refine w_iconst dX11_pushLine_78 ?_
        exact k_zret dX11_pushLine_79 rfl (by decide) h
      · have h := h.2 c
        refine w_iconst dX11_pushLine_56 ?_
        exact k_zret dX11_pushLine_57 rfl (by decide) h
    · have h := h.2 c
      refine w_iconst dX11_pushLine_34 ?_
      exact k_zret dX11_pushLine_35 rfl (by decide) h
  · have h := h.2 c
    refine w_aload_n dX11_pushLine_9 rfl ?_
    refine w_iconst dX11_pushLine_10 ?_
    refine k_vI (as := [pI 2]) dX11_pushLine_11 kX11_202 ⟨⟨Nat.le_of_ble_eq_true rfl, rfl, rfl⟩, Nat.le_of_ble_eq_true rfl⟩ rfl (by decide) rfl (Nat.le_of_ble_eq_true rfl) h ?_
    intro r17 M18 h
    obtain ⟨o19, h⟩ := h
    exact k_zret dX11_pushLine_14 rfl o19 h
theorem vX11_oilLine_0 {E : Scr} {f : Int → Mem → Prop} {M : Mem} (h : ((iR (M 98 18)) → (((M 98 18) ≠ 4 → (CV E mX11_token [pR 98] M (fun M3 => (CI E mX11_number [pR 98, pI 0, pI 99] M3 (fun r4 M5 => (iR r4) ∧ ((r4 ≠ 0 → ((iR (M5 98 18)) → ((iR (M5 98 11)) → (0 ≤ (4 + (M5 98 18)) ∧ (4 + (M5 98 18)) < 8) ∧ ((iR (M5 98 18)) → (iR ((M5 98 18) + 1)) ∧ f 1 (upM (upM M5 109 ((4 + (M5 98 18)).toNat) (M5 98 11)) 98 18 ((M5 98 18) + 1)))))) ∧ (r4 = 0 → f 0 M5))))))) ∧ ((M 98 18) = 4 → (CI E mX11_wrong [pR 98, pI 2] M (fun r12 M13 => (zR r12) ∧ f r12 M13)))))) : CI E mX11_oilLine [pR 98] M f := by
  refine (show KW E mX11_oilLine (qI f) M 0 [(0, pR 98)] [] from ?_)
  refine w_aload_n dX11_oilLine_0 rfl ?_
  refine w_getI (x := (M 98 18)) dX11_oilLine_1 fX11_228 rfl rfl rfl (fun g1 => ?_)
  have h := h g1
  refine w_iconst dX11_oilLine_4 ?_
  refine w_icmp_ne dX11_oilLine_5 rfl ⟨g1, (by decide)⟩ (fun c => ?_) (fun c => ?_)
  · have h := h.1 c
    refine w_aload_n dX11_oilLine_14 rfl ?_
    refine k_vV (as := []) dX11_oilLine_15 kX11_212 ⟨⟨Nat.le_of_ble_eq_true rfl, rfl, rfl⟩, Nat.le_of_ble_eq_true rfl⟩ rfl (by decide) rfl (Nat.le_of_ble_eq_true rfl) h ?_
    intro M3 h
    refine w_aload_n dX11_oilLine_18 rfl ?_
    refine w_iconst dX11_oilLine_19 ?_
    refine w_bipush dX11_oilLine_20 (by decide) ?_
    refine k_vI (as := [pI 0, pI 99]) dX11_oilLine_22 kX11_218 ⟨⟨Nat.le_of_ble_eq_true rfl, rfl, rfl⟩, Nat.le_of_ble_eq_true rfl⟩ rfl (by decide) rfl (Nat.le_of_ble_eq_true rfl) h ?_
    intro r4 M5 h
    obtain ⟨o6, h⟩ := h
    refine w_if_ne dX11_oilLine_25 rfl o6 (fun c => ?_) (fun c => ?_)
    · have h := h.1 c
      refine w_aload_n dX11_oilLine_30 rfl ?_
      refine w_getR dX11_oilLine_31 fX11_45 rfl rfl rfl ?_
      refine w_iconst dX11_oilLine_34 ?_
      refine w_aload_n dX11_oilLine_35 rfl ?_
      refine w_getI (x := (M5 98 18)) dX11_oilLine_36 fX11_228 rfl rfl rfl (fun g7 => ?_)
      have h := h g7
      refine w_iadd dX11_oilLine_39 ?_
      refine w_aload_n dX11_oilLine_40 rfl ?_
      refine w_getI (x := (M5 98 11)) dX11_oilLine_41 fX11_209 rfl rfl rfl (fun g8 => ?_)
      have h := h g8
      obtain ⟨o9, h⟩ := h
      refine w_iast dX11_oilLine_44 rfl o9 g8 ?_
      refine w_aload_n dX11_oilLine_45 rfl ?_
      refine w_dup dX11_oilLine_46 rfl ?_
      refine w_getI (x := (M5 98 18)) dX11_oilLine_47 fX11_228 rfl rfl rfl (fun g10 => ?_)
      have h := h g10
      refine w_iconst dX11_oilLine_50 ?_
      refine w_iadd dX11_oilLine_51 ?_
      obtain ⟨o11, h⟩ := h
      refine w_putI dX11_oilLine_52 (Or.inl ⟨rfl, fX11_228⟩) rfl rfl o11 ?_
      refine w_iconst dX11_oilLine_55 ?_
      exact k_zret dX11_oilLine_56 rfl (by decide) h
    · have h := h.2 c
      refine w_iconst dX11_oilLine_28 ?_
      exact k_zret dX11_oilLine_29 rfl (by decide) h
  · have h := h.2 c
    refine w_aload_n dX11_oilLine_8 rfl ?_
    refine w_iconst dX11_oilLine_9 ?_
    refine k_vI (as := [pI 2]) dX11_oilLine_10 kX11_202 ⟨⟨Nat.le_of_ble_eq_true rfl, rfl, rfl⟩, Nat.le_of_ble_eq_true rfl⟩ rfl (by decide) rfl (Nat.le_of_ble_eq_true rfl) h ?_
    intro r12 M13 h
    obtain ⟨o14, h⟩ := h
    exact k_zret dX11_oilLine_13 rfl o14 h
theorem vX11_onceLine_0 {E : Scr} {f : Int → Mem → Prop} {M : Mem} (x1 x2 : Int) (h : (0 ≤ x1 ∧ x1 < 2) ∧ ((zR (M 101 x1.toNat)) → (((M 101 x1.toNat) = 0 → (0 ≤ x1 ∧ x1 < 2) ∧ (CV E mX11_token [pR 98] (upM M 101 x1.toNat 1) (fun M5 => (CI E mX11_number [pR 98, pI 0, pI x2] M5 (fun r6 M7 => (iR r6) ∧ ((r6 ≠ 0 → ((iR (M7 98 11)) → (0 ≤ (2 + x1) ∧ (2 + x1) < 4) ∧ f 1 (upM M7 102 ((2 + x1).toNat) (M7 98 11)))) ∧ (r6 = 0 → f 0 M7))))))) ∧ ((M 101 x1.toNat) ≠ 0 → (CI E mX11_wrong [pR 98, pI 3] M (fun r11 M12 => (zR r11) ∧ f r11 M12)))))) : CI E mX11_onceLine [pR 98, pI x1, pI x2] M f := by
  refine (show KW E mX11_onceLine (qI f) M 0 [(0, pR 98), (1, pI x1), (2, pI x2)] [] from ?_)
  refine w_aload_n dX11_onceLine_0 rfl ?_
  refine w_getR dX11_onceLine_1 fX11_20 rfl rfl rfl ?_
  refine w_iload_n dX11_onceLine_4 rfl ?_
  obtain ⟨o1, h⟩ := h
  refine w_zald (x := (M 101 x1.toNat)) dX11_onceLine_5 rfl o1 rfl (fun g2 => ?_)
  have h := h g2
  refine w_if_eq dX11_onceLine_6 rfl (z2i g2) (fun c => ?_) (fun c => ?_)
  · have h := h.1 c
    refine w_aload_n dX11_onceLine_15 rfl ?_
    refine w_getR dX11_onceLine_16 fX11_20 rfl rfl rfl ?_
    refine w_iload_n dX11_onceLine_19 rfl ?_
    refine w_iconst dX11_onceLine_20 ?_
    obtain ⟨o3, h⟩ := h
    refine w_zast dX11_onceLine_21 rfl o3 (by decide) ?_
    refine w_aload_n dX11_onceLine_22 rfl ?_
    refine k_vV (as := []) dX11_onceLine_23 kX11_212 ⟨⟨Nat.le_of_ble_eq_true rfl, rfl, rfl⟩, Nat.le_of_ble_eq_true rfl⟩ rfl (by decide) rfl (Nat.le_of_ble_eq_true rfl) h ?_
    intro M5 h
    refine w_aload_n dX11_onceLine_26 rfl ?_
    refine w_iconst dX11_onceLine_27 ?_
    refine w_iload_n dX11_onceLine_28 rfl ?_
    refine k_vI (as := [pI 0, pI x2]) dX11_onceLine_29 kX11_218 ⟨⟨Nat.le_of_ble_eq_true rfl, rfl, rfl⟩, Nat.le_of_ble_eq_true rfl⟩ rfl (by decide) rfl (Nat.le_of_ble_eq_true rfl) h ?_
    intro r6 M7 h
    obtain ⟨o8, h⟩ := h
    refine w_if_ne dX11_onceLine_32 rfl o8 (fun c => ?_) (fun c => ?_)
    · have h := h.1 c
      refine w_aload_n dX11_onceLine_37 rfl ?_
      refine w_getR dX11_onceLine_38 fX11_24 rfl rfl rfl ?_
      refine w_iconst dX11_onceLine_41 ?_
      refine w_iload_n dX11_onceLine_42 rfl ?_
      refine w_iadd dX11_onceLine_43 ?_
      refine w_aload_n dX11_onceLine_44 rfl ?_
      refine w_getI (x := (M7 98 11)) dX11_onceLine_45 fX11_209 rfl rfl rfl (fun g9 => ?_)
      have h := h g9
      obtain ⟨o10, h⟩ := h
      refine w_iast dX11_onceLine_48 rfl o10 g9 ?_
      refine w_iconst dX11_onceLine_49 ?_
      exact k_zret dX11_onceLine_50 rfl (by decide) h
    · have h := h.2 c
      refine w_iconst dX11_onceLine_35 ?_
      exact k_zret dX11_onceLine_36 rfl (by decide) h
  · have h := h.2 c
    refine w_aload_n dX11_onceLine_9 rfl ?_
    refine w_iconst dX11_onceLine_10 ?_
    refine k_vI (as := [pI 3]) dX11_onceLine_11 kX11_202 ⟨⟨Nat.le_of_ble_eq_true rfl, rfl, rfl⟩, Nat.le_of_ble_eq_true rfl⟩ rfl (by decide) rfl (Nat.le_of_ble_eq_true rfl) h ?_
    intro r11 M12 h
    obtain ⟨o13, h⟩ := h
    exact k_zret dX11_onceLine_14 rfl o13 h
theorem vX11_lineRead_0 {E : Scr} {f : Int → Mem → Prop} {M : Mem} (h : ((iR (M 98 8)) → (((M 98 8) ≠ 1 → (CI E mX11_wrong [pR 98, pI 1] M (fun r2 M3 => (zR r2) ∧ f r2 M3))) ∧ ((M 98 8) = 1 → ((iR (M 98 9)) → (((M 98 9) ≤ 6 → ((iR (M 98 9)) → (((M 98 9) = 0 → (CI E mX11_latchLine [pR 98] M (fun r7 M8 => (KW E mX11_lineRead (qI f) M8 215 [(0, pR 98), (1, pI r7)] [])))) ∧ ((M 98 9) = 1 → (CI E mX11_leanLine [pR 98] M (fun r9 M10 => (KW E mX11_lineRead (qI f) M10 215 [(0, pR 98), (1, pI r9)] [])))) ∧ ((M 98 9) = 2 → (CI E mX11_pushLine [pR 98] M (fun r11 M12 => (KW E mX11_lineRead (qI f) M12 215 [(0, pR 98), (1, pI r11)] [])))) ∧ ((M 98 9) = 3 → (CI E mX11_oilLine [pR 98] M (fun r13 M14 => (KW E mX11_lineRead (qI f) M14 215 [(0, pR 98), (1, pI r13)] [])))) ∧ ((M 98 9) = 4 → (CI E mX11_onceLine [pR 98, pI 0, pI 100] M (fun r15 M16 => (KW E mX11_lineRead (qI f) M16 215 [(0, pR 98), (1, pI r15)] [])))) ∧ ((M 98 9) = 5 → (CI E mX11_onceLine [pR 98, pI 1, pI 99999] M (fun r17 M18 => (KW E mX11_lineRead (qI f) M18 215 [(0, pR 98), (1, pI r17)] [])))) ∧ ((M 98 9) < 0 ∨ 5 < (M 98 9) → (CV E mX11_token [pR 98] M (fun M20 => ((iR (M20 98 8)) → (((M20 98 8) ≠ 1 → (CI E mX11_wrong [pR 98, pI 1] M20 (fun r22 M23 => (zR r22) ∧ f r22 M23))) ∧ ((M20 98 8) = 1 → ((iR (M20 98 9)) → (((M20 98 9) < 7 → (CI E mX11_wrong [pR 98, pI 1] M20 (fun r26 M27 => (zR r26) ∧ f r26 M27))) ∧ ((M20 98 9) ≥ 7 → ((iR (M20 98 9)) → (((M20 98 9) ≤ 9 → ((iR (M20 98 9)) → (0 ≤ ((3 + (M20 98 9)) - 7) ∧ ((3 + (M20 98 9)) - 7) < 6) ∧ ((zR (M20 113 (((3 + (M20 98 9)) - 7).toNat))) → (((M20 113 (((3 + (M20 98 9)) - 7).toNat)) = 0 → (0 ≤ ((3 + (M20 98 9)) - 7) ∧ ((3 + (M20 98 9)) - 7) < 6) ∧ (CV E mX11_token [pR 98] (upM M20 113 (((3 + (M20 98 9)) - 7).toNat) 1) (fun M35 => ((iR (M35 98 19)) → (0 ≤ ((3 + (M20 98 9)) - 7) ∧ ((3 + (M20 98 9)) - 7) < 6) ∧ (CI E mX11_sumRead [pR 98] (upM M35 114 (((3 + (M20 98 9)) - 7).toNat) (M35 98 19)) (fun r38 M39 => ((iR (M39 98 19)) → (0 ≤ ((3 + (M20 98 9)) - 7) ∧ ((3 + (M20 98 9)) - 7) < 6) ∧ (KW E mX11_lineRead (qI f) (upM M39 115 (((3 + (M20 98 9)) - 7).toNat) (M39 98 19)) 215 [(0, pR 98), (1, pI r38)] [])))))))) ∧ ((M20 113 (((3 + (M20 98 9)) - 7).toNat)) ≠ 0 → (CI E mX11_wrong [pR 98, pI 3] M20 (fun r42 M43 => (zR r42) ∧ f r42 M43))))))) ∧ ((M20 98 9) > 9 → (CI E mX11_wrong [pR 98, pI 1] M20 (fun r45 M46 => (zR r45) ∧ f r45 M46))))))))))))))))) ∧ ((M 98 9) > 6 → (CI E mX11_wrong [pR 98, pI 1] M (fun r48 M49 => (zR r48) ∧ f r48 M49))))))))) : CI E mX11_lineRead [pR 98] M f := by
  refine (show KW E mX11_lineRead (qI f) M 0 [(0, pR 98)] [] from ?_)
  refine w_aload_n dX11_lineRead_0 rfl ?_
  refine w_getI (x := (M 98 8)) dX11_lineRead_1 fX11_178 rfl rfl rfl (fun g1 => ?_)
  have h := h g1
  refine w_iconst dX11_lineRead_4 ?_
  refine w_icmp_ne dX11_lineRead_5 rfl ⟨g1, (by decide)⟩ (fun c => ?_) (fun c => ?_)
  · have h := h.1 c
    refine w_aload_n dX11_lineRead_17 rfl ?_
    refine w_iconst dX11_lineRead_18 ?_
    refine k_vI (as := [pI 1]) dX11_lineRead_19 kX11_202 ⟨⟨Nat.le_of_ble_eq_true rfl, rfl, rfl⟩, Nat.le_of_ble_eq_true rfl⟩ rfl (by decide) rfl (Nat.le_of_ble_eq_true rfl) h ?_
    intro r2 M3 h
    obtain ⟨o4, h⟩ := h
    exact k_zret dX11_lineRead_22 rfl o4 h
  · have h := h.2 c
    refine w_aload_n dX11_lineRead_8 rfl ?_
    refine w_getI (x := (M 98 9)) dX11_lineRead_9 fX11_189 rfl rfl rfl (fun g5 => ?_)
    have h := h g5
    refine w_bipush dX11_lineRead_12 (by decide) ?_
    refine w_icmp_le dX11_lineRead_14 rfl ⟨g5, (by decide)⟩ (fun c => ?_) (fun c => ?_)
    · have h := h.1 c
      refine w_aload_n dX11_lineRead_23 rfl ?_
      refine w_getI (x := (M 98 9)) dX11_lineRead_24 fX11_189 rfl rfl rfl (fun g6 => ?_)
      have h := h g6
      refine w_tsw (tgs := [64, 72, 80, 88, 96, 107]) (td := 118) dX11_lineRead_27 g6 rfl (by decide) rfl ?_ ?_
      · intro j hj hx
        match j, hj, hx with
        | 0, _, hx =>
          have h := h.1 (by simpa using hx)
          clear hx
          refine w_aload_n dX11_lineRead_64 rfl ?_
          refine k_vI (as := []) dX11_lineRead_65 kX11_276 ⟨⟨Nat.le_of_ble_eq_true rfl, rfl, rfl⟩, Nat.le_of_ble_eq_true rfl⟩ rfl (by decide) rfl (Nat.le_of_ble_eq_true rfl) h ?_
          intro r7 M8 h
          refine w_istore_n dX11_lineRead_68 (by decide) ?_
          refine w_goto dX11_lineRead_69 rfl ?_
          exact k_pick [1, 0] rfl h
        | 1, _, hx =>
          have h := h.2.1 (by simpa using hx)
          clear hx
          refine w_aload_n dX11_lineRead_72 rfl ?_
          refine k_vI (as := []) dX11_lineRead_73 kX11_279 ⟨⟨Nat.le_of_ble_eq_true rfl, rfl, rfl⟩, Nat.le_of_ble_eq_true rfl⟩ rfl (by decide) rfl (Nat.le_of_ble_eq_true rfl) h ?_
          intro r9 M10 h
          refine w_istore_n dX11_lineRead_76 (by decide) ?_
          refine w_goto dX11_lineRead_77 rfl ?_
          exact k_pick [1, 0] rfl h
        | 2, _, hx =>
          have h := h.2.2.1 (by simpa using hx)
          clear hx
          refine w_aload_n dX11_lineRead_80 rfl ?_
          refine k_vI (as := []) dX11_lineRead_81 kX11_282 ⟨⟨Nat.le_of_ble_eq_true rfl, rfl, rfl⟩, Nat.le_of_ble_eq_true rfl⟩ rfl (by decide) rfl (Nat.le_of_ble_eq_true rfl) h ?_
          intro r11 M12 h
          refine w_istore_n dX11_lineRead_84 (by decide) ?_
          refine w_goto dX11_lineRead_85 rfl ?_
          exact k_pick [1, 0] rfl h
        | 3, _, hx =>
          have h := h.2.2.2.1 (by simpa using hx)
          clear hx
          refine w_aload_n dX11_lineRead_88 rfl ?_
          refine k_vI (as := []) dX11_lineRead_89 kX11_285 ⟨⟨Nat.le_of_ble_eq_true rfl, rfl, rfl⟩, Nat.le_of_ble_eq_true rfl⟩ rfl (by decide) rfl (Nat.le_of_ble_eq_true rfl) h ?_
          intro r13 M14 h
          refine w_istore_n dX11_lineRead_92 (by decide) ?_
          refine w_goto dX11_lineRead_93 rfl ?_
          exact k_pick [1, 0] rfl h
        | 4, _, hx =>
          have h := h.2.2.2.2.1 (by simpa using hx)
          clear hx
          refine w_aload_n dX11_lineRead_96 rfl ?_
          refine w_iconst dX11_lineRead_97 ?_
          refine w_bipush dX11_lineRead_98 (by decide) ?_
          refine k_vI (as := [pI 0, pI 100]) dX11_lineRead_100 kX11_288 ⟨⟨Nat.le_of_ble_eq_true rfl, rfl, rfl⟩, Nat.le_of_ble_eq_true rfl⟩ rfl (by decide) rfl (Nat.le_of_ble_eq_true rfl) h ?_
          intro r15 M16 h
          refine w_istore_n dX11_lineRead_103 (by decide) ?_
          refine w_goto dX11_lineRead_104 rfl ?_
          exact k_pick [1, 0] rfl h
        | 5, _, hx =>
          have h := h.2.2.2.2.2.1 (by simpa using hx)
          clear hx
          refine w_aload_n dX11_lineRead_107 rfl ?_
          refine w_iconst dX11_lineRead_108 ?_
          refine w_ldc dX11_lineRead_109 qX11_198 ?_
          refine k_vI (as := [pI 1, pI 99999]) dX11_lineRead_111 kX11_288 ⟨⟨Nat.le_of_ble_eq_true rfl, rfl, rfl⟩, Nat.le_of_ble_eq_true rfl⟩ rfl (by decide) rfl (Nat.le_of_ble_eq_true rfl) h ?_
          intro r17 M18 h
          refine w_istore_n dX11_lineRead_114 (by decide) ?_
          refine w_goto dX11_lineRead_115 rfl ?_
          exact k_pick [1, 0] rfl h
        | _ + 6, hj, _ => exact absurd hj (by simp)
      · intro c
        have h := h.2.2.2.2.2.2 c
        refine w_aload_n dX11_lineRead_118 rfl ?_
        refine k_vV (as := []) dX11_lineRead_119 kX11_212 ⟨⟨Nat.le_of_ble_eq_true rfl, rfl, rfl⟩, Nat.le_of_ble_eq_true rfl⟩ rfl (by decide) rfl (Nat.le_of_ble_eq_true rfl) h ?_
        intro M20 h
        refine w_aload_n dX11_lineRead_122 rfl ?_
        refine w_getI (x := (M20 98 8)) dX11_lineRead_123 fX11_178 rfl rfl rfl (fun g21 => ?_)
        have h := h g21
        refine w_iconst dX11_lineRead_126 ?_
        refine w_icmp_ne dX11_lineRead_127 rfl ⟨g21, (by decide)⟩ (fun c => ?_) (fun c => ?_)
        · have h := h.1 c
          refine w_aload_n dX11_lineRead_148 rfl ?_
          refine w_iconst dX11_lineRead_149 ?_
          refine k_vI (as := [pI 1]) dX11_lineRead_150 kX11_202 ⟨⟨Nat.le_of_ble_eq_true rfl, rfl, rfl⟩, Nat.le_of_ble_eq_true rfl⟩ rfl (by decide) rfl (Nat.le_of_ble_eq_true rfl) h ?_
          intro r22 M23 h
          obtain ⟨o24, h⟩ := h
          exact k_zret dX11_lineRead_153 rfl o24 h
        · have h := h.2 c
          refine w_aload_n dX11_lineRead_130 rfl ?_
          refine w_getI (x := (M20 98 9)) dX11_lineRead_131 fX11_189 rfl rfl rfl (fun g25 => ?_)
          have h := h g25
          refine w_bipush dX11_lineRead_134 (by decide) ?_
          refine w_icmp_lt dX11_lineRead_136 rfl ⟨g25, (by decide)⟩ (fun c => ?_) (fun c => ?_)
          · have h := h.1 c
            refine w_aload_n dX11_lineRead_148 rfl ?_
            refine w_iconst dX11_lineRead_149 ?_
            refine k_vI (as := [pI 1]) dX11_lineRead_150 kX11_202 ⟨⟨Nat.le_of_ble_eq_true rfl, rfl, rfl⟩, Nat.le_of_ble_eq_true rfl⟩ rfl (by decide) rfl (Nat.le_of_ble_eq_true rfl) h ?_
            intro r26 M27 h
            obtain ⟨o28, h⟩ := h
            exact k_zret dX11_lineRead_153 rfl o28 h
          · have h := h.2 c
            refine w_aload_n dX11_lineRead_139 rfl ?_
            refine w_getI (x := (M20 98 9)) dX11_lineRead_140 fX11_189 rfl rfl rfl (fun g29 => ?_)
            have h := h g29
            refine w_bipush dX11_lineRead_143 (by decide) ?_
            refine w_icmp_le dX11_lineRead_145 rfl ⟨g29, (by decide)⟩ (fun c => ?_) (fun c => ?_)
            · have h := h.1 c
              refine w_iconst dX11_lineRead_154 ?_
              refine w_aload_n dX11_lineRead_155 rfl ?_
              refine w_getI (x := (M20 98 9)) dX11_lineRead_156 fX11_189 rfl rfl rfl (fun g30 => ?_)
              have h := h g30
              refine w_iadd dX11_lineRead_159 ?_
              refine w_bipush dX11_lineRead_160 (by decide) ?_
              refine w_isub dX11_lineRead_162 ?_
              refine w_istore_n dX11_lineRead_163 (by decide) ?_
              refine w_aload_n dX11_lineRead_164 rfl ?_
              refine w_getR dX11_lineRead_165 fX11_57 rfl rfl rfl ?_
              refine w_iload_n dX11_lineRead_168 rfl ?_
              obtain ⟨o31, h⟩ := h
              refine w_zald (x := (M20 113 (((3 + (M20 98 9)) - 7).toNat))) dX11_lineRead_169 rfl o31 rfl (fun g32 => ?_)
              have h := h g32
              refine w_if_eq dX11_lineRead_170 rfl (z2i g32) (fun c => ?_) (fun c => ?_)
              · have h := h.1 c
                refine w_aload_n dX11_lineRead_179 rfl ?_
                refine w_getR dX11_lineRead_180 fX11_57 rfl rfl rfl ?_
                refine w_iload_n dX11_lineRead_183 rfl ?_
                refine w_iconst dX11_lineRead_184 ?_
                obtain ⟨o33, h⟩ := h
                refine w_zast dX11_lineRead_185 rfl o33 (by decide) ?_
                refine w_aload_n dX11_lineRead_186 rfl ?_
                refine k_vV (as := []) dX11_lineRead_187 kX11_212 ⟨⟨Nat.le_of_ble_eq_true rfl, rfl, rfl⟩, Nat.le_of_ble_eq_true rfl⟩ rfl (by decide) rfl (Nat.le_of_ble_eq_true rfl) h ?_
                intro M35 h
                refine w_aload_n dX11_lineRead_190 rfl ?_
                refine w_getR dX11_lineRead_191 fX11_60 rfl rfl rfl ?_
                refine w_iload_n dX11_lineRead_194 rfl ?_
                refine w_aload_n dX11_lineRead_195 rfl ?_
                refine w_getI (x := (M35 98 19)) dX11_lineRead_196 fX11_231 rfl rfl rfl (fun g36 => ?_)
                have h := h g36
                obtain ⟨o37, h⟩ := h
                refine w_iast dX11_lineRead_199 rfl o37 g36 ?_
                refine w_aload_n dX11_lineRead_200 rfl ?_
                refine k_vI (as := []) dX11_lineRead_201 kX11_291 ⟨⟨Nat.le_of_ble_eq_true rfl, rfl, rfl⟩, Nat.le_of_ble_eq_true rfl⟩ rfl (by decide) rfl (Nat.le_of_ble_eq_true rfl) h ?_
                intro r38 M39 h
                refine w_istore_n dX11_lineRead_204 (by decide) ?_
                refine w_aload_n dX11_lineRead_205 rfl ?_
                refine w_getR dX11_lineRead_206 fX11_63 rfl rfl rfl ?_
                refine w_iload_n dX11_lineRead_209 rfl ?_
                refine w_aload_n dX11_lineRead_210 rfl ?_
                refine w_getI (x := (M39 98 19)) dX11_lineRead_211 fX11_231 rfl rfl rfl (fun g40 => ?_)
                have h := h g40
                obtain ⟨o41, h⟩ := h
                refine w_iast dX11_lineRead_214 rfl o41 g40 ?_
                exact k_pick [2, 0] rfl h
              · have h := h.2 c
                refine w_aload_n dX11_lineRead_173 rfl ?_
                refine w_iconst dX11_lineRead_174 ?_
                refine k_vI (as := [pI 3]) dX11_lineRead_175 kX11_202 ⟨⟨Nat.le_of_ble_eq_true rfl, rfl, rfl⟩, Nat.le_of_ble_eq_true rfl⟩ rfl (by decide) rfl (Nat.le_of_ble_eq_true rfl) h ?_
                intro r42 M43 h
                obtain ⟨o44, h⟩ := h
                exact k_zret dX11_lineRead_178 rfl o44 h
            · have h := h.2 c
              refine w_aload_n dX11_lineRead_148 rfl ?_
              refine w_iconst dX11_lineRead_149 ?_
              refine k_vI (as := [pI 1]) dX11_lineRead_150 kX11_202 ⟨⟨Nat.le_of_ble_eq_true rfl, rfl, rfl⟩, Nat.le_of_ble_eq_true rfl⟩ rfl (by decide) rfl (Nat.le_of_ble_eq_true rfl) h ?_
              intro r45 M46 h
              obtain ⟨o47, h⟩ := h
              exact k_zret dX11_lineRead_153 rfl o47 h
    · have h := h.2 c
      refine w_aload_n dX11_lineRead_17 rfl ?_
      refine w_iconst dX11_lineRead_18 ?_
      refine k_vI (as := [pI 1]) dX11_lineRead_19 kX11_202 ⟨⟨Nat.le_of_ble_eq_true rfl, rfl, rfl⟩, Nat.le_of_ble_eq_true rfl⟩ rfl (by decide) rfl (Nat.le_of_ble_eq_true rfl) h ?_
      intro r48 M49 h
      obtain ⟨o50, h⟩ := h
      exact k_zret dX11_lineRead_22 rfl o50 h
theorem vX11_lineRead_215 {E : Scr} {f : Int → Mem → Prop} {M : Mem} (x1 : Int) (h : (iR x1) ∧ ((x1 ≠ 0 → (CI E mX11_isSign [pR 98, pI 59] M (fun r2 M3 => (iR r2) ∧ ((r2 ≠ 0 → (CV E mX11_token [pR 98] M3 (fun M6 => f 1 M6))) ∧ (r2 = 0 → (CI E mX11_wrong [pR 98, pI 1] M3 (fun r7 M8 => (zR r7) ∧ f r7 M8))))))) ∧ (x1 = 0 → f 0 M))) : KW E mX11_lineRead (qI f) M 215 [(0, pR 98), (1, pI x1)] [] := by
  refine w_iload_n dX11_lineRead_215 rfl ?_
  obtain ⟨o1, h⟩ := h
  refine w_if_ne dX11_lineRead_216 rfl o1 (fun c => ?_) (fun c => ?_)
  · have h := h.1 c
    refine w_aload_n dX11_lineRead_221 rfl ?_
    refine w_bipush dX11_lineRead_222 (by decide) ?_
    refine k_vI (as := [pI 59]) dX11_lineRead_224 kX11_215 ⟨⟨Nat.le_of_ble_eq_true rfl, rfl, rfl⟩, Nat.le_of_ble_eq_true rfl⟩ rfl (by decide) rfl (Nat.le_of_ble_eq_true rfl) h ?_
    intro r2 M3 h
    obtain ⟨o4, h⟩ := h
    refine w_if_ne dX11_lineRead_227 rfl o4 (fun c => ?_) (fun c => ?_)
    · have h := h.1 c
      refine w_aload_n dX11_lineRead_236 rfl ?_
      refine k_vV (as := []) dX11_lineRead_237 kX11_212 ⟨⟨Nat.le_of_ble_eq_true rfl, rfl, rfl⟩, Nat.le_of_ble_eq_true rfl⟩ rfl (by decide) rfl (Nat.le_of_ble_eq_true rfl) h ?_
      intro M6 h
      refine w_iconst dX11_lineRead_240 ?_
      exact k_zret dX11_lineRead_241 rfl (by decide) h
    · have h := h.2 c
      refine w_aload_n dX11_lineRead_230 rfl ?_
      refine w_iconst dX11_lineRead_231 ?_
      refine k_vI (as := [pI 1]) dX11_lineRead_232 kX11_202 ⟨⟨Nat.le_of_ble_eq_true rfl, rfl, rfl⟩, Nat.le_of_ble_eq_true rfl⟩ rfl (by decide) rfl (Nat.le_of_ble_eq_true rfl) h ?_
      intro r7 M8 h
      obtain ⟨o9, h⟩ := h
      exact k_zret dX11_lineRead_235 rfl o9 h
  · have h := h.2 c
    refine w_iconst dX11_lineRead_219 ?_
    exact k_zret dX11_lineRead_220 rfl (by decide) h
theorem vX11_text_0 {E : Scr} {f : Int → Mem → Prop} {M : Mem} (x1 : Int) (h : (iR x1) ∧ ((x1 < 0 → f (-2) (upM M 98 2 0)) ∧ (x1 ≥ 0 → ((iR (M 98 1)) → (iR x1) ∧ ((x1 ≤ (M 98 1) → (iR x1) ∧ (CV E mX11_plain [pR 98] (upM (upM (upM (upM (upM (upM M 98 2 0) 98 6 x1) 98 1 0) 98 4 0) 98 5 (-1)) 98 7 0) (fun M6 => (CV E mX11_token [pR 98] M6 (fun M8 => (KW E mX11_text (qI f) M8 55 [(0, pR 98), (2, pI 0)] [])))))) ∧ (x1 > (M 98 1) → f (-2) (upM M 98 2 0))))))) : CI E mX11_text [pR 98, pI x1] M f := by
  refine (show KW E mX11_text (qI f) M 0 [(0, pR 98), (1, pI x1)] [] from ?_)
  refine w_aload_n dX11_text_0 rfl ?_
  refine w_iconst dX11_text_1 ?_
  refine w_putI dX11_text_2 (Or.inl ⟨rfl, fX11_160⟩) rfl rfl (by decide) ?_
  refine w_iload_n dX11_text_5 rfl ?_
  obtain ⟨o1, h⟩ := h
  refine w_if_lt dX11_text_6 rfl o1 (fun c => ?_) (fun c => ?_)
  · have h := h.1 c
    refine w_bipush dX11_text_17 (by decide) ?_
    exact k_iret dX11_text_19 rfl h
  · have h := h.2 c
    refine w_iload_n dX11_text_9 rfl ?_
    refine w_aload_n dX11_text_10 rfl ?_
    refine w_getI (x := (M 98 1)) dX11_text_11 fX11_163 rfl rfl rfl (fun g2 => ?_)
    have h := h g2
    obtain ⟨o3, h⟩ := h
    refine w_icmp_le dX11_text_14 rfl ⟨o3, g2⟩ (fun c => ?_) (fun c => ?_)
    · have h := h.1 c
      refine w_aload_n dX11_text_20 rfl ?_
      refine w_iload_n dX11_text_21 rfl ?_
      obtain ⟨o4, h⟩ := h
      refine w_putI dX11_text_22 (Or.inl ⟨rfl, fX11_172⟩) rfl rfl o4 ?_
      refine w_aload_n dX11_text_25 rfl ?_
      refine w_iconst dX11_text_26 ?_
      refine w_putI dX11_text_27 (Or.inl ⟨rfl, fX11_163⟩) rfl rfl (by decide) ?_
      refine w_aload_n dX11_text_30 rfl ?_
      refine w_iconst dX11_text_31 ?_
      refine w_putI dX11_text_32 (Or.inl ⟨rfl, fX11_166⟩) rfl rfl (by decide) ?_
      refine w_aload_n dX11_text_35 rfl ?_
      refine w_iconst dX11_text_36 ?_
      refine w_putI dX11_text_37 (Or.inl ⟨rfl, fX11_16⟩) rfl rfl (by decide) ?_
      refine w_aload_n dX11_text_40 rfl ?_
      refine w_iconst dX11_text_41 ?_
      refine w_putI dX11_text_42 (Or.inl ⟨rfl, fX11_175⟩) rfl rfl (by decide) ?_
      refine w_aload_n dX11_text_45 rfl ?_
      refine k_vV (as := []) dX11_text_46 kX11_154 ⟨⟨Nat.le_of_ble_eq_true rfl, rfl, rfl⟩, Nat.le_of_ble_eq_true rfl⟩ rfl (by decide) rfl (Nat.le_of_ble_eq_true rfl) h ?_
      intro M6 h
      refine w_aload_n dX11_text_49 rfl ?_
      refine k_vV (as := []) dX11_text_50 kX11_212 ⟨⟨Nat.le_of_ble_eq_true rfl, rfl, rfl⟩, Nat.le_of_ble_eq_true rfl⟩ rfl (by decide) rfl (Nat.le_of_ble_eq_true rfl) h ?_
      intro M8 h
      refine w_iconst dX11_text_53 ?_
      refine w_istore_n dX11_text_54 (by decide) ?_
      exact k_pick [1, 0] rfl h
    · have h := h.2 c
      refine w_bipush dX11_text_17 (by decide) ?_
      exact k_iret dX11_text_19 rfl h
theorem vX11_text_55 {E : Scr} {f : Int → Mem → Prop} {M : Mem} (x2 : Int) (h : ((iR (M 98 8)) → (((M 98 8) = 0 → (CV E mX11_keepText [pR 98] M (fun M3 => f x2 M3))) ∧ ((M 98 8) ≠ 0 → (CI E mX11_lineRead [pR 98] M (fun r4 M5 => (iR r4) ∧ ((r4 ≠ 0 → (KW E mX11_text (qI f) M5 55 [(0, pR 98), (2, pI (x2 + 1))] [])) ∧ (r4 = 0 → f (-1) M5)))))))) : KW E mX11_text (qI f) M 55 [(0, pR 98), (2, pI x2)] [] := by
  refine w_aload_n dX11_text_55 rfl ?_
  refine w_getI (x := (M 98 8)) dX11_text_56 fX11_178 rfl rfl rfl (fun g1 => ?_)
  have h := h g1
  refine w_if_eq dX11_text_59 rfl g1 (fun c => ?_) (fun c => ?_)
  · have h := h.1 c
    refine w_aload_n dX11_text_77 rfl ?_
    refine k_vV (as := []) dX11_text_78 kX11_157 ⟨⟨Nat.le_of_ble_eq_true rfl, rfl, rfl⟩, Nat.le_of_ble_eq_true rfl⟩ rfl (by decide) rfl (Nat.le_of_ble_eq_true rfl) h ?_
    intro M3 h
    refine w_iload_n dX11_text_81 rfl ?_
    exact k_iret dX11_text_82 rfl h
  · have h := h.2 c
    refine w_aload_n dX11_text_62 rfl ?_
    refine k_vI (as := []) dX11_text_63 kX11_294 ⟨⟨Nat.le_of_ble_eq_true rfl, rfl, rfl⟩, Nat.le_of_ble_eq_true rfl⟩ rfl (by decide) rfl (Nat.le_of_ble_eq_true rfl) h ?_
    intro r4 M5 h
    obtain ⟨o6, h⟩ := h
    refine w_if_ne dX11_text_66 rfl o6 (fun c => ?_) (fun c => ?_)
    · have h := h.1 c
      refine w_iinc dX11_text_71 rfl (by decide) ?_
      refine w_goto dX11_text_74 rfl ?_
      exact k_pick [1, 0] rfl h
    · have h := h.2 c
      refine w_iconst dX11_text_69 ?_
      exact k_iret dX11_text_70 rfl h
theorem vX11_fault_0 {E : Scr} {f : Int → Mem → Prop} {M : Mem} (x1 : Int) (h : (iR x1) ∧ ((x1 ≠ 0 → (iR x1) ∧ ((x1 ≠ 1 → f (-1) (upM M 98 2 0)) ∧ (x1 = 1 → ((iR (M 98 5)) → f (M 98 5) (upM M 98 2 0))))) ∧ (x1 = 0 → ((iR (M 98 4)) → f (M 98 4) (upM M 98 2 0))))) : CI E mX11_fault [pR 98, pI x1] M f := by
  refine (show KW E mX11_fault (qI f) M 0 [(0, pR 98), (1, pI x1)] [] from ?_)
  refine w_aload_n dX11_fault_0 rfl ?_
  refine w_iconst dX11_fault_1 ?_
  refine w_putI dX11_fault_2 (Or.inl ⟨rfl, fX11_160⟩) rfl rfl (by decide) ?_
  refine w_iload_n dX11_fault_5 rfl ?_
  obtain ⟨o1, h⟩ := h
  refine w_if_ne dX11_fault_6 rfl o1 (fun c => ?_) (fun c => ?_)
  · have h := h.1 c
    refine w_iload_n dX11_fault_16 rfl ?_
    refine w_iconst dX11_fault_17 ?_
    obtain ⟨o2, h⟩ := h
    refine w_icmp_ne dX11_fault_18 rfl ⟨o2, (by decide)⟩ (fun c => ?_) (fun c => ?_)
    · have h := h.1 c
      refine w_iconst dX11_fault_28 ?_
      exact k_iret dX11_fault_29 rfl h
    · have h := h.2 c
      refine w_aload_n dX11_fault_21 rfl ?_
      refine w_getI (x := (M 98 5)) dX11_fault_22 fX11_16 rfl rfl rfl (fun g3 => ?_)
      have h := h g3
      refine w_goto dX11_fault_25 rfl ?_
      exact k_iret dX11_fault_29 rfl h
  · have h := h.2 c
    refine w_aload_n dX11_fault_9 rfl ?_
    refine w_getI (x := (M 98 4)) dX11_fault_10 fX11_166 rfl rfl rfl (fun g4 => ?_)
    have h := h g4
    refine w_goto dX11_fault_13 rfl ?_
    exact k_iret dX11_fault_29 rfl h
theorem vX11_named_0 {E : Scr} {f : Int → Mem → Prop} {M : Mem} (x1 : Int) (h : ((iR (M 98 12)) → (CI E mX11_find [pR 103, pI 0, pI (M 98 12), pI x1] (upM M 98 2 0) (fun r2 M3 => f r2 M3)))) : CI E mX11_named [pR 98, pI x1] M f := by
  refine (show KW E mX11_named (qI f) M 0 [(0, pR 98), (1, pI x1)] [] from ?_)
  refine w_aload_n dX11_named_0 rfl ?_
  refine w_iconst dX11_named_1 ?_
  refine w_putI dX11_named_2 (Or.inl ⟨rfl, fX11_160⟩) rfl rfl (by decide) ?_
  refine w_aload_n dX11_named_5 rfl ?_
  refine w_getR dX11_named_6 fX11_27 rfl rfl rfl ?_
  refine w_iconst dX11_named_9 ?_
  refine w_aload_n dX11_named_10 rfl ?_
  refine w_getI (x := (M 98 12)) dX11_named_11 fX11_240 rfl rfl rfl (fun g1 => ?_)
  have h := h g1
  refine w_iload_n dX11_named_14 rfl ?_
  refine k_sI (as := [pR 103, pI 0, pI (M 98 12), pI x1]) dX11_named_15 kX11_265 ⟨⟨Nat.le_of_ble_eq_true rfl, rfl, rfl⟩, Nat.le_of_ble_eq_true rfl⟩ rfl (Nat.le_of_ble_eq_true rfl) h ?_
  intro r2 M3 h
  exact k_iret dX11_named_18 rfl h
