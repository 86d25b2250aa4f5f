theorem vX11_find_0 {E : Scr} {f : Int → Mem → Prop} {M : Mem} (x1 x2 x3 : Int) (h : (KW E mX11_find (qI f) M 3 [(0, pR 103), (1, pI x1), (2, pI x2), (3, pI x3), (4, pI 0)] [])) : CI E mX11_find [pR 103, pI x1, pI x2, pI x3] M f := by
  refine (show KW E mX11_find (qI f) M 0 [(0, pR 103), (1, pI x1), (2, pI x2), (3, pI x3)] [] from ?_)
  refine w_iconst dX11_find_0 ?_
  refine w_istore dX11_find_1 (by decide) ?_
  exact k_pick [1, 2, 3, 4, 0] rfl h
theorem vX11_find_3 {E : Scr} {f : Int → Mem → Prop} {M : Mem} (x1 x2 x3 x4 : Int) (h : (iR x4) ∧ (iR x2) ∧ ((x4 ≥ x2 → f (-1) M) ∧ (x4 < x2 → (0 ≤ (x1 + x4) ∧ (x1 + x4) < 16) ∧ ((iR (M 103 ((x1 + x4).toNat))) → (iR x3) ∧ (((M 103 ((x1 + x4).toNat)) ≠ x3 → (KW E mX11_find (qI f) M 3 [(0, pR 103), (1, pI x1), (2, pI x2), (3, pI x3), (4, pI (x4 + 1))] [])) ∧ ((M 103 ((x1 + x4).toNat)) = x3 → f x4 M)))))) : KW E mX11_find (qI f) M 3 [(0, pR 103), (1, pI x1), (2, pI x2), (3, pI x3), (4, pI x4)] [] := by
  refine w_iload dX11_find_3 rfl ?_
  refine w_iload_n dX11_find_5 rfl ?_
  obtain ⟨o1, h⟩ := h
  obtain ⟨o2, h⟩ := h
  refine w_icmp_ge dX11_find_6 rfl ⟨o1, o2⟩ (fun c => ?_) (fun c => ?_)
  · have h := h.1 c
    refine w_iconst dX11_find_28 ?_
    exact k_iret dX11_find_29 rfl h
  · have h := h.2 c
    refine w_aload_n dX11_find_9 rfl ?_
    refine w_iload_n dX11_find_10 rfl ?_
    refine w_iload dX11_find_11 rfl ?_
    refine w_iadd dX11_find_13 ?_
    obtain ⟨o3, h⟩ := h
    refine w_iald (x := (M 103 ((x1 + x4).toNat))) dX11_find_14 rfl o3 rfl (fun g4 => ?_)
    have h := h g4
    refine w_iload_n dX11_find_15 rfl ?_
    obtain ⟨o5, h⟩ := h
    refine w_icmp_ne dX11_find_16 rfl ⟨g4, o5⟩ (fun c => ?_) (fun c => ?_)
    · have h := h.1 c
      refine w_iinc dX11_find_22 rfl (by decide) ?_
      refine w_goto dX11_find_25 rfl ?_
      exact k_pick [1, 2, 3, 4, 0] rfl h
    · have h := h.2 c
      refine w_iload dX11_find_19 rfl ?_
      exact k_iret dX11_find_21 rfl h
theorem vX11_isIn_0 {E : Scr} {f : Int → Mem → Prop} {M : Mem} (x0 x1 x2 : Int) (h : (iR x0) ∧ (iR x1) ∧ ((x0 < x1 → f 0 M) ∧ (x0 ≥ x1 → (iR x0) ∧ (iR x2) ∧ ((x0 > x2 → f 0 M) ∧ (x0 ≤ x2 → f 1 M))))) : CI E mX11_isIn [pI x0, pI x1, pI x2] M f := by
  refine (show KW E mX11_isIn (qI f) M 0 [(0, pI x0), (1, pI x1), (2, pI x2)] [] from ?_)
  refine w_iload_n dX11_isIn_0 rfl ?_
  refine w_iload_n dX11_isIn_1 rfl ?_
  obtain ⟨o1, h⟩ := h
  obtain ⟨o2, h⟩ := h
  refine w_icmp_lt dX11_isIn_2 rfl ⟨o1, o2⟩ (fun c => ?_) (fun c => ?_)
  · have h := h.1 c
    refine w_iconst dX11_isIn_14 ?_
    exact k_zret dX11_isIn_15 rfl (by decide) h
  · have h := h.2 c
    refine w_iload_n dX11_isIn_5 rfl ?_
    refine w_iload_n dX11_isIn_6 rfl ?_
    obtain ⟨o3, h⟩ := h
    obtain ⟨o4, h⟩ := h
    refine w_icmp_gt dX11_isIn_7 rfl ⟨o3, o4⟩ (fun c => ?_) (fun c => ?_)
    · have h := h.1 c
      refine w_iconst dX11_isIn_14 ?_
      exact k_zret dX11_isIn_15 rfl (by decide) h
    · have h := h.2 c
      refine w_iconst dX11_isIn_10 ?_
      refine w_goto dX11_isIn_11 rfl ?_
      exact k_zret dX11_isIn_15 rfl (by decide) h
theorem vX11_feed_0 {E : Scr} {f : Int → Mem → Prop} {M : Mem} (x1 x2 x3 x4 x5 : Int) (h : ((iR (M 98 1)) → (iR ((M 98 1) + 20)) ∧ ((((M 98 1) + 20) ≤ 700 → (KW E mX11_feed (qI f) (upM M 98 2 0) 23 [(0, pR 98), (1, pI x1), (2, pI x2), (3, pI x3), (4, pI x4), (5, pI x5), (6, pI 0)] [])) ∧ (((M 98 1) + 20) > 700 → f (-1) (upM M 98 2 0))))) : CI E mX11_feed [pR 98, pI x1, pI x2, pI x3, pI x4, pI x5] M f := by
  refine (show KW E mX11_feed (qI f) M 0 [(0, pR 98), (1, pI x1), (2, pI x2), (3, pI x3), (4, pI x4), (5, pI x5)] [] from ?_)
  refine w_aload_n dX11_feed_0 rfl ?_
  refine w_iconst dX11_feed_1 ?_
  refine w_putI dX11_feed_2 (Or.inl ⟨rfl, fX11_160⟩) rfl rfl (by decide) ?_
  refine w_aload_n dX11_feed_5 rfl ?_
  refine w_getI (x := (M 98 1)) dX11_feed_6 fX11_163 rfl rfl rfl (fun g1 => ?_)
  have h := h g1
  refine w_bipush dX11_feed_9 (by decide) ?_
  refine w_iadd dX11_feed_11 ?_
  refine w_sipush dX11_feed_12 (by decide) ?_
  obtain ⟨o2, h⟩ := h
  refine w_icmp_le dX11_feed_15 rfl ⟨o2, (by decide)⟩ (fun c => ?_) (fun c => ?_)
  · have h := h.1 c
    refine w_iconst dX11_feed_20 ?_
    refine w_istore dX11_feed_21 (by decide) ?_
    exact k_pick [1, 2, 3, 4, 5, 6, 0] rfl h
  · have h := h.2 c
    refine w_iconst dX11_feed_18 ?_
    exact k_iret dX11_feed_19 rfl h
theorem vX11_feed_23 {E : Scr} {f : Int → Mem → Prop} {M : Mem} (x1 x2 x3 x4 x5 x6 : Int) (h : (iR x6) ∧ ((x6 ≥ 20 → ((iR (M 98 1)) → (iR ((M 98 1) + 20)) ∧ ((iR ((M 98 1) + 20)) → f ((M 98 1) + 20) (upM M 98 1 ((M 98 1) + 20))))) ∧ (x6 < 20 → (iR x6) ∧ ((x6 ≥ 4 → (iR x6) ∧ ((x6 ≥ 8 → (iR x6) ∧ ((x6 ≥ 12 → (iR x6) ∧ ((x6 ≥ 16 → (KW E mX11_feed (qI f) M 76 [(0, pR 98), (1, pI x1), (2, pI x2), (3, pI x3), (4, pI x4), (5, pI x5), (6, pI x6)] [pI x5])) ∧ (x6 < 16 → (KW E mX11_feed (qI f) M 76 [(0, pR 98), (1, pI x1), (2, pI x2), (3, pI x3), (4, pI x4), (5, pI x5), (6, pI x6)] [pI x4])))) ∧ (x6 < 12 → (KW E mX11_feed (qI f) M 76 [(0, pR 98), (1, pI x1), (2, pI x2), (3, pI x3), (4, pI x4), (5, pI x5), (6, pI x6)] [pI x3])))) ∧ (x6 < 8 → (KW E mX11_feed (qI f) M 76 [(0, pR 98), (1, pI x1), (2, pI x2), (3, pI x3), (4, pI x4), (5, pI x5), (6, pI x6)] [pI x2])))) ∧ (x6 < 4 → (KW E mX11_feed (qI f) M 76 [(0, pR 98), (1, pI x1), (2, pI x2), (3, pI x3), (4, pI x4), (5, pI x5), (6, pI x6)] [pI x1])))))) : KW E mX11_feed (qI f) M 23 [(0, pR 98), (1, pI x1), (2, pI x2), (3, pI x3), (4, pI x4), (5, pI x5), (6, pI x6)] [] := by
  refine w_iload dX11_feed_23 rfl ?_
  refine w_bipush dX11_feed_25 (by decide) ?_
  obtain ⟨o1, h⟩ := h
  refine w_icmp_ge dX11_feed_27 rfl ⟨o1, (by decide)⟩ (fun c => ?_) (fun c => ?_)
  · have h := h.1 c
    refine w_aload_n dX11_feed_113 rfl ?_
    refine w_dup dX11_feed_114 rfl ?_
    refine w_getI (x := (M 98 1)) dX11_feed_115 fX11_163 rfl rfl rfl (fun g2 => ?_)
    have h := h g2
    refine w_bipush dX11_feed_118 (by decide) ?_
    refine w_iadd dX11_feed_120 ?_
    obtain ⟨o3, h⟩ := h
    refine w_putI dX11_feed_121 (Or.inl ⟨rfl, fX11_163⟩) rfl rfl o3 ?_
    refine w_aload_n dX11_feed_124 rfl ?_
    refine w_getI (x := ((M 98 1) + 20)) dX11_feed_125 fX11_163 rfl rfl rfl (fun g4 => ?_)
    have h := h g4
    exact k_iret dX11_feed_128 rfl h
  · have h := h.2 c
    refine w_iload dX11_feed_30 rfl ?_
    refine w_iconst dX11_feed_32 ?_
    obtain ⟨o5, h⟩ := h
    refine w_icmp_ge dX11_feed_33 rfl ⟨o5, (by decide)⟩ (fun c => ?_) (fun c => ?_)
    · have h := h.1 c
      refine w_iload dX11_feed_40 rfl ?_
      refine w_bipush dX11_feed_42 (by decide) ?_
      obtain ⟨o6, h⟩ := h
      refine w_icmp_ge dX11_feed_44 rfl ⟨o6, (by decide)⟩ (fun c => ?_) (fun c => ?_)
      · have h := h.1 c
        refine w_iload dX11_feed_51 rfl ?_
        refine w_bipush dX11_feed_53 (by decide) ?_
        obtain ⟨o7, h⟩ := h
        refine w_icmp_ge dX11_feed_55 rfl ⟨o7, (by decide)⟩ (fun c => ?_) (fun c => ?_)
        · have h := h.1 c
          refine w_iload dX11_feed_62 rfl ?_
          refine w_bipush dX11_feed_64 (by decide) ?_
          obtain ⟨o8, h⟩ := h
          refine w_icmp_ge dX11_feed_66 rfl ⟨o8, (by decide)⟩ (fun c => ?_) (fun c => ?_)
          · have h := h.1 c
            refine w_iload dX11_feed_74 rfl ?_
            exact k_pick [0, 1, 2, 3, 4, 5, 6] rfl h
          · have h := h.2 c
            refine w_iload dX11_feed_69 rfl ?_
            refine w_goto dX11_feed_71 rfl ?_
            exact k_pick [0, 1, 2, 3, 4, 5, 6] rfl h
        · have h := h.2 c
          refine w_iload_n dX11_feed_58 rfl ?_
          refine w_goto dX11_feed_59 rfl ?_
          exact k_pick [0, 1, 2, 3, 4, 5, 6] rfl h
      · have h := h.2 c
        refine w_iload_n dX11_feed_47 rfl ?_
        refine w_goto dX11_feed_48 rfl ?_
        exact k_pick [0, 1, 2, 3, 4, 5, 6] rfl h
    · have h := h.2 c
      refine w_iload_n dX11_feed_36 rfl ?_
      refine w_goto dX11_feed_37 rfl ?_
      exact k_pick [0, 1, 2, 3, 4, 5, 6] rfl h
theorem vX11_feed_76 {E : Scr} {f : Int → Mem → Prop} {M : Mem} (x1 x2 x3 x4 x5 x6 s0 : Int) (h : ((iR (M 98 1)) → (iR x6) ∧ (0 ≤ ((M 98 1) + x6) ∧ ((M 98 1) + x6) < 700) ∧ (KW E mX11_feed (qI f) (upM M 99 (((M 98 1) + x6).toNat) (bAnd (bShr s0 (24 - (8 * (Int.tmod x6 4)))) 255)) 23 [(0, pR 98), (1, pI x1), (2, pI x2), (3, pI x3), (4, pI x4), (5, pI x5), (6, pI (x6 + 1))] []))) : KW E mX11_feed (qI f) M 76 [(0, pR 98), (1, pI x1), (2, pI x2), (3, pI x3), (4, pI x4), (5, pI x5), (6, pI x6)] [pI s0] := by
  refine w_istore dX11_feed_76 (by decide) ?_
  refine w_aload_n dX11_feed_78 rfl ?_
  refine w_getR dX11_feed_79 fX11_7 rfl rfl rfl ?_
  refine w_aload_n dX11_feed_82 rfl ?_
  refine w_getI (x := (M 98 1)) dX11_feed_83 fX11_163 rfl rfl rfl (fun g1 => ?_)
  have h := h g1
  refine w_iload dX11_feed_86 rfl ?_
  refine w_iadd dX11_feed_88 ?_
  refine w_iload dX11_feed_89 rfl ?_
  refine w_bipush dX11_feed_91 (by decide) ?_
  refine w_bipush dX11_feed_93 (by decide) ?_
  refine w_iload dX11_feed_95 rfl ?_
  refine w_iconst dX11_feed_97 ?_
  obtain ⟨o2, h⟩ := h
  refine w_irem dX11_feed_98 ⟨o2, (by decide), (by decide)⟩ ?_
  refine w_imul dX11_feed_99 ?_
  refine w_isub dX11_feed_100 ?_
  refine w_ishr dX11_feed_101 ?_
  refine w_sipush dX11_feed_102 (by decide) ?_
  refine w_iand dX11_feed_105 ?_
  obtain ⟨o3, h⟩ := h
  refine w_iast dX11_feed_106 rfl o3 (bAnd_r _ _) ?_
  refine w_iinc dX11_feed_107 rfl (by decide) ?_
  refine w_goto dX11_feed_110 rfl ?_
  exact k_pick [2, 3, 4, 5, 6, 7, 0] rfl h
theorem vX1_has_0 {E : Scr} {f : Int → Mem → Prop} {M : Mem} (x1 : Int) {dd : Nat} (hd : dd = 5 ∨ dd = 21) (h : (iR x1) ∧ ((x1 < 0 → f 0 M) ∧ (x1 ≥ 0 → ((iR (M dd 1)) → (iR x1) ∧ ((x1 ≥ (M dd 1) → f 0 M) ∧ (x1 < (M dd 1) → (iR x1) ∧ ((x1 ≥ 8 → f 0 M) ∧ (x1 < 8 → f 1 M)))))))) : CI E mX1_has [pR dd, pI x1] M f := by
  rcases hd with rfl | rfl
  · refine (show KW E mX1_has (qI f) M 0 [(0, pR 5), (1, pI x1)] [] from ?_)
    refine w_iload_n dX1_has_0 rfl ?_
    obtain ⟨o1, h⟩ := h
    refine w_if_lt dX1_has_1 rfl o1 (fun c => ?_) (fun c => ?_)
    · have h := h.1 c
      refine w_iconst dX1_has_22 ?_
      exact k_zret dX1_has_23 rfl (by decide) h
    · have h := h.2 c
      refine w_iload_n dX1_has_4 rfl ?_
      refine w_aload_n dX1_has_5 rfl ?_
      refine w_getI (x := (M 5 1)) dX1_has_6 fX1_57 rfl rfl rfl (fun g2 => ?_)
      have h := h g2
      obtain ⟨o3, h⟩ := h
      refine w_icmp_ge dX1_has_9 rfl ⟨o3, g2⟩ (fun c => ?_) (fun c => ?_)
      · have h := h.1 c
        refine w_iconst dX1_has_22 ?_
        exact k_zret dX1_has_23 rfl (by decide) h
      · have h := h.2 c
        refine w_iload_n dX1_has_12 rfl ?_
        refine w_bipush dX1_has_13 (by decide) ?_
        obtain ⟨o4, h⟩ := h
        refine w_icmp_ge dX1_has_15 rfl ⟨o4, (by decide)⟩ (fun c => ?_) (fun c => ?_)
        · have h := h.1 c
          refine w_iconst dX1_has_22 ?_
          exact k_zret dX1_has_23 rfl (by decide) h
        · have h := h.2 c
          refine w_iconst dX1_has_18 ?_
          refine w_goto dX1_has_19 rfl ?_
          exact k_zret dX1_has_23 rfl (by decide) h
  · refine (show KW E mX1_has (qI f) M 0 [(0, pR 21), (1, pI x1)] [] from ?_)
    refine w_iload_n dX1_has_0 rfl ?_
    obtain ⟨o1, h⟩ := h
    refine w_if_lt dX1_has_1 rfl o1 (fun c => ?_) (fun c => ?_)
    · have h := h.1 c
      refine w_iconst dX1_has_22 ?_
      exact k_zret dX1_has_23 rfl (by decide) h
    · have h := h.2 c
      refine w_iload_n dX1_has_4 rfl ?_
      refine w_aload_n dX1_has_5 rfl ?_
      refine w_getI (x := (M 21 1)) dX1_has_6 fX1_57 rfl rfl rfl (fun g2 => ?_)
      have h := h g2
      obtain ⟨o3, h⟩ := h
      refine w_icmp_ge dX1_has_9 rfl ⟨o3, g2⟩ (fun c => ?_) (fun c => ?_)
      · have h := h.1 c
        refine w_iconst dX1_has_22 ?_
        exact k_zret dX1_has_23 rfl (by decide) h
      · have h := h.2 c
        refine w_iload_n dX1_has_12 rfl ?_
        refine w_bipush dX1_has_13 (by decide) ?_
        obtain ⟨o4, h⟩ := h
        refine w_icmp_ge dX1_has_15 rfl ⟨o4, (by decide)⟩ (fun c => ?_) (fun c => ?_)
        · have h := h.1 c
          refine w_iconst dX1_has_22 ?_
          exact k_zret dX1_has_23 rfl (by decide) h
        · have h := h.2 c
          refine w_iconst dX1_has_18 ?_
          refine w_goto dX1_has_19 rfl ?_
          exact k_zret dX1_has_23 rfl (by decide) h
theorem vX7_take_0 {E : Scr} {f : Mem → Prop} {M : Mem} {ss oo : Nat} (hs : isSt ss) (ho : isSt oo) (hne : oo ≠ ss) (hn1 : oo + 1 ≠ ss) (h : ((iR (M oo 0)) → ((iR (M oo 1)) → ((iR (M oo 2)) → ((iR (M oo 3)) → ((iR (M oo 4)) → ((lR (M oo 5)) → f (cpM (upM (upM (upM (upM (upM (upM M ss 0 (M oo 0)) ss 1 (M oo 1)) ss 2 (M oo 2)) ss 3 (M oo 3)) ss 4 (M oo 4)) ss 5 (M oo 5)) (oo + 1) (ss + 1) 0 0 8)))))))) : CV E mX7_take [pR ss, pR oo] M f := by
  refine (show KW E mX7_take (qV f) M 0 [(0, pR ss), (1, pR oo)] [] from ?_)
  refine w_aload_n dX7_take_0 rfl ?_
  refine w_aload_n dX7_take_1 rfl ?_
  refine w_getI (x := (M oo 0)) dX7_take_2 fX7_15 ho.1 rfl rfl (fun g1 => ?_)
  have h := h g1
  refine w_putI dX7_take_5 (Or.inl ⟨rfl, fX7_15⟩) hs.1 rfl g1 ?_
  refine w_aload_n dX7_take_8 rfl ?_
  refine w_aload_n dX7_take_9 rfl ?_
  refine w_getI (x := (M oo 1)) dX7_take_10 fX7_24 ho.1 rfl (by simp only [upM_ne _ _ _ hne]; try rfl) (fun g2 => ?_)
  have h := h g2
  refine w_putI dX7_take_13 (Or.inl ⟨rfl, fX7_24⟩) hs.1 rfl g2 ?_
  refine w_aload_n dX7_take_16 rfl ?_
  refine w_aload_n dX7_take_17 rfl ?_
  refine w_getI (x := (M oo 2)) dX7_take_18 fX7_27 ho.1 rfl (by simp only [upM_ne _ _ _ hne]; try rfl) (fun g3 => ?_)
  have h := h g3
  refine w_putI dX7_take_21 (Or.inl ⟨rfl, fX7_27⟩) hs.1 rfl g3 ?_
  refine w_aload_n dX7_take_24 rfl ?_
  refine w_aload_n dX7_take_25 rfl ?_
  refine w_getI (x := (M oo 3)) dX7_take_26 fX7_30 ho.1 rfl (by simp only [upM_ne _ _ _ hne]; try rfl) (fun g4 => ?_)
  have h := h g4
  refine w_putI dX7_take_29 (Or.inl ⟨rfl, fX7_30⟩) hs.1 rfl g4 ?_
  refine w_aload_n dX7_take_32 rfl ?_
  refine w_aload_n dX7_take_33 rfl ?_
  refine w_getI (x := (M oo 4)) dX7_take_34 fX7_33 ho.1 rfl (by simp only [upM_ne _ _ _ hne]; try rfl) (fun g5 => ?_)
  have h := h g5
  refine w_putI dX7_take_37 (Or.inl ⟨rfl, fX7_33⟩) hs.1 rfl g5 ?_
  refine w_aload_n dX7_take_40 rfl ?_
  refine w_aload_n dX7_take_41 rfl ?_
  refine w_getL (x := (M oo 5)) dX7_take_42 fX7_39 ho.1 rfl (by simp only [upM_ne _ _ _ hne]; try rfl) (fun g6 => ?_)
  have h := h g6
  refine w_putL dX7_take_45 (Or.inl ⟨rfl, fX7_39⟩) hs.1 rfl g6 ?_
  refine w_aload_n dX7_take_48 rfl ?_
  refine w_getR dX7_take_49 fX7_9 ho.1 rfl ho.2.1 ?_
  refine w_iconst dX7_take_52 ?_
  refine w_aload_n dX7_take_53 rfl ?_
  refine w_getR dX7_take_54 fX7_9 hs.1 rfl hs.2.1 ?_
  refine w_iconst dX7_take_57 ?_
  refine w_bipush dX7_take_58 (by decide) ?_
  refine w_copyI dX7_take_60 kX7_49 ⟨by decide, Nat.le_of_ble_eq_true rfl⟩ ho.2.2 hs.2.2 ⟨by decide, by decide, by decide⟩ ⟨by decide, by decide⟩ ?_
  exact k_vret dX7_take_63 rfl h
theorem vX11_copies_0 {E : Scr} {f : Mem → Prop} {M : Mem} (x1 : Int) {aa nn : Nat} (hT : T0[aa]? = some (20, nn)) (h : (KW E mX11_copies (qV f) M 2 [(0, pR aa), (1, pI x1), (2, pI 0)] [])) : CV E mX11_copies [pR aa, pI x1] M f := by
  refine (show KW E mX11_copies (qV f) M 0 [(0, pR aa), (1, pI x1)] [] from ?_)
  refine w_iconst dX11_copies_0 ?_
  refine w_istore_n dX11_copies_1 (by decide) ?_
  exact k_pick [1, 2, 0] rfl h
theorem vX11_copies_2 {E : Scr} {f : Mem → Prop} {M : Mem} (x1 x2 : Int) {aa nn : Nat} (hT : T0[aa]? = some (20, nn)) (h : (iR x2) ∧ (iR x1) ∧ ((x2 ≥ x1 → f M) ∧ (x2 < x1 → (0 ≤ (x1 + x2) ∧ (x1 + x2) < nn) ∧ ((iR (M aa ((x1 + x2).toNat))) → (0 ≤ x2 ∧ x2 < nn) ∧ (KW E mX11_copies (qV f) (upM M aa x2.toNat (M aa ((x1 + x2).toNat))) 2 [(0, pR aa), (1, pI x1), (2, pI (x2 + 1))] []))))) : KW E mX11_copies (qV f) M 2 [(0, pR aa), (1, pI x1), (2, pI x2)] [] := by
  refine w_iload_n dX11_copies_2 rfl ?_
  refine w_iload_n dX11_copies_3 rfl ?_
  obtain ⟨o1, h⟩ := h
  obtain ⟨o2, h⟩ := h
  refine w_icmp_ge dX11_copies_4 rfl ⟨o1, o2⟩ (fun c => ?_) (fun c => ?_)
  · have h := h.1 c
    exact k_vret dX11_copies_21 rfl h
  · have h := h.2 c
    refine w_aload_n dX11_copies_7 rfl ?_
    refine w_iload_n dX11_copies_8 rfl ?_
    refine w_aload_n dX11_copies_9 rfl ?_
    refine w_iload_n dX11_copies_10 rfl ?_
    refine w_iload_n dX11_copies_11 rfl ?_
    refine w_iadd dX11_copies_12 ?_
    obtain ⟨o3, h⟩ := h
    refine w_iald (x := (M aa ((x1 + x2).toNat))) dX11_copies_13 hT o3 rfl (fun g4 => ?_)
    have h := h g4
    obtain ⟨o5, h⟩ := h
    refine w_iast dX11_copies_14 hT o5 g4 ?_
    refine w_iinc dX11_copies_15 rfl (by decide) ?_
    refine w_goto dX11_copies_18 rfl ?_
    exact k_pick [1, 2, 0] rfl h
theorem vX2_worth_0 {E : Scr} {f : Int → Mem → Prop} {M : Mem} (x1 x2 : Int) {dd sc : Nat} (hd : (dd = 15 ∧ sc = 19) ∨ (dd = 31 ∧ sc = 43)) (h : (iR x1) ∧ ((x1 ≥ 0 → (KW E mX2_worth (qL f) M 14 [(0, pR dd), (2, pI x2), (3, pR sc), (4, pI 0), (5, pI x1)] [])) ∧ (x1 < 0 → f (-9223372036854775808) M))) : CL E mX2_worth [pR dd, pI x1, pI x2, pR sc] M f := by
  rcases hd with ⟨rfl, rfl⟩ | ⟨rfl, rfl⟩
  · refine (show KW E mX2_worth (qL f) M 0 [(0, pR 15), (1, pI x1), (2, pI x2), (3, pR 19)] [] from ?_)
    refine w_iload_n dX2_worth_0 rfl ?_
    obtain ⟨o1, h⟩ := h
    refine w_if_ge dX2_worth_1 rfl o1 (fun c => ?_) (fun c => ?_)
    · have h := h.1 c
      refine w_iconst dX2_worth_8 ?_
      refine w_istore dX2_worth_9 (by decide) ?_
      refine w_iload_n dX2_worth_11 rfl ?_
      refine w_istore dX2_worth_12 (by decide) ?_
      exact k_pick [2, 4, 5, 1, 0] rfl h
    · have h := h.2 c
      refine w_ldc2 dX2_worth_4 qX2_26 ?_
      exact k_lret dX2_worth_7 rfl h
  · refine (show KW E mX2_worth (qL f) M 0 [(0, pR 31), (1, pI x1), (2, pI x2), (3, pR 43)] [] from ?_)
    refine w_iload_n dX2_worth_0 rfl ?_
    obtain ⟨o1, h⟩ := h
    refine w_if_ge dX2_worth_1 rfl o1 (fun c => ?_) (fun c => ?_)
    · have h := h.1 c
      refine w_iconst dX2_worth_8 ?_
      refine w_istore dX2_worth_9 (by decide) ?_
      refine w_iload_n dX2_worth_11 rfl ?_
      refine w_istore dX2_worth_12 (by decide) ?_
      exact k_pick [2, 4, 5, 1, 0] rfl h
    · have h := h.2 c
      refine w_ldc2 dX2_worth_4 qX2_26 ?_
      exact k_lret dX2_worth_7 rfl h
theorem vX2_worth_14 {E : Scr} {f : Int → Mem → Prop} {M : Mem} (x2 x4 x5 : Int) {dd sc : Nat} (hd : (dd = 15 ∧ sc = 19) ∨ (dd = 31 ∧ sc = 43)) (h : (iR x5) ∧ (iR x2) ∧ ((x5 ≥ x2 → (iR x4) ∧ ((x4 ≠ 1 → f (-9223372036854775808) M) ∧ (x4 = 1 → ((lR (M (dd + 3) 0)) → f (M (dd + 3) 0) M)))) ∧ (x5 < x2 → (iR x5) ∧ ((x5 ≥ 64 → (iR x4) ∧ ((x4 ≠ 1 → f (-9223372036854775808) M) ∧ (x4 = 1 → ((lR (M (dd + 3) 0)) → f (M (dd + 3) 0) M)))) ∧ (x5 < 64 → (0 ≤ x5 ∧ x5 < 64) ∧ ((iR (M (dd + 1) x5.toNat)) → (CI E mX2_sidesOf [pI (M (dd + 1) x5.toNat)] M (fun r10 M11 => (iR x4) ∧ (iR r10) ∧ ((x4 < r10 → f (-9223372036854775808) M11) ∧ (x4 ≥ r10 → (iR x4) ∧ ((x4 < 64 → (iR r10) ∧ ((r10 ≠ 0 → (iR r10) ∧ ((r10 ≠ 1 → (iR ((x4 - r10) + 1)) ∧ ((((x4 - r10) + 1) ≥ 64 → (0 ≤ (x4 - r10) ∧ (x4 - r10) < 64) ∧ ((lR (M11 (dd + 3) ((x4 - r10).toNat))) → (((M11 (dd + 3) ((x4 - r10).toNat)) ≠ (-9223372036854775808) → (KW E mX2_worth (qL f) M11 14 [(0, pR dd), (2, pI x2), (3, pR sc), (4, pI ((x4 - r10) + 1)), (5, pI (x5 + 1))] [])) ∧ ((M11 (dd + 3) ((x4 - r10).toNat)) = (-9223372036854775808) → f (-9223372036854775808) M11)))) ∧ (((x4 - r10) + 1) < 64 → (0 ≤ x5 ∧ x5 < 64) ∧ ((iR (M11 (dd + 1) x5.toNat)) → (0 ≤ (x4 - r10) ∧ (x4 - r10) < 64) ∧ ((lR (M11 (dd + 3) ((x4 - r10).toNat))) → (0 ≤ ((x4 - r10) + 1) ∧ ((x4 - r10) + 1) < 64) ∧ ((lR (M11 (dd + 3) (((x4 - r10) + 1).toNat))) → (CL E mX2_joined [pI (M11 (dd + 1) x5.toNat), pL (M11 (dd + 3) ((x4 - r10).toNat)), pL (M11 (dd + 3) (((x4 - r10) + 1).toNat))] M11 (fun r26 M27 => (0 ≤ (x4 - r10) ∧ (x4 - r10) < 64) ∧ (lR r26) ∧ (0 ≤ (x4 - r10) ∧ (x4 - r10) < 64) ∧ ((lR r26) → ((r26 ≠ (-9223372036854775808) → (KW E mX2_worth (qL f) (upM M27 (dd + 3) ((x4 - r10).toNat) r26) 14 [(0, pR dd), (2, pI x2), (3, pR sc), (4, pI ((x4 - r10) + 1)), (5, pI (x5 + 1))] [])) ∧ (r26 = (-9223372036854775808) → f (-9223372036854775808) (upM M27 (dd + 3) ((x4 - r10).toNat) r26)))))))))))) ∧ (r10 = 1 → (0 ≤ (x4 - r10) ∧ (x4 - r10) < 64) ∧ ((lR (M11 (dd + 3) ((x4 - r10).toNat))) → (((M11 (dd + 3) ((x4 - r10).toNat)) ≠ 0 → (0 ≤ (x4 - r10) ∧ (x4 - r10) < 64) ∧ (0 ≤ (x4 - r10) ∧ (x4 - r10) < 64) ∧ ((lR 0) → ((0 ≠ (-9223372036854775808) → (KW E mX2_worth (qL f) (upM M11 (dd + 3) ((x4 - r10).toNat) 0) 14 [(0, pR dd), (2, pI x2), (3, pR sc), (4, pI ((x4 - r10) + 1)), (5, pI (x5 + 1))] [])) ∧ (0 = (-9223372036854775808) → f (-9223372036854775808) (upM M11 (dd + 3) ((x4 - r10).toNat) 0))))) ∧ ((M11 (dd + 3) ((x4 - r10).toNat)) = 0 → (0 ≤ (x4 - r10) ∧ (x4 - r10) < 64) ∧ (0 ≤ (x4 - r10) ∧ (x4 - r10) < 64) ∧ ((lR 1) → ((1 ≠ (-9223372036854775808) → (KW E mX2_worth (qL f) (upM M11 (dd + 3) ((x4 - r10).toNat) 1) 14 [(0, pR dd), (2, pI x2), (3, pR sc), (4, pI ((x4 - r10) + 1)), (5, pI (x5 + 1))] [])) ∧ (1 = (-9223372036854775808) → f (-9223372036854775808) (upM M11 (dd + 3) ((x4 - r10).toNat) 1)))))))))) ∧ (r10 = 0 → (0 ≤ x5 ∧ x5 < 64) ∧ ((iR (M11 (dd + 1) x5.toNat)) → (0 ≤ x5 ∧ x5 < 64) ∧ ((iR (M11 (dd + 2) x5.toNat)) → (CI E mX6_leaf [pR sc, pI (M11 (dd + 1) x5.toNat), pI (M11 (dd + 2) x5.toNat)] M11 (fun r44 M45 => (iR r44) ∧ (0 ≤ (x4 - r10) ∧ (x4 - r10) < 64) ∧ (0 ≤ (x4 - r10) ∧ (x4 - r10) < 64) ∧ ((lR r44) → ((r44 ≠ (-9223372036854775808) → (KW E mX2_worth (qL f) (upM M45 (dd + 3) ((x4 - r10).toNat) r44) 14 [(0, pR dd), (2, pI x2), (3, pR sc), (4, pI ((x4 - r10) + 1)), (5, pI (x5 + 1))] [])) ∧ (r44 = (-9223372036854775808) → f (-9223372036854775808) (upM M45 (dd + 3) ((x4 - r10).toNat) r44))))))))))) ∧ (x4 ≥ 64 → f (-9223372036854775808) M11)))))))))))) : KW E mX2_worth (qL f) M 14 [(0, pR dd), (2, pI x2), (3, pR sc), (4, pI x4), (5, pI x5)] [] := by
  rcases hd with ⟨rfl, rfl⟩ | ⟨rfl, rfl⟩
  · refine w_iload dX2_worth_14 rfl ?_
    refine w_iload_n dX2_worth_16 rfl ?_
    obtain ⟨o1, h⟩ := h
    obtain ⟨o2, h⟩ := h
    refine w_icmp_ge dX2_worth_17 rfl ⟨o1, o2⟩ (fun c => ?_) (fun c => ?_)
    · have h := h.1 c
      refine w_iload dX2_worth_200 rfl ?_
      refine w_iconst dX2_worth_202 ?_
      obtain ⟨o3, h⟩ := h
      refine w_icmp_ne dX2_worth_203 rfl ⟨o3, (by decide)⟩ (fun c => ?_) (fun c => ?_)
      · have h := h.1 c
        refine w_ldc2 dX2_worth_215 qX2_26 ?_
        exact k_lret dX2_worth_218 rfl h
      · have h := h.2 c
        refine w_aload_n dX2_worth_206 rfl ?_
        refine w_getR dX2_worth_207 fX2_18 rfl rfl rfl ?_
        refine w_iconst dX2_worth_210 ?_
        refine w_lald (x := (M (15 + 3) 0)) dX2_worth_211 rfl (by decide) rfl (fun g4 => ?_)
        have h := h g4
        refine w_goto dX2_worth_212 rfl ?_
        exact k_lret dX2_worth_218 rfl h
    · have h := h.2 c
      refine w_iload dX2_worth_20 rfl ?_
      refine w_bipush dX2_worth_22 (by decide) ?_
      obtain ⟨o5, h⟩ := h
      refine w_icmp_ge dX2_worth_24 rfl ⟨o5, (by decide)⟩ (fun c => ?_) (fun c => ?_)
      · have h := h.1 c
        refine w_iload dX2_worth_200 rfl ?_
        refine w_iconst dX2_worth_202 ?_
        obtain ⟨o6, h⟩ := h
        refine w_icmp_ne dX2_worth_203 rfl ⟨o6, (by decide)⟩ (fun c => ?_) (fun c => ?_)
        · have h := h.1 c
          refine w_ldc2 dX2_worth_215 qX2_26 ?_
          exact k_lret dX2_worth_218 rfl h
        · have h := h.2 c
          refine w_aload_n dX2_worth_206 rfl ?_
          refine w_getR dX2_worth_207 fX2_18 rfl rfl rfl ?_
          refine w_iconst dX2_worth_210 ?_
          refine w_lald (x := (M (15 + 3) 0)) dX2_worth_211 rfl (by decide) rfl (fun g7 => ?_)
          have h := h g7
          refine w_goto dX2_worth_212 rfl ?_
          exact k_lret dX2_worth_218 rfl h
      · have h := h.2 c
        refine w_aload_n dX2_worth_27 rfl ?_
        refine w_getR dX2_worth_28 fX2_9 rfl rfl rfl ?_
        refine w_iload dX2_worth_31 rfl ?_
        obtain ⟨o8, h⟩ := h
        refine w_iald (x := (M (15 + 1) x5.toNat)) dX2_worth_33 rfl o8 rfl (fun g9 => ?_)
        have h := h g9
        refine k_sI (as := [pI (M (15 + 1) x5.toNat)]) dX2_worth_34 kX2_28 ⟨⟨Nat.le_of_ble_eq_true rfl, rfl, rfl⟩, Nat.le_of_ble_eq_true rfl⟩ rfl (Nat.le_of_ble_eq_true rfl) h ?_
        intro r10 M11 h
        refine w_istore dX2_worth_37 (by decide) ?_
        refine w_iload dX2_worth_39 rfl ?_
        refine w_iload dX2_worth_41 rfl ?_
        obtain ⟨o12, h⟩ := h
        obtain ⟨o13, h⟩ := h
        refine w_icmp_lt dX2_worth_43 rfl ⟨o12, o13⟩ (fun c => ?_) (fun c => ?_)
        · have h := h.1 c
          refine w_ldc2 dX2_worth_53 qX2_26 ?_
          exact k_lret dX2_worth_56 rfl h
        · have h := h.2 c
          refine w_iload dX2_worth_46 rfl ?_
          refine w_bipush dX2_worth_48 (by decide) ?_
          obtain ⟨o14, h⟩ := h
          refine w_icmp_lt dX2_worth_50 rfl ⟨o14, (by decide)⟩ (fun c => ?_) (fun c => ?_)
          · have h := h.1 c
            refine w_iload dX2_worth_57 rfl ?_
            refine w_iload dX2_worth_59 rfl ?_
            refine w_isub dX2_worth_61 ?_
            refine w_istore dX2_worth_62 (by decide) ?_
            refine w_iload dX2_worth_64 rfl ?_
            obtain ⟨o15, h⟩ := h
            refine w_if_ne dX2_worth_66 rfl o15 (fun c => ?_) (fun c => ?_)
            · have h := h.1 c
              refine w_iload dX2_worth_98 rfl ?_
              refine w_iconst dX2_worth_100 ?_
              obtain ⟨o16, h⟩ := h
              refine w_icmp_ne dX2_worth_101 rfl ⟨o16, (by decide)⟩ (fun c => ?_) (fun c => ?_)
              · have h := h.1 c
                refine w_iload dX2_worth_131 rfl ?_
                refine w_iconst dX2_worth_133 ?_
                refine w_iadd dX2_worth_134 ?_
                refine w_bipush dX2_worth_135 (by decide) ?_
                obtain ⟨o17, h⟩ := h
                refine w_icmp_ge dX2_worth_137 rfl ⟨o17, (by decide)⟩ (fun c => ?_) (fun c => ?_)
                · have h := h.1 c
                  refine w_aload_n dX2_worth_173 rfl ?_
                  refine w_getR dX2_worth_174 fX2_18 rfl rfl rfl ?_
                  refine w_iload dX2_worth_177 rfl ?_
                  obtain ⟨o18, h⟩ := h
                  refine w_lald (x := (M11 (15 + 3) ((x4 - r10).toNat))) dX2_worth_179 rfl o18 rfl (fun g19 => ?_)
                  have h := h g19
                  refine w_ldc2 dX2_worth_180 qX2_26 ?_
                  refine w_lcmp_ne dX2_worth_183 dX2_worth_184 rfl ⟨g19, (by decide)⟩ (fun c => ?_) (fun c => ?_)
                  · have h := h.1 c
                    refine w_iinc dX2_worth_191 rfl (by decide) ?_
                    refine w_iinc dX2_worth_194 rfl (by decide) ?_
                    refine w_goto dX2_worth_197 rfl ?_
                    exact k_pick [3, 4, 5, 1, 0] rfl h
                  · have h := h.2 c
                    refine w_ldc2 dX2_worth_187 qX2_26 ?_
                    exact k_lret dX2_worth_190 rfl h
                · have h := h.2 c
                  refine w_aload_n dX2_worth_140 rfl ?_
                  refine w_getR dX2_worth_141 fX2_18 rfl rfl rfl ?_
                  refine w_iload dX2_worth_144 rfl ?_
                  refine w_aload_n dX2_worth_146 rfl ?_
                  refine w_getR dX2_worth_147 fX2_9 rfl rfl rfl ?_
                  refine w_iload dX2_worth_150 rfl ?_
                  obtain ⟨o20, h⟩ := h
                  refine w_iald (x := (M11 (15 + 1) x5.toNat)) dX2_worth_152 rfl o20 rfl (fun g21 => ?_)
                  have h := h g21
                  refine w_aload_n dX2_worth_153 rfl ?_
                  refine w_getR dX2_worth_154 fX2_18 rfl rfl rfl ?_
                  refine w_iload dX2_worth_157 rfl ?_
                  obtain ⟨o22, h⟩ := h
                  refine w_lald (x := (M11 (15 + 3) ((x4 - r10).toNat))) dX2_worth_159 rfl o22 rfl (fun g23 => ?_)
                  have h := h g23
                  refine w_aload_n dX2_worth_160 rfl ?_
                  refine w_getR dX2_worth_161 fX2_18 rfl rfl rfl ?_
                  refine w_iload dX2_worth_164 rfl ?_
                  refine w_iconst dX2_worth_166 ?_
                  refine w_iadd dX2_worth_167 ?_
                  obtain ⟨o24, h⟩ := h
                  refine w_lald (x := (M11 (15 + 3) (((x4 - r10) + 1).toNat))) dX2_worth_168 rfl o24 rfl (fun g25 => ?_)
                  have h := h g25
                  refine k_sL (as := [pI (M11 (15 + 1) x5.toNat), pL (M11 (15 + 3) ((x4 - r10).toNat)), pL (M11 (15 + 3) (((x4 - r10) + 1).toNat))]) dX2_worth_169 kX2_38 ⟨⟨Nat.le_of_ble_eq_true rfl, rfl, rfl⟩, Nat.le_of_ble_eq_true rfl⟩ rfl (Nat.le_of_ble_eq_true rfl) h ?_
                  intro r26 M27 h
                  obtain ⟨o28, h⟩ := h
                  obtain ⟨o29, h⟩ := h
                  refine w_last dX2_worth_172 rfl o28 o29 ?_
                  refine w_aload_n dX2_worth_173 rfl ?_
                  refine w_getR dX2_worth_174 fX2_18 rfl rfl rfl ?_
                  refine w_iload dX2_worth_177 rfl ?_
                  obtain ⟨o30, h⟩ := h
                  refine w_lald (x := r26) dX2_worth_179 rfl o30 (by simp only [upM_self, va_up_self, upM_ne, va_up_neq, ne_eq]; try rfl) (fun g31 => ?_)
                  have h := h g31
                  refine w_ldc2 dX2_worth_180 qX2_26 ?_
                  refine w_lcmp_ne dX2_worth_183 dX2_worth_184 rfl ⟨g31, (by decide)⟩ (fun c => ?_) (fun c => ?_)
                  · have h := h.1 c
                    refine w_iinc dX2_worth_191 rfl (by decide) ?_
                    refine w_iinc dX2_worth_194 rfl (by decide) ?_
                    refine w_goto dX2_worth_197 rfl ?_
                    exact k_pick [3, 4, 5, 1, 0] rfl h
                  · have h := h.2 c
                    refine w_ldc2 dX2_worth_187 qX2_26 ?_
                    exact k_lret dX2_worth_190 rfl h
              · have h := h.2 c
                refine w_aload_n dX2_worth_104 rfl ?_
                refine w_getR dX2_worth_105 fX2_18 rfl rfl rfl ?_
                refine w_iload dX2_worth_108 rfl ?_
                refine w_aload_n dX2_worth_110 rfl ?_
                refine w_getR dX2_worth_111 fX2_18 rfl rfl rfl ?_
                refine w_iload dX2_worth_114 rfl ?_
                obtain ⟨o32, h⟩ := h
                refine w_lald (x := (M11 (15 + 3) ((x4 - r10).toNat))) dX2_worth_116 rfl o32 rfl (fun g33 => ?_)
                have h := h g33
                refine w_lconst (x := 0) dX2_worth_117 rfl ?_
                refine w_lcmp_ne dX2_worth_118 dX2_worth_119 rfl ⟨g33, (by decide)⟩ (fun c => ?_) (fun c => ?_)
                · have h := h.1 c
                  refine w_lconst (x := 0) dX2_worth_126 rfl ?_
                  obtain ⟨o34, h⟩ := h
                  refine w_last dX2_worth_127 rfl o34 (by decide) ?_
                  refine w_goto dX2_worth_128 rfl ?_
                  refine w_aload_n dX2_worth_173 rfl ?_
                  refine w_getR dX2_worth_174 fX2_18 rfl rfl rfl ?_
                  refine w_iload dX2_worth_177 rfl ?_
                  obtain ⟨o35, h⟩ := h
                  refine w_lald (x := 0) dX2_worth_179 rfl o35 (by simp only [upM_self, va_up_self, upM_ne, va_up_neq, ne_eq]; try rfl) (fun g36 => ?_)
                  have h := h g36
                  refine w_ldc2 dX2_worth_180 qX2_26 ?_
                  refine w_lcmp_ne dX2_worth_183 dX2_worth_184 rfl ⟨g36, (by decide)⟩ (fun c => ?_) (fun c => ?_)
                  · have h := h.1 c
                    refine w_iinc dX2_worth_191 rfl (by decide) ?_
                    refine w_iinc dX2_worth_194 rfl (by decide) ?_
                    refine w_goto dX2_worth_197 rfl ?_
                    exact k_pick [3, 4, 5, 1, 0] rfl h
                  · have h := h.2 c
                    refine w_ldc2 dX2_worth_187 qX2_26 ?_
                    exact k_lret dX2_worth_190 rfl h
                · have h := h.2 c
                  refine w_lconst (x := 1) dX2_worth_122 rfl ?_
                  refine w_goto dX2_worth_123 rfl ?_
                  obtain ⟨o37, h⟩ := h
                  refine w_last dX2_worth_127 rfl o37 (by decide) ?_
                  refine w_goto dX2_worth_128 rfl ?_
                  refine w_aload_n dX2_worth_173 rfl ?_
                  refine w_getR dX2_worth_174 fX2_18 rfl rfl rfl ?_
                  refine w_iload dX2_worth_177 rfl ?_
                  obtain ⟨o38, h⟩ := h
                  refine w_lald (x := 1) dX2_worth_179 rfl o38 (by simp only [upM_self, va_up_self, upM_ne, va_up_neq, ne_eq]; try rfl) (fun g39 => ?_)
                  have h := h g39
                  refine w_ldc2 dX2_worth_180 qX2_26 ?_
                  refine w_lcmp_ne dX2_worth_183 dX2_worth_184 rfl ⟨g39, (by decide)⟩ (fun c => ?_) (fun c => ?_)
                  · have h := h.1 c
                    refine w_iinc dX2_worth_191 rfl (by decide) ?_
                    refine w_iinc dX2_worth_194 rfl (by decide) ?_
                    refine w_goto dX2_worth_197 rfl ?_
                    exact k_pick [3, 4, 5, 1, 0] rfl h
                  · have h := h.2 c
                    refine w_ldc2 dX2_worth_187 qX2_26 ?_
                    exact k_lret dX2_worth_190 rfl h
            · have h := h.2 c
              refine w_aload_n dX2_worth_69 rfl ?_
              refine w_getR dX2_worth_70 fX2_18 rfl rfl rfl ?_
              refine w_iload dX2_worth_73 rfl ?_
              refine w_aload_n dX2_worth_75 rfl ?_
              refine w_aload_n dX2_worth_76 rfl ?_
              refine w_getR dX2_worth_77 fX2_9 rfl rfl rfl ?_
              refine w_iload dX2_worth_80 rfl ?_
              obtain ⟨o40, h⟩ := h
              refine w_iald (x := (M11 (15 + 1) x5.toNat)) dX2_worth_82 rfl o40 rfl (fun g41 => ?_)
              have h := h g41
              refine w_aload_n dX2_worth_83 rfl ?_
              refine w_getR dX2_worth_84 fX2_15 rfl rfl rfl ?_
              refine w_iload dX2_worth_87 rfl ?_
              obtain ⟨o42, h⟩ := h
              refine w_iald (x := (M11 (15 + 2) x5.toNat)) dX2_worth_89 rfl o42 rfl (fun g43 => ?_)
              have h := h g43
              refine k_vI (as := [pI (M11 (15 + 1) x5.toNat), pI (M11 (15 + 2) x5.toNat)]) dX2_worth_90 kX2_32 ⟨⟨Nat.le_of_ble_eq_true rfl, rfl, rfl⟩, Nat.le_of_ble_eq_true rfl⟩ rfl (by decide) rfl (Nat.le_of_ble_eq_true rfl) h ?_
              intro r44 M45 h
              obtain ⟨o46, h⟩ := h
              refine w_i2l dX2_worth_93 o46 ?_
              obtain ⟨o47, h⟩ := h
              refine w_last dX2_worth_94 rfl o47 (i2l_r o46) ?_
              refine w_goto dX2_worth_95 rfl ?_
              refine w_aload_n dX2_worth_173 rfl ?_
              refine w_getR dX2_worth_174 fX2_18 rfl rfl rfl ?_
              refine w_iload dX2_worth_177 rfl ?_
              obtain ⟨o48, h⟩ := h
              refine w_lald (x := r44) dX2_worth_179 rfl o48 (by simp only [upM_self, va_up_self, upM_ne, va_up_neq, ne_eq]; try rfl) (fun g49 => ?_)
              have h := h g49
              refine w_ldc2 dX2_worth_180 qX2_26 ?_
              refine w_lcmp_ne dX2_worth_183 dX2_worth_184 rfl ⟨g49, (by decide)⟩ (fun c => ?_) (fun c => ?_)
              · have h := h.1 c
                refine w_iinc dX2_worth_191 rfl (by decide) ?_
                refine w_iinc dX2_worth_194 rfl (by decide) ?_
                refine w_goto dX2_worth_197 rfl ?_
                exact k_pick [3, 4, 5, 1, 0] rfl h
              · have h := h.2 c
                refine w_ldc2 dX2_worth_187 qX2_26 ?_
                exact k_lret dX2_worth_190 rfl h
          · have h := h.2 c
            refine w_ldc2 dX2_worth_53 qX2_26 ?_
            exact k_lret dX2_worth_56 rfl h
  · refine w_iload dX2_worth_14 rfl ?_
    refine w_iload_n dX2_worth_16 rfl ?_
    obtain ⟨o1, h⟩ := h
    obtain ⟨o2, h⟩ := h
    refine w_icmp_ge dX2_worth_17 rfl ⟨o1, o2⟩ (fun c => ?_) (fun c => ?_)
    · have h := h.1 c
      refine w_iload dX2_worth_200 rfl ?_
      refine w_iconst dX2_worth_202 ?_
      obtain ⟨o3, h⟩ := h
      refine w_icmp_ne dX2_worth_203 rfl ⟨o3, (by decide)⟩ (fun c => ?_) (fun c => ?_)
      · have h := h.1 c
        refine w_ldc2 dX2_worth_215 qX2_26 ?_
        exact k_lret dX2_worth_218 rfl h
      · have h := h.2 c
        refine w_aload_n dX2_worth_206 rfl ?_
        refine w_getR dX2_worth_207 fX2_18 rfl rfl rfl ?_
        refine w_iconst dX2_worth_210 ?_
        refine w_lald (x := (M (31 + 3) 0)) dX2_worth_211 rfl (by decide) rfl (fun g4 => ?_)
        have h := h g4
        refine w_goto dX2_worth_212 rfl ?_
        exact k_lret dX2_worth_218 rfl h
    · have h := h.2 c
      refine w_iload dX2_worth_20 rfl ?_
      refine w_bipush dX2_worth_22 (by decide) ?_
      obtain ⟨o5, h⟩ := h
      refine w_icmp_ge dX2_worth_24 rfl ⟨o5, (by decide)⟩ (fun c => ?_) (fun c => ?_)
      · have h := h.1 c
        refine w_iload dX2_worth_200 rfl ?_
        refine w_iconst dX2_worth_202 ?_
        obtain ⟨o6, h⟩ := h
        refine w_icmp_ne dX2_worth_203 rfl ⟨o6, (by decide)⟩ (fun c => ?_) (fun c => ?_)
        · have h := h.1 c
          refine w_ldc2 dX2_worth_215 qX2_26 ?_
          exact k_lret dX2_worth_218 rfl h
        · have h := h.2 c
          refine w_aload_n dX2_worth_206 rfl ?_
          refine w_getR dX2_worth_207 fX2_18 rfl rfl rfl ?_
          refine w_iconst dX2_worth_210 ?_
          refine w_lald (x := (M (31 + 3) 0)) dX2_worth_211 rfl (by decide) rfl (fun g7 => ?_)
          have h := h g7
          refine w_goto dX2_worth_212 rfl ?_
          exact k_lret dX2_worth_218 rfl h
      · have h := h.2 c
        refine w_aload_n dX2_worth_27 rfl ?_
        refine w_getR dX2_worth_28 fX2_9 rfl rfl rfl ?_
        refine w_iload dX2_worth_31 rfl ?_
        obtain ⟨o8, h⟩ := h
        refine w_iald (x := (M (31 + 1) x5.toNat)) dX2_worth_33 rfl o8 rfl (fun g9 => ?_)
        have h := h g9
        refine k_sI (as := [pI (M (31 + 1) x5.toNat)]) dX2_worth_34 kX2_28 ⟨⟨Nat.le_of_ble_eq_true rfl, rfl, rfl⟩, Nat.le_of_ble_eq_true rfl⟩ rfl (Nat.le_of_ble_eq_true rfl) h ?_
        intro r10 M11 h
        refine w_istore dX2_worth_37 (by decide) ?_
        refine w_iload dX2_worth_39 rfl ?_
        refine w_iload dX2_worth_41 rfl ?_
        obtain ⟨o12, h⟩ := h
        obtain ⟨o13, h⟩ := h
        refine w_icmp_lt dX2_worth_43 rfl ⟨o12, o13⟩ (fun c => ?_) (fun c => ?_)
        · have h := h.1 c
          refine w_ldc2 dX2_worth_53 qX2_26 ?_
          exact k_lret dX2_worth_56 rfl h
        · have h := h.2 c
          refine w_iload dX2_worth_46 rfl ?_
          refine w_bipush dX2_worth_48 (by decide) ?_
          obtain ⟨o14, h⟩ := h
          refine w_icmp_lt dX2_worth_50 rfl ⟨o14, (by decide)⟩ (fun c => ?_) (fun c => ?_)
          · have h := h.1 c
            refine w_iload dX2_worth_57 rfl ?_
            refine w_iload dX2_worth_59 rfl ?_
            refine w_isub dX2_worth_61 ?_
            refine w_istore dX2_worth_62 (by decide) ?_
            refine w_iload dX2_worth_64 rfl ?_
            obtain ⟨o15, h⟩ := h
            refine w_if_ne dX2_worth_66 rfl o15 (fun c => ?_) (fun c => ?_)
            · have h := h.1 c
              refine w_iload dX2_worth_98 rfl ?_
              refine w_iconst dX2_worth_100 ?_
              obtain ⟨o16, h⟩ := h
              refine w_icmp_ne dX2_worth_101 rfl ⟨o16, (by decide)⟩ (fun c => ?_) (fun c => ?_)
              · have h := h.1 c
                refine w_iload dX2_worth_131 rfl ?_
                refine w_iconst dX2_worth_133 ?_
                refine w_iadd dX2_worth_134 ?_
                refine w_bipush dX2_worth_135 (by decide) ?_
                obtain ⟨o17, h⟩ := h
                refine w_icmp_ge dX2_worth_137 rfl ⟨o17, (by decide)⟩ (fun c => ?_) (fun c => ?_)
                · have h := h.1 c
                  refine w_aload_n dX2_worth_173 rfl ?_
                  refine w_getR dX2_worth_174 fX2_18 rfl rfl rfl ?_
                  refine w_iload dX2_worth_177 rfl ?_
                  obtain ⟨o18, h⟩ := h
                  refine w_lald (x := (M11 (31 + 3) ((x4 - r10).toNat))) dX2_worth_179 rfl o18 rfl (fun g19 => ?_)
                  have h := h g19
                  refine w_ldc2 dX2_worth_180 qX2_26 ?_
                  refine w_lcmp_ne dX2_worth_183 dX2_worth_184 rfl ⟨g19, (by decide)⟩ (fun c => ?_) (fun c => ?_)
                  · have h := h.1 c
                    refine w_iinc dX2_worth_191 rfl (by decide) ?_
                    refine w_iinc dX2_worth_194 rfl (by decide) ?_
                    refine w_goto dX2_worth_197 rfl ?_
                    exact k_pick [3, 4, 5, 1, 0] rfl h
                  · have h := h.2 c
                    refine w_ldc2 dX2_worth_187 qX2_26 ?_
                    exact k_lret dX2_worth_190 rfl h
                · have h := h.2 c
                  refine w_aload_n dX2_worth_140 rfl ?_
                  refine w_getR dX2_worth_141 fX2_18 rfl rfl rfl ?_
                  refine w_iload dX2_worth_144 rfl ?_
                  refine w_aload_n dX2_worth_146 rfl ?_
                  refine w_getR dX2_worth_147 fX2_9 rfl rfl rfl ?_
                  refine w_iload dX2_worth_150 rfl ?_
                  obtain ⟨o20, h⟩ := h
                  refine w_iald (x := (M11 (31 + 1) x5.toNat)) dX2_worth_152 rfl o20 rfl (fun g21 => ?_)
                  have h := h g21
                  refine w_aload_n dX2_worth_153 rfl ?_
                  refine w_getR dX2_worth_154 fX2_18 rfl rfl rfl ?_
                  refine w_iload dX2_worth_157 rfl ?_
                  obtain ⟨o22, h⟩ := h
                  refine w_lald (x := (M11 (31 + 3) ((x4 - r10).toNat))) dX2_worth_159 rfl o22 rfl (fun g23 => ?_)
                  have h := h g23
                  refine w_aload_n dX2_worth_160 rfl ?_
                  refine w_getR dX2_worth_161 fX2_18 rfl rfl rfl ?_
                  refine w_iload dX2_worth_164 rfl ?_
                  refine w_iconst dX2_worth_166 ?_
                  refine w_iadd dX2_worth_167 ?_
                  obtain ⟨o24, h⟩ := h
                  refine w_lald (x := (M11 (31 + 3) (((x4 - r10) + 1).toNat))) dX2_worth_168 rfl o24 rfl (fun g25 => ?_)
                  have h := h g25
                  refine k_sL (as := [pI (M11 (31 + 1) x5.toNat), pL (M11 (31 + 3) ((x4 - r10).toNat)), pL (M11 (31 + 3) (((x4 - r10) + 1).toNat))]) dX2_worth_169 kX2_38 ⟨⟨Nat.le_of_ble_eq_true rfl, rfl, rfl⟩, Nat.le_of_ble_eq_true rfl⟩ rfl (Nat.le_of_ble_eq_true rfl) h ?_
                  intro r26 M27 h
                  obtain ⟨o28, h⟩ := h
                  obtain ⟨o29, h⟩ := h
                  refine w_last dX2_worth_172 rfl o28 o29 ?_
                  refine w_aload_n dX2_worth_173 rfl ?_
                  refine w_getR dX2_worth_174 fX2_18 rfl rfl rfl ?_
                  refine w_iload dX2_worth_177 rfl ?_
                  obtain ⟨o30, h⟩ := h
                  refine w_lald (x := r26) dX2_worth_179 rfl o30 (by simp only [upM_self, va_up_self, upM_ne, va_up_neq, ne_eq]; try rfl) (fun g31 => ?_)
                  have h := h g31
                  refine w_ldc2 dX2_worth_180 qX2_26 ?_
                  refine w_lcmp_ne dX2_worth_183 dX2_worth_184 rfl ⟨g31, (by decide)⟩ (fun c => ?_) (fun c => ?_)
                  · have h := h.1 c
                    refine w_iinc dX2_worth_191 rfl (by decide) ?_
                    refine w_iinc dX2_worth_194 rfl (by decide) ?_
                    refine w_goto dX2_worth_197 rfl ?_
                    exact k_pick [3, 4, 5, 1, 0] rfl h
                  · have h := h.2 c
                    refine w_ldc2 dX2_worth_187 qX2_26 ?_
                    exact k_lret dX2_worth_190 rfl h
              · have h := h.2 c
                refine w_aload_n dX2_worth_104 rfl ?_
                refine w_getR dX2_worth_105 fX2_18 rfl rfl rfl ?_
                refine w_iload dX2_worth_108 rfl ?_
                refine w_aload_n dX2_worth_110 rfl ?_
                refine w_getR dX2_worth_111 fX2_18 rfl rfl rfl ?_
                refine w_iload dX2_worth_114 rfl ?_
                obtain ⟨o32, h⟩ := h
                refine w_lald (x := (M11 (31 + 3) ((x4 - r10).toNat))) dX2_worth_116 rfl o32 rfl (fun g33 => ?_)
                have h := h g33
                refine w_lconst (x := 0) dX2_worth_117 rfl ?_
                refine w_lcmp_ne dX2_worth_118 dX2_worth_119 rfl ⟨g33, (by decide)⟩ (fun c => ?_) (fun c => ?_)
                · have h := h.1 c
                  refine w_lconst (x := 0) dX2_worth_126 rfl ?_
                  obtain ⟨o34, h⟩ := h
                  refine w_last dX2_worth_127 rfl o34 (by decide) ?_
                  refine w_goto dX2_worth_128 rfl ?_
                  refine w_aload_n dX2_worth_173 rfl ?_
                  refine w_getR dX2_worth_174 fX2_18 rfl rfl rfl ?_
                  refine w_iload dX2_worth_177 rfl ?_
                  obtain ⟨o35, h⟩ := h
                  refine w_lald (x := 0) dX2_worth_179 rfl o35 (by simp only [upM_self, va_up_self, upM_ne, va_up_neq, ne_eq]; try rfl) (fun g36 => ?_)
                  have h := h g36
                  refine w_ldc2 dX2_worth_180 qX2_26 ?_
                  refine w_lcmp_ne dX2_worth_183 dX2_worth_184 rfl ⟨g36, (by decide)⟩ (fun c => ?_) (fun c => ?_)
                  · have h := h.1 c
                    refine w_iinc dX2_worth_191 rfl (by decide) ?_
                    refine w_iinc dX2_worth_194 rfl (by decide) ?_
                    refine w_goto dX2_worth_197 rfl ?_
                    exact k_pick [3, 4, 5, 1, 0] rfl h
                  · have h := h.2 c
                    refine w_ldc2 dX2_worth_187 qX2_26 ?_
                    exact k_lret dX2_worth_190 rfl h
                · have h := h.2 c
                  refine w_lconst (x := 1) dX2_worth_122 rfl ?_
                  refine w_goto dX2_worth_123 rfl ?_
                  obtain ⟨o37, h⟩ := h
                  refine w_last dX2_worth_127 rfl o37 (by decide) ?_
                  refine w_goto dX2_worth_128 rfl ?_
                  refine w_aload_n dX2_worth_173 rfl ?_
                  refine w_getR dX2_worth_174 fX2_18 rfl rfl rfl ?_
                  refine w_iload dX2_worth_177 rfl ?_
                  obtain ⟨o38, h⟩ := h
                  refine w_lald (x := 1) dX2_worth_179 rfl o38 (by simp only [upM_self, va_up_self, upM_ne, va_up_neq, ne_eq]; try rfl) (fun g39 => ?_)
                  have h := h g39
                  refine w_ldc2 dX2_worth_180 qX2_26 ?_
                  refine w_lcmp_ne dX2_worth_183 dX2_worth_184 rfl ⟨g39, (by decide)⟩ (fun c => ?_) (fun c => ?_)
                  · have h := h.1 c
                    refine w_iinc dX2_worth_191 rfl (by decide) ?_
                    refine w_iinc dX2_worth_194 rfl (by decide) ?_
                    refine w_goto dX2_worth_197 rfl ?_
                    exact k_pick [3, 4, 5, 1, 0] rfl h
                  · have h := h.2 c
                    refine w_ldc2 dX2_worth_187 qX2_26 ?_
                    exact k_lret dX2_worth_190 rfl h
            · have h := h.2 c
              refine w_aload_n dX2_worth_69 rfl ?_
              refine w_getR dX2_worth_70 fX2_18 rfl rfl rfl ?_
              refine w_iload dX2_worth_73 rfl ?_
              refine w_aload_n dX2_worth_75 rfl ?_
              refine w_aload_n dX2_worth_76 rfl ?_
              refine w_getR dX2_worth_77 fX2_9 rfl rfl rfl ?_
              refine w_iload dX2_worth_80 rfl ?_
              obtain ⟨o40, h⟩ := h
              refine w_iald (x := (M11 (31 + 1) x5.toNat)) dX2_worth_82 rfl o40 rfl (fun g41 => ?_)
              have h := h g41
              refine w_aload_n dX2_worth_83 rfl ?_
              refine w_getR dX2_worth_84 fX2_15 rfl rfl rfl ?_
              refine w_iload dX2_worth_87 rfl ?_
              obtain ⟨o42, h⟩ := h
              refine w_iald (x := (M11 (31 + 2) x5.toNat)) dX2_worth_89 rfl o42 rfl (fun g43 => ?_)
              have h := h g43
              refine k_vI (as := [pI (M11 (31 + 1) x5.toNat), pI (M11 (31 + 2) x5.toNat)]) dX2_worth_90 kX2_32 ⟨⟨Nat.le_of_ble_eq_true rfl, rfl, rfl⟩, Nat.le_of_ble_eq_true rfl⟩ rfl (by decide) rfl (Nat.le_of_ble_eq_true rfl) h ?_
              intro r44 M45 h
              obtain ⟨o46, h⟩ := h
              refine w_i2l dX2_worth_93 o46 ?_
              obtain ⟨o47, h⟩ := h
              refine w_last dX2_worth_94 rfl o47 (i2l_r o46) ?_
              refine w_goto dX2_worth_95 rfl ?_
              refine w_aload_n dX2_worth_173 rfl ?_
              refine w_getR dX2_worth_174 fX2_18 rfl rfl rfl ?_
              refine w_iload dX2_worth_177 rfl ?_
              obtain ⟨o48, h⟩ := h
              refine w_lald (x := r44) dX2_worth_179 rfl o48 (by simp only [upM_self, va_up_self, upM_ne, va_up_neq, ne_eq]; try rfl) (fun g49 => ?_)
              have h := h g49
              refine w_ldc2 dX2_worth_180 qX2_26 ?_
              refine w_lcmp_ne dX2_worth_183 dX2_worth_184 rfl ⟨g49, (by decide)⟩ (fun c => ?_) (fun c => ?_)
              · have h := h.1 c
                refine w_iinc dX2_worth_191 rfl (by decide) ?_
                refine w_iinc dX2_worth_194 rfl (by decide) ?_
                refine w_goto dX2_worth_197 rfl ?_
                exact k_pick [3, 4, 5, 1, 0] rfl h
              · have h := h.2 c
                refine w_ldc2 dX2_worth_187 qX2_26 ?_
                exact k_lret dX2_worth_190 rfl h
          · have h := h.2 c
            refine w_ldc2 dX2_worth_53 qX2_26 ?_
            exact k_lret dX2_worth_56 rfl h
