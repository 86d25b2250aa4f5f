theorem LnM.of {lt : Nat → Nat} {M M' : Mem} (h : LnM lt M) (h1 : M' 106 = M 106) : LnM lt M' := by
  unfold LnM
  rw [h1]
  exact h
section LEANM2
variable {E : Scr} {bs : BF} {L : Nat} {n : Nat} {nm : Nat → Int} {ln lo base own : Nat} {root : Nat → Nat}
theorem c_findM {f : Int → Mem → Prop} {M : Mem} {v : Int} {m fr : Nat} (hv : iR v) (hm : m ≤ 8) (hfr : fr ≤ 8) (h : ∀ l, l < m → M 103 (fr + l) = nm l) (H : f (findN nm v m 0) M) : CI E mX11_find [pR 103, pI (fr : Int), pI (m : Int), pI v] M f := by
  have loop : ∀ (j k : Nat), k + j = m → f (findN nm v j k) M → KW E mX11_find (qI f) M 3 [(0, pR 103), (1, pI (fr : Int)), (2, pI (m : Int)), (3, pI v), (4, pI (k : Int))] [] := by
    intro j
    induction j with
    | zero =>
      intro k hk hf
      exact vX11_find_3 _ _ _ _ ⟨⟨by omega, by omega⟩, ⟨by omega, by omega⟩, fun _ => hf, fun z => absurd z (by omega)⟩
    | succ j ih =>
      intro k hk hf
      simp only [findN] at hf
      apply vX11_find_3
      rw [show ((fr : Int) + (k : Int)).toNat = fr + k by omega, h k (by omega)]
      refine ⟨⟨by omega, by omega⟩, ⟨by omega, by omega⟩, fun z => absurd z (by omega), fun _ => ⟨⟨by omega, by omega⟩, fun _ => ⟨hv, fun c => ?_, fun c => ?_⟩⟩⟩
      · rw [if_neg c] at hf; exact ih (k + 1) (by omega) hf
      · rw [if_pos c] at hf; exact hf
  exact vX11_find_0 _ _ _ (loop m 0 (Nat.zero_add _) H)
theorem c_number {f : Int → Mem → Prop} {M : Mem} {t : Tk} {most : Int} (hm : 0 ≤ most ∧ most ≤ 99999) (hI : TkI L t) (hT : TPm bs L M) (hk : TM t M) (H1 : tK t = 37 → tV t ≤ most → ∀ M', FrHL M M' → (∀ c, c ≠ 98 → M' c = M c) → (∀ q, ¬ (7 ≤ q ∧ q ≤ 11) → M' 98 q = M 98 q) → M' 98 11 = tV t → TM (tok bs L (tN t)) M' → f 1 M') (H0 : ∀ w : Int, (tK t ≠ 37 ∧ w = 1 ∨ tK t = 37 ∧ most < tV t ∧ w = 2) → ∀ M', FrH M M' → M' 98 4 = w → M' 98 5 = (tS t : Int) → f 0 M') : CI E mX11_number [pR 98, pI 0, pI most] M f := by
  obtain ⟨k1, k2, k3⟩ := id hk
  have kof := (RK.of k1).2.2.2.2.2.2.2.2.1
  apply vX11_number_0
  refine fun _ => ⟨fun c => fun hw => ?_, fun c => c_wrong (by decide) k2 (fun M' a1 a2 a3 => ⟨Or.inl rfl, H0 1 (Or.inl ⟨fun z => c (kof.mp z), rfl⟩) M' a1 a2 a3⟩)⟩
  have hnu := RK.nu k1 c
  have h37 := kof.mpr c
  refine c_isIn hw ⟨by decide, by decide⟩ ⟨by omega, by omega⟩ (fun d => ⟨⟨by decide, by decide⟩, fun _ => ?_, fun z => absurd z (by decide)⟩) (fun d => ⟨⟨by decide, by decide⟩, fun z => absurd rfl z, fun _ => c_wrong (by decide) k2 (fun M' a1 a2 a3 => ⟨Or.inl rfl, H0 2 (Or.inr ⟨h37, by omega, rfl⟩) M' a1 a2 a3⟩)⟩)
  refine fun _ => c_token (bs := bs) (L := L) ((FrH.u98 _ (by omega)).tp hT) hI.2.2.1 k3 (fun M1 b1 b2 => ?_)
  have e11 : M1 98 11 = M 98 9 := by rw [b1.2 11 (by decide)]; rfl
  refine H1 h37 (by omega) M1 ((FrHL.u98 _ (by omega)).tr b1.toHL) (fun c2 c1 => by rw [b1.1 c2 c1, upM_ne _ _ _ c1]) (fun q hq => by rw [b1.2 q (by omega), upM_self, va_up_neq _ _ (by omega)]) (by rw [e11]; omega) b2
theorem c_latchThere {f : Int → Mem → Prop} {M : Mem} {t : Tk} (hI : TkI L t) (hT : TPm bs L M) (hN : NmM n nm ln root M) (hk : TM t M) (H1 : tK t = 38 → ∀ o : Nat, o < n → findN nm (tV t) n 0 = (o : Int) → ∀ M', FrHL M M' → (∀ c, c ≠ 98 → M' c = M c) → (∀ q, ¬ (7 ≤ q ∧ q ≤ 11) → M' 98 q = M 98 q) → M' 98 11 = (o : Int) → TM (tok bs L (tN t)) M' → f 1 M') (H0 : ∀ w : Int, (tK t ≠ 38 ∧ w = 1 ∨ tK t = 38 ∧ findN nm (tV t) n 0 = -1 ∧ w = 4) → ∀ M', FrH M M' → M' 98 4 = w → M' 98 5 = (tS t : Int) → f 0 M') : CI E mX11_latchThere [pR 98] M f := by
  obtain ⟨k1, k2, k3⟩ := id hk
  have kof := (RK.of k1).2.2.2.2.2.2.2.1
  have hvr := hI.2.2.2.2.2
  apply vX11_latchThere_0
  refine fun _ => ⟨fun c => ?_, fun c => c_wrong (by decide) k2 (fun M' a1 a2 a3 => ⟨Or.inl rfl, H0 1 (Or.inl ⟨fun z => c (kof.mp z), rfl⟩) M' a1 a2 a3⟩)⟩
  have h38 := kof.mpr c
  have hw := RK.nmv k1 c
  rw [hN.1, hw]
  refine fun _ _ => c_findM (fr := 8) ⟨by omega, by omega⟩ hN.2.1 (by decide) hN.2.2.1 ?_
  rcases findN_c (nm := nm) (v := tV t) n 0 with z | ⟨o, o1, o2, o3⟩
  · rw [z]
    exact ⟨⟨by decide, by decide⟩, fun q => absurd q (by decide), fun _ => c_wrong (by decide) k2 (fun M' a1 a2 a3 => ⟨Or.inl rfl, H0 4 (Or.inr ⟨h38, z, rfl⟩) M' a1 a2 a3⟩)⟩
  · have hn8 := hN.2.1
    rw [o3]
    refine ⟨⟨by omega, by omega⟩, fun _ => c_token (bs := bs) (L := L) hT hI.2.2.1 k3 (fun M1 b1 b2 => ⟨⟨by omega, by omega⟩, H1 h38 o (by omega) o3 _ (b1.toHL.tr (FrHL.u98 _ (by omega))) (fun c2 c1 => by rw [upM_ne _ _ _ c1, b1.1 c2 c1]) (fun q hq => by rw [upM_self, va_up_neq _ _ (by omega), b1.2 q (by omega)]) rfl (b2.of (fun q q1 q2 => by rw [upM_self, va_up_neq _ _ (by omega)]))⟩), fun q => absurd q (by omega)⟩
theorem c_leanStep {f : Int → Mem → Prop} {M : Mem} {s : FS} (hown : own < n) (hI : FI L (own : Int) n ln base s) (hlo : lo ≤ base) (hroot : ∀ l, l < n → ln.testBit l = true → root l < lo) (hT : TPm bs L M) (hN : NmM n nm ln root M) (hR : RLn root lo s M)
    (HE : ∀ w pl, stepF bs L (own : Int) n nm ln s = Sum.inl (w, pl) → ∀ M', FrH M M' → M' 98 4 = w → M' 98 5 = (pl : Int) → f 0 M')
    (HN : stepF bs L (own : Int) n nm ln s = Sum.inl (1, tS (fT s)) → tK (fT s) ≠ 24 → ∀ M', FrHL M M' → TM (fT s) M' → f 1 M')
    (HD : ∀ s', stepF bs L (own : Int) n nm ln s = Sum.inr (false, s') → ∀ M', FrHL M M' → RLn root lo s' M' → f 1 M')
    (HC : ∀ s', stepF bs L (own : Int) n nm ln s = Sum.inr (true, s') → ∀ (M' : Mem), FrHL M M' → RLn root lo s' M' → KW E mX11_leaningRead (qI f) M' 17 [(0, pR 98), (1, pI (own : Int)), (2, pI (bI (fW s')))] []) :
    KW E mX11_leaningRead (qI f) M 17 [(0, pR 98), (1, pI (own : Int)), (2, pI (bI (fW s)))] [] := by
  have hL := hT.2.1
  have hn := hN.2.1
  obtain ⟨t, pd, op, cnt, u, lt, wt⟩ := s
  obtain ⟨h1, h2, h3, h4, h5, h6, h7, h8, h9⟩ := hI
  replace h1 : TkI L t := h1
  replace h2 : ∀ k, k ∈ pd → okPd ((own : Int) < 0) k := h2
  replace h3 : prC pd = op := h3
  replace h4 : op ≤ 8 := h4
  replace h5 : base + u.length + npL pd = cnt := h5
  replace h6 : cnt ≤ 64 := h6
  replace h7 : dpF 0 u = some (bnL pd + if wt = true then 0 else 1) := h7
  replace h8 : ∀ e, e ∈ u → okEl ((own : Int) < 0) (own : Int) n ln e := h8
  replace h9 : ∀ l, lt l < 2 ^ 8 := h9
  have okF : ∀ k, okPd ((own : Int) < 0) k → okPd False k := fun k hk => by
    rcases hk with z | z | z | z | z
    · exact Or.inl z
    · exact Or.inr (Or.inl z)
    · exact Or.inr (Or.inr (Or.inl z))
    · exact Or.inr (Or.inr (Or.inr (Or.inl z)))
    · exact absurd z.1 (by omega)
  have h2F : ∀ k, k ∈ pd → okPd False k := fun k hk => okF k (h2 k hk)
  obtain ⟨g1, g2, g3, g4, g5, g6, g7, g8⟩ := hR
  replace g1 : TM t M := g1
  replace g2 : WtM False pd M := g2
  replace g3 : M 98 44 = (op : Int) := g3
  replace g4 : M 98 45 = (cnt : Int) := g4
  replace g5 : M 98 33 = ((lo + u.length : Nat) : Int) := g5
  replace g6 : HdM (hst lo [] u) M := g6
  replace g7 : ND (ndL root (upH M 110) (upH M 111) (upH M 112)) lo [] u := g7
  replace g8 : LnM lt M := g8
  have hnx := tok_I (bs := bs) h1.2.2.1
  have hlen := pd_len pd
  obtain ⟨k1, k2, k3⟩ := id g1
  have kof := RK.of k1
  have hkr := h1.2.2.2.1
  have hHl := hst_le u lo []
  simp only [List.length_nil, Nat.zero_add] at hHl
  have co : ¬ (own : Int) < 0 := by omega
  -- a token on
  have adv : ∀ (s' : FS) (M1 : Mem), stepF bs L (own : Int) n nm ln (t, pd, op, cnt, u, lt, wt) = Sum.inr (true, s') → fT s' = tok bs L (tN t) → FrHL M M1 → M1 98 7 = (tN t : Int) → WtM False (fP s') M1 → M1 98 44 = (fO s' : Int) → M1 98 45 = (fC s' : Int) → M1 98 33 = ((lo + (fU s').length : Nat) : Int) → HdM (hst lo [] (fU s')) M1 → ND (ndL root (upH M1 110) (upH M1 111) (upH M1 112)) lo [] (fU s') → LnM (fL s') M1 → CV E mX11_token [pR 98] M1 (fun M2 => KW E mX11_leaningRead (qI f) M2 17 [(0, pR 98), (1, pI (own : Int)), (2, pI (bI (fW s')))] []) := by
    intro s' M1 es e2 a1 a2 a3 a4 a5 a6 a7 a8 a9
    refine c_token (a1.1.tp hT) h1.2.2.1 a2 (fun M2 b1 b2 => ?_)
    have cc : ∀ c, c ≠ 98 → M2 c = M1 c := b1.1
    refine HC s' es M2 (a1.tr b1.toHL) ⟨by rw [e2]; exact b2, a3.of (b1.2 42 (by decide)) (cc 119 (by decide)), by rw [b1.2 44 (by decide)]; exact a4, by rw [b1.2 45 (by decide)]; exact a5, by rw [b1.2 33 (by decide)]; exact a6, a7.of (b1.2 43 (by decide)) (cc 120 (by decide)), ?_, a9.of (cc 106 (by decide))⟩
    unfold upH at a8 ⊢
    rw [cc 110 (by decide), cc 111 (by decide), cc 112 (by decide)]
    exact a8
  have bad : ∀ (w : Int), (w = 1 ∨ w = 2) → stepF bs L (own : Int) n nm ln (t, pd, op, cnt, u, lt, wt) = Sum.inl (w, tS t) → CI E mX11_wrong [pR 98, pI w] M (fun r12 M13 => (zR r12) ∧ f r12 M13) := fun w hw es => c_wrong (by omega) k2 (fun M' a1 a2 a3 => ⟨Or.inl rfl, HE w (tS t) es M' a1 a2 a3⟩)
  cases wt with
  | true =>
    show KW E mX11_leaningRead (qI f) M 17 [(0, pR 98), (1, pI (own : Int)), (2, pI 1)] []
    have hd0 : dpF 0 u = some (bnL pd) := h7
    -- leaves
    have p102 : tK t ≠ 12 → tK t ≠ 25 → KW E mX11_leaningRead (qI f) M 102 [(0, pR 98), (1, pI (own : Int)), (2, pI 1)] [] := by
      intro c12 c25
      have base0 : stepF bs L (own : Int) n nm ln (t, pd, op, cnt, u, lt, true) = (if 13 ≤ tK t ∧ tK t ≤ 16 then (if 64 ≤ cnt then Sum.inl (2, tS t) else askF bs L (own : Int) n nm ln (t, pd, op, cnt, u, lt, true) (tok bs L (tN t))) else Sum.inl (1, tS t)) := by
        unfold stepF
        rw [if_pos rfl]
        show (if tK t = 25 then _ else if tK t = 12 then _ else _) = _
        rw [if_neg c25, if_neg c12, if_neg co]
      refine vX11_leaningRead_102 _ _ ⟨⟨by decide, by decide⟩, fun z => absurd z (by decide), fun _ _ => ⟨fun d => ?_, fun d => fun _ => ⟨fun d2 => ?_, fun d2 => fun _ => ⟨fun d3 => ?_, fun d3 => ?_⟩⟩⟩⟩
      · rw [if_neg (fun z => d (kof.2.2.2.2.2.2.2.2.2.1.mp (by omega)))] at base0
        exact bad 1 (Or.inl rfl) base0
      · have hky := RK.ky k1 d
        rw [if_neg (by omega)] at base0
        exact bad 1 (Or.inl rfl) base0
      · have hky := RK.ky k1 d
        have hkk : tK t = M 98 9 + 3 := hky.2.2.2.2.1 d2 d3
        rw [if_pos (by omega)] at base0
        generalize hwh : M 98 9 = wh at hkk d2 d3
        -- simpleRead
        apply vX11_simpleRead_0
        rw [hwh]
        refine fun _ => c_isCounted g4 h6 k2 (fun cc => ⟨⟨by decide, by decide⟩, fun _ => ?_, fun z => absurd z (by decide)⟩) (fun cc M' a1 a2 a3 => ⟨⟨by decide, by decide⟩, fun z => absurd rfl z, fun _ => ⟨⟨by decide, by decide⟩, fun z => absurd rfl z, fun _ => ?_⟩⟩)
        · rw [if_neg (by omega)] at base0
          generalize hM1 : upM M 98 45 ((cnt : Int) + 1) = M1
          have hG1 : FrHL M M1 := by rw [← hM1]; exact FrHL.u98 _ (by omega)
          have q1 : ∀ q, q ≠ 45 → M1 98 q = M 98 q := fun q hq => by rw [← hM1, upM_self, va_up_neq _ _ hq]
          have c1 : ∀ c, c ≠ 98 → M1 c = M c := fun c hc => by rw [← hM1, upM_ne _ _ _ hc]
          refine c_token (hG1.1.tp hT) h1.2.2.1 (by rw [q1 7 (by decide)]; exact k3) (fun M2 b1 b2 => ?_)
          have hG2 : FrHL M M2 := hG1.tr b1.toHL
          have hT2 := hG2.1.tp hT
          have hN2 := hG2.1.nm hN
          generalize ht2 : tok bs L (tN t) = t2 at b2 hnx base0
          have hn2 := tok_I (bs := bs) hnx.1.2.2.1
          have q2 : ∀ q, ¬ (7 ≤ q ∧ q ≤ 11) → q ≠ 45 → M2 98 q = M 98 q := fun q hq h45 => by rw [b1.2 q (by omega), q1 q h45]
          have c2 : ∀ c, c ≠ 98 → M2 c = M c := fun c hc => by rw [b1.1 c hc, c1 c hc]
          have e45 : M2 98 45 = ((cnt + 1 : Nat) : Int) := by rw [b1.2 45 (by decide), ← hM1, upM_self, va_up_self]; omega
          -- the end of a leaf
          have fin : ∀ (kk vv x a : Int) (lt' : Nat → Nat) (M4 : Mem), askF bs L (own : Int) n nm ln (t, pd, op, cnt, u, lt, true) t2 = Sum.inr (true, (tok bs L (tN t2), pd, op, cnt + 1, u ++ [(kk, vv)], lt', false)) → FrHL M M4 → (∀ c, c ≠ 98 → c ≠ 106 → M4 c = M c) → (∀ q, ¬ (7 ≤ q ∧ q ≤ 11) → M4 98 q = M2 98 q) → LnM lt' M4 → TM (tok bs L (tN t2)) M4 → iR x → iR a → rk kk = 0 → kk ≠ 12 → (ndL root (va_up (upH M 110) (lo + u.length) x) (va_up (upH M 111) (lo + u.length) a) (va_up (upH M 112) (lo + u.length) (-1)) (lo + u.length) kk vv (hst lo [] u)) → CV E mX11_leans [pR 98, pI x, pI a, pI (-1)] M4 (fun M28 => (iR 1) ∧ (((1 : Int) ≠ 0 → (KW E mX11_leaningRead (qI f) M28 17 [(0, pR 98), (1, pI (own : Int)), (2, pI 0)] [])) ∧ ((1 : Int) = 0 → f 0 M28))) := by
            intro kk vv x a lt' M4 ea a1 a2 a3 a4 a5 a6 a7 a8 a9 a10
            rw [ea] at base0
            refine c_leans a6 a7 ⟨by decide, by decide⟩ (by rw [a3 33 (by decide), q2 33 (by decide) (by decide)]; exact g5) (by omega) (g6.of (by rw [a3 43 (by decide), q2 43 (by decide) (by decide)]) (a2 120 (by decide) (by decide))) (by omega) (fun M5 m1 m2 m3 m4 m5 m6 m7 m8 => ⟨⟨by decide, by decide⟩, fun _ => ?_, fun z => absurd z (by decide)⟩)
            refine HC _ base0 M5 (a1.tr ⟨m1, m3 4 (by decide) (by decide), m3 5 (by decide) (by decide), m3 19 (by decide) (by decide)⟩) ⟨a5.of (fun q z1 z2 => m3 q (by omega) (by omega)), ?_, ?_, ?_, ?_, ?_, ?_, ?_⟩
            · exact (g2.of (by rw [a3 42 (by decide), q2 42 (by decide) (by decide)]) (a2 119 (by decide) (by decide))).of (m3 42 (by decide) (by decide)) (m2 119 (by decide) (by decide) (by decide))
            · rw [m3 44 (by decide) (by decide), a3 44 (by decide), q2 44 (by decide) (by decide)]; exact g3
            · rw [m3 45 (by decide) (by decide), a3 45 (by decide)]; exact e45
            · show M5 98 33 = ((lo + (u ++ [(kk, vv)]).length : Nat) : Int)
              rw [m4, List.length_append]; rfl
            · show HdM (hst lo [] (u ++ [(kk, vv)])) M5
              rw [hst_sn, show sdN kk = 0 by unfold sdN; rw [if_neg a9, if_pos a8], List.drop_zero]
              exact m5
            · show ND (ndL root (upH M5 110) (upH M5 111) (upH M5 112)) lo [] (u ++ [(kk, vv)])
              have eu : ∀ c, c ≠ 98 → c ≠ 106 → upH M4 c = upH M c := fun c hc hc2 => by unfold upH; rw [a2 c hc hc2]
              rw [m6, m7, m8, eu 110 (by decide) (by decide), eu 111 (by decide) (by decide), eu 112 (by decide) (by decide)]
              exact ND_sn u lo [] (ND_mono u lo [] (fun q kq vq G z1 z2 hq => ndL_up (by omega) hq) g7) a10
            · exact a4.of (m2 106 (by decide) (by decide) (by decide))
          have wrong : ∀ (w : Int) (M4 : Mem), askF bs L (own : Int) n nm ln (t, pd, op, cnt, u, lt, true) t2 = Sum.inl (w, tS t2) → FrH M M4 → M4 98 4 = w → M4 98 5 = (tS t2 : Int) → f 0 M4 := fun w M4 ea a1 a2 a3 => by
            rw [ea] at base0
            exact HE w (tS t2) base0 M4 a1 a2 a3
          refine ⟨⟨by omega, by omega⟩, fun cm2 => ?_, fun cm2 => ?_⟩
          · -- up, down, as
            rw [b2.2.1]
            have n15 : tK t ≠ 15 := by omega
            refine fun _ => c_latchThere hnx.1 hT2 hN2 b2 (fun e38 o ho hfo M3 m1 m2 m3 m4 m5 => ⟨⟨by decide, by decide⟩, fun _ => ?_, fun z => absurd z (by decide)⟩) (fun w hw M' a1 a2 a3 => ⟨⟨by decide, by decide⟩, fun z => absurd rfl z, fun _ => ⟨⟨by decide, by decide⟩, fun z => absurd rfl z, fun _ => ?_⟩⟩)
            · have ea0 : askF bs L (own : Int) n nm ln (t, pd, op, cnt, u, lt, true) t2 = (if tK t = 16 then (if ln.testBit o = false then Sum.inl (4, tS t2) else if (lt o).testBit own = true then Sum.inl (5, tS t2) else Sum.inr (true, (tok bs L (tN t2), pd, op, cnt + 1, u ++ [(16, (o : Int))], upN lt own (lt own ||| lt o), false))) else if (o : Int) = (own : Int) then Sum.inl (5, tS t2) else Sum.inr (true, (tok bs L (tN t2), pd, op, cnt + 1, u ++ [(tK t, (o : Int))], upN lt own (lt own ||| 2 ^ o), false))) := by
                unfold askF
                rw [if_neg (show ¬ tK (fT (t, pd, op, cnt, u, lt, true)) = 15 from n15), if_neg (fun z => z e38), hfo, if_neg (by omega), Int.toNat_natCast, Int.toNat_natCast]
              have hG3 : FrHL M M3 := hG2.tr m1
              have c3 : ∀ c, c ≠ 98 → M3 c = M c := fun c hc => by rw [m2 c hc, c2 c hc]
              have hN3 := hG3.1.nm hN
              have hro := hN3.2.2.2 o ho
              have hlo2 := h9 o
              have hlow := h9 own
              have hLo : M3 106 (8 + o) = (lt o : Int) := by rw [c3 106 (by decide)]; exact g8 o (by omega)
              have hLow : M3 106 (8 + own) = (lt own : Int) := by rw [c3 106 (by decide)]; exact g8 own (by omega)
              have wr : ∀ w : Int, 0 < w → w < 100 → askF bs L (own : Int) n nm ln (t, pd, op, cnt, u, lt, true) t2 = Sum.inl (w, tS t2) → ∀ (x2 x4 : Int), KW E mX11_simpleRead (qI (fun r60 M61 => (iR r60) ∧ ((r60 ≠ 0 → (KW E mX11_leaningRead (qI f) M61 17 [(0, pR 98), (1, pI (own : Int)), (2, pI 0)] [])) ∧ (r60 = 0 → f 0 M61)))) M3 127 [(0, pR 98), (1, pI (own : Int)), (2, pI x2), (3, pI (tS t2 : Int)), (4, pI x4)] [pI w] := by
                intro w w1 w2 ea x2 x4
                have := hnx.1.1
                refine vX11_simpleRead_127 _ _ _ _ _ ⟨⟨by omega, by omega⟩, fun z => absurd z (by omega), fun _ => ⟨⟨by omega, by omega⟩, c_wrong (by omega) (by rw [upM_self, va_up_self]) (fun M' a1 a2 a3 => ⟨Or.inl rfl, ⟨by decide, by decide⟩, fun z => absurd rfl z, fun _ => wrong w M' ea ((hG3.1.tr (FrH.u98 _ (by omega))).tr a1) a2 a3⟩)⟩⟩
              have lnU : ∀ x : Nat, x < 256 → LnM (upN lt own (lt own ||| x)) (upM M3 106 (8 + own) (bOr (lt own : Int) (x : Int))) := by
                intro x hx l hl
                rw [upM_self, bOr_nat (by omega) (by omega)]
                by_cases e : l = own
                · rw [e, va_up_self, upN_self]
                · rw [va_up_neq _ _ (by omega), upN_ne _ _ e, c3 106 (by decide)]; exact g8 l hl
              have frU : ∀ v : Int, FrHL M (upM M3 106 (8 + own) v) := fun v => hG3.tr ⟨FrH.uA _ (by omega), by rw [upM_ne _ _ _ (by decide)], by rw [upM_ne _ _ _ (by decide)], by rw [upM_ne _ _ _ (by decide)]⟩
              have cU : ∀ (v : Int) (c : Nat), c ≠ 98 → c ≠ 106 → upM M3 106 (8 + own) v c = M c := fun v c h1 h2 => by rw [upM_ne _ _ _ h2, c3 c h1]
              have qU : ∀ (v : Int) (q : Nat), ¬ (7 ≤ q ∧ q ≤ 11) → upM M3 106 (8 + own) v 98 q = M2 98 q := fun v q hq => by rw [upM_ne _ _ _ (by decide), m3 q hq]
              have tU : ∀ v : Int, TM (tok bs L (tN t2)) (upM M3 106 (8 + own) v) := fun v => m5.of (fun q _ _ => by rw [upM_ne _ _ _ (by decide)])
              rw [m4, show ((8 : Int) + (o : Int)).toNat = 8 + o by omega, hLo]
              refine fun _ => ⟨⟨by omega, by omega⟩, fun cas => ?_, fun cas => ?_⟩
              · -- as
                have c16 : tK t = 16 := by omega
                rw [if_pos c16] at ea0
                cases hb : ln.testBit o
                · rw [hb] at hro
                  rw [if_neg (by decide)] at hro
                  rw [if_pos hb] at ea0
                  rw [hro]
                  exact ⟨⟨by omega, by omega⟩, fun _ => ⟨fun z => absurd z (by decide), fun _ => wr 4 (by decide) (by decide) ea0 _ _⟩⟩
                · rw [hb] at hro
                  rw [if_pos rfl] at hro
                  rw [if_neg (by rw [hb]; decide)] at ea0
                  have hr2 := hroot o ho hb
                  rw [hro.1]
                  refine ⟨⟨by omega, by omega⟩, fun _ => ⟨fun _ => ⟨⟨by omega, by omega⟩, fun _ => c_isOf (by omega) (by omega) ?_⟩, fun z => absurd z (by omega)⟩⟩
                  rw [bt_tb]
                  cases hb2 : (lt o).testBit own
                  · rw [if_neg (by rw [hb2]; decide)] at ea0
                    refine ⟨⟨by decide, by decide⟩, fun _ => ?_, fun z => absurd rfl z⟩
                    apply vX11_simpleRead_127
                    rw [show ((8 : Int) + (own : Int)).toNat = 8 + own by omega, show ((8 : Int) + (o : Int)).toNat = 8 + o by omega, hLo, hLow]
                    refine ⟨⟨by decide, by decide⟩, fun _ => ⟨⟨by omega, by omega⟩, fun _ => ⟨⟨by omega, by omega⟩, fun _ => ⟨⟨by omega, by omega⟩, fun _ => ?_⟩, fun z => absurd z (by omega)⟩⟩, fun z => absurd z (by decide)⟩
                    apply vX11_simpleRead_177
                    rw [show ((8 : Int) + (own : Int)).toNat = 8 + own by omega, show ((8 : Int) + (o : Int)).toNat = 8 + o by omega, hro.1]
                    refine ⟨⟨by omega, by omega⟩, ⟨by omega, by omega⟩, fun _ => ⟨⟨by omega, by omega⟩, fun _ => ?_⟩, fun z => absurd z (by omega)⟩
                    rw [show wh - 10 = 3 by omega]
                    exact fin 16 (o : Int) 3 (root o : Int) _ _ ea0 (frU _) (cU _) (qU _) (lnU (lt o) (by omega)) (tU _) ⟨by decide, by decide⟩ ⟨by omega, by omega⟩ (by decide) (by decide) (Or.inr (Or.inl ⟨rfl, by rw [va_up_self], by rw [va_up_self, Int.toNat_natCast]⟩))
                  · rw [if_pos hb2] at ea0
                    exact ⟨⟨by decide, by decide⟩, fun z => absurd z (by decide), fun _ => wr 5 (by decide) (by decide) ea0 _ _⟩
              · -- up, down
                have hk2 : tK t = 13 ∧ wh - 10 = 0 ∨ tK t = 14 ∧ wh - 10 = 1 := by omega
                rw [if_neg (by omega)] at ea0
                refine fun _ => ⟨⟨by omega, by omega⟩, fun d4 => ?_, fun d4 => ?_⟩
                · rw [if_neg (by omega)] at ea0
                  have hpo : 2 ^ o < 2 ^ 8 := Nat.pow_lt_pow_right (by decide) (by omega)
                  apply vX11_simpleRead_127
                  rw [show ((8 : Int) + (own : Int)).toNat = 8 + own by omega, hLow, m4, bOne_nat (by omega)]
                  refine ⟨⟨by decide, by decide⟩, fun _ => ⟨⟨by omega, by omega⟩, fun _ => ⟨⟨by omega, by omega⟩, fun z => absurd z (by omega), fun _ _ => ?_⟩⟩, fun z => absurd z (by decide)⟩
                  apply vX11_simpleRead_177
                  rw [show ((8 : Int) + (own : Int)).toNat = 8 + own by omega, m4]
                  refine ⟨⟨by omega, by omega⟩, ⟨by omega, by omega⟩, fun z => absurd z (by omega), fun _ _ => ?_⟩
                  refine fin (tK t) (o : Int) (wh - 10) (o : Int) _ _ ea0 (frU _) (cU _) (qU _) (lnU (2 ^ o) (by omega)) (tU _) ⟨by omega, by omega⟩ ⟨by omega, by omega⟩ (by rcases hk2 with z | z <;> (rw [z.1]; decide)) (by omega) (Or.inl ⟨?_, by rw [va_up_self]⟩)
                  rw [va_up_self]
                  omega
                · rw [if_pos d4] at ea0
                  exact wr 5 (by decide) (by decide) ea0 _ _
            · have ea : askF bs L (own : Int) n nm ln (t, pd, op, cnt, u, lt, true) t2 = Sum.inl (w, tS t2) := by
                unfold askF
                rw [if_neg (show ¬ tK (fT (t, pd, op, cnt, u, lt, true)) = 15 from n15)]
                rcases hw with ⟨z1, z2⟩ | ⟨z1, z2, z3⟩
                · rw [if_pos z1, z2]
                · rw [if_neg (fun z => z z1), if_pos z2, z3]
              exact wrong w M' ea (hG2.1.tr a1) a2 a3
          · -- many
            have c15 : tK t = 15 := by omega
            refine c_number (by decide) hnx.1 hT2 b2 (fun e1 e2 M3 m1 m2 m3 m4 m5 => ⟨⟨by decide, by decide⟩, fun _ => ?_, fun z => absurd z (by decide)⟩) (fun w hw M' a1 a2 a3 => ⟨⟨by decide, by decide⟩, fun z => absurd rfl z, fun _ => ⟨⟨by decide, by decide⟩, fun z => absurd rfl z, fun _ => ?_⟩⟩)
            · have ea : askF bs L (own : Int) n nm ln (t, pd, op, cnt, u, lt, true) t2 = Sum.inr (true, (tok bs L (tN t2), pd, op, cnt + 1, u ++ [(15, tV t2)], lt, false)) := by
                unfold askF
                rw [if_pos (show tK (fT (t, pd, op, cnt, u, lt, true)) = 15 from c15), if_neg (fun z => z e1), if_neg (by omega)]
              have hvr2 := hnx.1.2.2.2.2.2
              rw [m4]
              exact fun _ => fin 15 (tV t2) 2 (tV t2) lt M3 ea (hG2.tr m1) (fun c h1 _ => by rw [m2 c h1, c2 c h1]) m3 (g8.of (by rw [m2 106 (by decide), c2 106 (by decide)])) m5 ⟨by decide, by decide⟩ ⟨by omega, by omega⟩ (by decide) (by decide) (Or.inl ⟨Or.inr (Or.inr ⟨rfl, by rw [va_up_self]⟩), by rw [va_up_self]⟩)
            · have ea : askF bs L (own : Int) n nm ln (t, pd, op, cnt, u, lt, true) t2 = Sum.inl (w, tS t2) := by
                unfold askF
                rw [if_pos (show tK (fT (t, pd, op, cnt, u, lt, true)) = 15 from c15)]
                rcases hw with ⟨z1, z2⟩ | ⟨z1, z2, z3⟩
                · rw [if_pos z1, z2]
                · rw [if_neg (fun z => z z1), if_pos z2, z3]
              exact wrong w M' ea (hG2.1.tr a1) a2 a3
        · rw [if_pos cc] at base0
          exact HE 2 (tS t) base0 M' a1 a2 a3
      · have hky := RK.ky k1 d
        rw [if_neg (fun z => by have := hky.2.2.2.2.2; have := hky.1; have := hky.2.1; have := hky.2.2.1; have := hky.2.2.2.1; omega)] at base0
        exact bad 1 (Or.inl rfl) base0
    have p52 : tK t ≠ 12 → KW E mX11_leaningRead (qI f) M 52 [(0, pR 98), (1, pI (own : Int)), (2, pI 1)] [] := by
      intro c12
      refine vX11_leaningRead_52 _ _ ⟨⟨by decide, by decide⟩, fun z => absurd z (by decide), fun _ => c_isSign ⟨by decide, by decide⟩ (fun e1 e2 => ⟨⟨by decide, by decide⟩, fun z => absurd z (by decide), fun _ => ?_⟩) (fun e1 => ⟨⟨by decide, by decide⟩, fun _ => p102 c12 (fun z => e1 (kof.2.1 z)), fun z => absurd rfl z⟩)⟩
      have c25 : tK t = 25 := (RK.sg k1 e1).2.1 e2
      have base0 : stepF bs L (own : Int) n nm ln (t, pd, op, cnt, u, lt, true) = (if 8 ≤ op then Sum.inl (2, tS t) else Sum.inr (true, (tok bs L (tN t), 25 :: pd, op + 1, cnt, u, lt, true))) := by
        unfold stepF
        rw [if_pos rfl]
        show (if tK t = 25 then _ else _) = _
        rw [if_pos c25]
      rw [g3]
      refine fun _ => ⟨fun c8 => fun _ => ⟨⟨by omega, by omega⟩, ?_⟩, fun c8 => ?_⟩
      · rw [if_neg (by omega)] at base0
        refine c_waitsFor (lw := False) (k := 25) (pd := pd) ⟨by decide, by decide⟩ (g2.of rfl rfl) (by omega) (fun M1 b1 b2 b3 b4 => ?_)
        refine adv _ M1 base0 rfl ((FrHL.u98 _ (by omega)).tr ⟨b1, b3 4 (by decide), b3 5 (by decide), b3 19 (by decide)⟩) ?_ b4 ?_ ?_ ?_ ?_ ?_ ?_
        · rw [b3 7 (by decide)]; exact k3
        · show M1 98 44 = ((op + 1 : Nat) : Int); rw [b3 44 (by decide), upM_self, va_up_self]; omega
        · rw [b3 45 (by decide)]; exact g4
        · rw [b3 33 (by decide)]; exact g5
        · exact g6.of (by rw [b3 43 (by decide)]; rfl) (by rw [b2 120 (by decide) (by decide)]; rfl)
        · have eu : ∀ c, c ≠ 98 → c ≠ 119 → upH M1 c = upH M c := fun c hc hc2 => by unfold upH; rw [b2 c hc hc2, upM_ne _ _ _ hc]
          rw [eu 110 (by decide) (by decide), eu 111 (by decide) (by decide), eu 112 (by decide) (by decide)]
          exact g7
        · exact g8.of (by rw [b2 106 (by decide) (by decide), upM_ne _ _ _ (by decide)])
      · rw [if_pos (by omega)] at base0
        exact bad 2 (Or.inr rfl) base0
    refine vX11_leaningRead_17 _ _ ⟨⟨by decide, by decide⟩, fun z => absurd z (by decide), fun _ => c_isKey ⟨by decide, by decide⟩ (fun e3 e4 => ⟨⟨by decide, by decide⟩, fun z => absurd z (by decide), fun _ => ?_⟩) (fun e3 => ⟨⟨by decide, by decide⟩, fun _ => p52 (fun z => e3 (kof.2.2.2.1 z)), fun z => absurd rfl z⟩)⟩
    have c12 : tK t = 12 := (RK.ky k1 e3).2.2.1 e4
    have htop : ¬ topR pd > 3 := by
      cases hpd : pd with
      | nil => decide
      | cons k p =>
        have := h2F k (by rw [hpd]; exact List.mem_cons_self ..)
        show ¬ rk k > 3
        rcases this with z | z | z | z | z
        · rw [z, rk25]; decide
        · rw [z, rk12]; decide
        · rw [z, rk10]; decide
        · rw [z, rk11]; decide
        · exact absurd z.1 id
    have base0 : stepF bs L (own : Int) n nm ln (t, pd, op, cnt, u, lt, true) = (if 64 ≤ cnt then Sum.inl (2, tS t) else Sum.inr (true, (tok bs L (tN t), 12 :: pd, op, cnt + 1, u, lt, true))) := by
      unfold stepF
      rw [if_pos rfl]
      show (if tK t = 25 then _ else if tK t = 12 then (if topR pd > 3 then _ else _) else _) = _
      rw [if_neg (by omega), if_pos c12, if_neg htop]
    refine c_isCounted g4 h6 k2 (fun cc => ⟨⟨by decide, by decide⟩, fun _ => ?_, fun z => absurd z (by decide)⟩) (fun cc M' a1 a2 a3 => ⟨⟨by decide, by decide⟩, fun z => absurd rfl z, fun _ => ?_⟩)
    · rw [if_neg (by omega)] at base0
      refine c_waitsFor (lw := False) (k := 12) (pd := pd) ⟨by decide, by decide⟩ (g2.of rfl rfl) (by omega) (fun M1 b1 b2 b3 b4 => ?_)
      refine adv _ M1 base0 rfl ((FrHL.u98 _ (by omega)).tr ⟨b1, b3 4 (by decide), b3 5 (by decide), b3 19 (by decide)⟩) ?_ b4 ?_ ?_ ?_ ?_ ?_ ?_
      · rw [b3 7 (by decide)]; exact k3
      · rw [b3 44 (by decide)]; exact g3
      · rw [b3 45 (by decide), upM_self, va_up_self]; show (cnt : Int) + 1 = ((cnt + 1 : Nat) : Int); omega
      · rw [b3 33 (by decide)]; exact g5
      · exact g6.of (by rw [b3 43 (by decide)]; rfl) (by rw [b2 120 (by decide) (by decide)]; rfl)
      · have eu : ∀ c, c ≠ 98 → c ≠ 119 → upH M1 c = upH M c := fun c hc hc2 => by unfold upH; rw [b2 c hc hc2, upM_ne _ _ _ hc]
        rw [eu 110 (by decide) (by decide), eu 111 (by decide) (by decide), eu 112 (by decide) (by decide)]
        exact g7
      · exact g8.of (by rw [b2 106 (by decide) (by decide), upM_ne _ _ _ (by decide)])
    · rw [if_pos cc] at base0
      exact HE 2 (tS t) base0 M' a1 a2 a3
  | false =>
    show KW E mX11_leaningRead (qI f) M 17 [(0, pR 98), (1, pI (own : Int)), (2, pI 0)] []
    have hd : dpF 0 u = some (bnL pd + 1) := h7
    have hup : lo + u.length + npL pd ≤ 64 := by omega
    -- and, or
    have jn : ∀ (kk : Int), (kk = 11 ∨ kk = 10) → tK t = kk → M 98 9 = wcd False kk → CI E mX11_isCounted [pR 98] M (fun r5 M6 => (iR r5) ∧ ((r5 ≠ 0 → ((iR (M6 98 9)) → (CI E mX11_waitsBy [pI (M6 98 9)] M6 (fun r9 M10 => (CV E mX11_binds [pR 98, pI r9] M10 (fun M12 => ((iR (M12 98 9)) → (CV E mX11_waitsFor [pR 98, pI (M12 98 9)] M12 (fun M15 => (CV E mX11_token [pR 98] M15 (fun M17 => (KW E mX11_leaningRead (qI f) M17 17 [(0, pR 98), (1, pI (own : Int)), (2, pI 1)] [])))))))))))) ∧ (r5 = 0 → f 0 M6))) := by
      intro kk hkk ek ew
      have hokk : okPd False kk := by rcases hkk with z | z <;> rw [z] <;> first | exact Or.inr (Or.inr (Or.inr (Or.inl rfl))) | exact Or.inr (Or.inr (Or.inl rfl))
      have hrk : 1 ≤ rk kk ∧ rk kk ≤ 2 := by rcases hkk with z | z <;> (rw [z]; decide)
      have base0 : stepF bs L (own : Int) n nm ln (t, pd, op, cnt, u, lt, false) = (if 64 ≤ cnt then Sum.inl (2, tS t) else Sum.inr (true, (tok bs L (tN t), kk :: (stl (rk kk) pd u).1, op, cnt + 1, (stl (rk kk) pd u).2, lt, true))) := by
        unfold stepF
        rw [if_neg (show ¬ (false = true) by decide)]
        show (if tK t = 24 ∧ op = 0 then _ else if tK t = 26 ∧ 0 < op then _ else if rk (tK t) = 0 ∨ tK t = 12 ∨ (0 ≤ (own : Int) ∧ 4 ≤ rk (tK t)) then _ else if rk (tK t) = 4 ∧ _ then _ else _) = _
        have e5 : (if rk kk = 4 then (5 : Int) else rk kk) = rk kk := if_neg (by omega)
        rw [if_neg (by omega), if_neg (by omega), ek, if_neg (by omega), if_neg (show ¬ (rk kk = 4 ∧ _) by omega)]
        show (if 64 ≤ cnt then _ else Sum.inr (true, (tok bs L (tN t), kk :: (stl (if rk kk = 4 then (5 : Int) else rk kk) pd u).1, op, cnt + 1, (stl (if rk kk = 4 then (5 : Int) else rk kk) pd u).2, lt, true))) = _
        rw [e5]
      refine c_isCounted g4 h6 k2 (fun cc => ⟨⟨by decide, by decide⟩, fun _ => ?_, fun z => absurd z (by decide)⟩) (fun cc M' a1 a2 a3 => ⟨⟨by decide, by decide⟩, fun z => absurd rfl z, fun _ => ?_⟩)
      · rw [if_neg (by omega)] at base0
        generalize hM1 : upM M 98 45 ((cnt : Int) + 1) = M1
        have q1 : ∀ q, q ≠ 45 → M1 98 q = M 98 q := fun q hq => by rw [← hM1, upM_self, va_up_neq _ _ hq]
        have c1 : ∀ c, c ≠ 98 → M1 c = M c := fun c hc => by rw [← hM1, upM_ne _ _ _ hc]
        have hG1 : FrHL M M1 := by rw [← hM1]; exact FrHL.u98 _ (by omega)
        have hq := stl_ok (own := (own : Int)) (n := n) (ln := ln) (lw := (own : Int) < 0) hrk.1 pd u h2 h8 hd
        have hl1 := pd_len (stl (rk kk) pd u).1
        have hqn := hq.2.2.2.2.1
        have hqp := hq.2.2.2.1
        rw [q1 9 (by decide), ew]
        refine fun _ => c_waitsBy hokk (vX11_binds_in _ (c_bindsM (lo := lo) (root := root) ⟨hrk.1, by omega⟩ pd u M1 h2F (g2.of (q1 42 (by decide)) (c1 119 (by decide))) (by rw [q1 33 (by decide)]; exact g5) (g6.of (q1 43 (by decide)) (c1 120 (by decide))) (by unfold upH at g7 ⊢; rw [c1 110 (by decide), c1 111 (by decide), c1 112 (by decide)]; exact g7) hd hup (by omega) (by omega) (fun M2 b1 b2 b3 b4 b5 => ?_)))
        rw [b1.2.2 9 (by decide) (by decide) (by decide), q1 9 (by decide), ew]
        refine fun _ => c_waitsFor (lw := False) (k := kk) (pd := (stl (rk kk) pd u).1) (by rcases hkk with z | z <;> (rw [z]; decide)) b2 (by omega) (fun M3 d1 d2 d3 d4 => ?_)
        refine adv _ M3 base0 rfl ((hG1.tr b1.1).tr ⟨d1, d3 4 (by decide), d3 5 (by decide), d3 19 (by decide)⟩) ?_ d4 ?_ ?_ ?_ ?_ ?_ ?_
        · rw [d3 7 (by decide), b1.2.2 7 (by decide) (by decide) (by decide), q1 7 (by decide)]; exact k3
        · rw [d3 44 (by decide), b1.2.2 44 (by decide) (by decide) (by decide), q1 44 (by decide)]; exact g3
        · rw [d3 45 (by decide), b1.2.2 45 (by decide) (by decide) (by decide), ← hM1, upM_self, va_up_self]; show (cnt : Int) + 1 = ((cnt + 1 : Nat) : Int); omega
        · rw [d3 33 (by decide)]; exact b3
        · exact b4.of (d3 43 (by decide)) (d2 120 (by decide) (by decide))
        · have eu : ∀ c, c ≠ 98 → c ≠ 119 → upH M3 c = upH M2 c := fun c hc hc2 => by unfold upH; rw [d2 c hc hc2]
          rw [eu 110 (by decide) (by decide), eu 111 (by decide) (by decide), eu 112 (by decide) (by decide)]
          exact b5
        · exact g8.of (by rw [d2 106 (by decide) (by decide), b1.2.1 106 (by decide) (by decide) (by decide), c1 106 (by decide)])
      · rw [if_pos cc] at base0
        exact HE 2 (tS t) base0 M' a1 a2 a3
    have no : tK t ≠ 11 → tK t ≠ 10 → ¬ (tK t = 24 ∧ op = 0) → ¬ (tK t = 26 ∧ 0 < op) → stepF bs L (own : Int) n nm ln (t, pd, op, cnt, u, lt, false) = Sum.inl (1, tS t) := by
      intro n11 n10 n24 n26
      unfold stepF
      rw [if_neg (show ¬ (false = true) by decide)]
      show (if tK t = 24 ∧ op = 0 then _ else if tK t = 26 ∧ 0 < op then _ else if rk (tK t) = 0 ∨ tK t = 12 ∨ (0 ≤ (own : Int) ∧ 4 ≤ rk (tK t)) then _ else _) = _
      have hz : rk (tK t) = 0 ∨ tK t = 12 ∨ (0 ≤ (own : Int) ∧ 4 ≤ rk (tK t)) := by
        by_cases z : rk (tK t) = 0
        · exact Or.inl z
        · rcases rk_ok z with w | w | w | w
          · exact absurd w n10
          · exact absurd w n11
          · exact Or.inr (Or.inl w)
          · exact Or.inr (Or.inr ⟨by omega, w.1⟩)
      rw [if_neg n24, if_neg n26, if_pos hz]
    have p102 : KW E mX11_leaningRead (qI f) M 102 [(0, pR 98), (1, pI (own : Int)), (2, pI 0)] [] := by
      refine vX11_leaningRead_102 _ _ ⟨⟨by decide, by decide⟩, fun _ => c_isKey ⟨by decide, by decide⟩ (fun e1 e2 => ⟨⟨by decide, by decide⟩, fun _ => jn 11 (Or.inl rfl) ((RK.ky k1 e1).1 e2) (by rw [e2]; decide), fun z => absurd z (by decide)⟩) (fun e1 => ⟨⟨by decide, by decide⟩, fun z => absurd rfl z, fun _ => c_isKey ⟨by decide, by decide⟩ (fun e3 e4 => ⟨⟨by decide, by decide⟩, fun z => absurd z (by decide), fun _ => jn 10 (Or.inr rfl) ((RK.ky k1 e3).2.1 e4) (by rw [e4]; decide)⟩) (fun e3 => ⟨⟨by decide, by decide⟩, fun _ => ?_, fun z => absurd rfl z⟩)⟩), fun z => absurd rfl z⟩
      have n11 : tK t ≠ 11 := fun z => e1 (kof.2.2.2.2.1 z)
      have n10 : tK t ≠ 10 := fun z => e3 (kof.2.2.2.2.2.1 z)
      rw [g3]
      refine fun _ => ⟨fun c => ?_, fun c => c_isSign ⟨by decide, by decide⟩ (fun e5 e6 => ⟨⟨by decide, by decide⟩, fun _ => ?_, fun z => absurd z (by decide)⟩) (fun e5 => ⟨⟨by decide, by decide⟩, fun z => absurd rfl z, fun _ => ?_⟩)⟩
      · -- its end
        refine vX11_binds_in _ (c_bindsM (lo := lo) (root := root) (by decide) pd u M h2F g2 g5 g6 g7 hd hup (by omega) (by omega) (fun M1 b1 b2 b3 b4 b5 => ?_))
        have ht1 : TM t M1 := g1.of (fun q q1 q2 => b1.2.2 q (by omega) (by omega) (by omega))
        by_cases c24 : tK t = 24
        · have base0 : stepF bs L (own : Int) n nm ln (t, pd, op, cnt, u, lt, false) = Sum.inr (false, (t, (stl 1 pd u).1, op, cnt, (stl 1 pd u).2, lt, false)) := by
            unfold stepF
            rw [if_neg (show ¬ (false = true) by decide)]
            show (if tK t = 24 ∧ op = 0 then _ else _) = _
            rw [if_pos ⟨c24, by omega⟩]
          refine HD _ base0 M1 b1.1 ⟨ht1, b2, ?_, ?_, b3, b4, b5, g8.of (b1.2.1 106 (by decide) (by decide) (by decide))⟩
          · rw [b1.2.2 44 (by decide) (by decide) (by decide)]; exact g3
          · rw [b1.2.2 45 (by decide) (by decide) (by decide)]; exact g4
        · exact HN (no n11 n10 (fun z => c24 z.1) (fun z => by omega)) c24 M1 b1.1 ht1
      · have c26 : tK t = 26 := (RK.sg k1 e5).2.2.1 e6
        have base0 : stepF bs L (own : Int) n nm ln (t, pd, op, cnt, u, lt, false) = Sum.inr (true, (tok bs L (tN t), (stl 1 pd u).1.tail, op - 1, cnt, (stl 1 pd u).2, lt, false)) := by
          unfold stepF
          rw [if_neg (show ¬ (false = true) by decide)]
          show (if tK t = 24 ∧ op = 0 then _ else if tK t = 26 ∧ 0 < op then _ else _) = _
          rw [if_neg (by omega), if_pos ⟨c26, by omega⟩]
        have hq := stl_ok (own := (own : Int)) (n := n) (ln := ln) (lw := (own : Int) < 0) (r := 1) (Int.le_refl _) pd u h2 h8 hd
        obtain ⟨q, eq⟩ := top25 hq.1 hq.2.2.2.2.2 (by rw [hq.2.2.2.1]; omega)
        refine vX11_binds_in _ (c_bindsM (lo := lo) (root := root) (by decide) pd u M h2F g2 g5 g6 g7 hd hup (by omega) (by omega) (fun M1 b1 b2 b3 b4 b5 => ?_))
        rw [eq] at b2
        have e42 : M1 98 42 = (q.length : Int) + 1 := by rw [b2.1, List.length_cons]; omega
        have hq2 := hq.2.2.2.2.1
        have hl1 := pd_len (stl 1 pd u).1
        rw [eq, List.length_cons] at hl1
        have hq3 := hq.2.2.2.1
        rw [eq] at hq2 hq3
        rw [e42, b1.2.2 44 (by decide) (by decide) (by decide), g3]
        refine fun _ => ⟨⟨by omega, by omega⟩, fun _ => ⟨⟨by omega, by omega⟩, ?_⟩⟩
        have qq : ∀ x, x ≠ 42 → x ≠ 44 → upM (upM M1 98 42 ((q.length : Int) + 1 - 1)) 98 44 ((op : Int) - 1) 98 x = M1 98 x := fun x x1 x2 => by rw [upM_self, va_up_neq _ _ x2, upM_self, va_up_neq _ _ x1]
        have cc2 : ∀ c, c ≠ 98 → upM (upM M1 98 42 ((q.length : Int) + 1 - 1)) 98 44 ((op : Int) - 1) c = M1 c := fun c c1 => by rw [upM_ne _ _ _ c1, upM_ne _ _ _ c1]
        refine adv _ _ base0 rfl ((b1.1.tr (FrHL.u98 _ (by omega))).tr (FrHL.u98 _ (by omega))) ?_ ?_ ?_ ?_ ?_ ?_ ?_ ?_
        · rw [qq 7 (by decide) (by decide), b1.2.2 7 (by decide) (by decide) (by decide)]; exact k3
        · show WtM False (stl 1 pd u).1.tail _
          rw [eq]
          refine ⟨?_, ?_⟩
          · rw [upM_self, va_up_neq _ _ (by decide), upM_self, va_up_self]
            show (q.length : Int) + 1 - 1 = (q.length : Int)
            omega
          · rw [cc2 119 (by decide)]
            have h2' : SR (M1 119) (wcd False 25 :: q.map (wcd False)) := b2.2
            exact h2'.pop
        · rw [upM_self, va_up_self]
          show (op : Int) - 1 = ((op - 1 : Nat) : Int)
          omega
        · rw [qq 45 (by decide) (by decide), b1.2.2 45 (by decide) (by decide) (by decide)]; exact g4
        · rw [qq 33 (by decide) (by decide)]; exact b3
        · exact b4.of (qq 43 (by decide) (by decide)) (cc2 120 (by decide))
        · have eu : ∀ c, c ≠ 98 → upH (upM (upM M1 98 42 ((q.length : Int) + 1 - 1)) 98 44 ((op : Int) - 1)) c = upH M1 c := fun c hc => by unfold upH; rw [cc2 c hc]
          rw [eu 110 (by decide), eu 111 (by decide), eu 112 (by decide)]
          exact b5
        · exact g8.of (by rw [cc2 106 (by decide), b1.2.1 106 (by decide) (by decide) (by decide)])
      · exact bad 1 (Or.inl rfl) (no n11 n10 (fun z => by omega) (fun z => e5 (kof.2.2.1 z.1)))
    refine vX11_leaningRead_17 _ _ ⟨⟨by decide, by decide⟩, fun _ => vX11_leaningRead_52 _ _ ⟨⟨by decide, by decide⟩, fun _ => p102, fun z => absurd rfl z⟩, fun z => absurd rfl z⟩
theorem c_leanL {f : Int → Mem → Prop} {M0 : Mem} (hown : own < n) (hlo : lo ≤ base) (hroot : ∀ l, l < n → ln.testBit l = true → root l < lo) (hT : TPm bs L M0) (hN : NmM n nm ln root M0) : ∀ (j : Nat) (s : FS) (M : Mem), FI L (own : Int) n ln base s → L < tS (fT s) + j → FrHL M0 M → RLn root lo s M →
    (∀ w pl, fml bs L (own : Int) n nm ln j s = Sum.inl (w, pl) → ∀ M', FrH M0 M' → M' 98 4 = w → M' 98 5 = (pl : Int) → f 0 M') →
    (∀ t : Tk, fml bs L (own : Int) n nm ln j s = Sum.inl (1, tS t) → tK t ≠ 24 → ∀ M', FrHL M0 M' → TM t M' → f 1 M') →
    (∀ s', fml bs L (own : Int) n nm ln j s = Sum.inr s' → FI L (own : Int) n ln base s' → (fP s' = [] ∧ fW s' = false ∧ tK (fT s') = 24) → ∀ M', FrHL M0 M' → RLn root lo s' M' → f 1 M') →
    KW E mX11_leaningRead (qI f) M 17 [(0, pR 98), (1, pI (own : Int)), (2, pI (bI (fW s)))] [] := by
  intro j
  induction j with
  | zero => intro s M hI hj; have := hI.1.1; omega
  | succ j ih =>
    intro s M hI hj hG hR HE HN HD
    have hn := hN.2.1
    refine c_leanStep (nm := nm) hown hI hlo hroot (hG.1.tp hT) (hG.1.nm hN) hR (fun w pl es M' a1 a2 a3 => HE w pl ?_ M' (hG.1.tr a1) a2 a3) (fun es h24 M' a1 a2 => HN (fT s) ?_ h24 M' (hG.tr a1) a2) (fun s' es M' a1 a3 => ?_) (fun s' es M' a1 a3 => ?_)
    · simp only [fml]; rw [es]
    · simp only [fml]; rw [es]
    · have hs := hI.step hn (by omega) es
      refine HD s' ?_ hs.1 ⟨(hs.2.2 rfl).1, (hs.2.2 rfl).2.1, (hs.2.2 rfl).2.2.2.1⟩ M' (hG.tr a1) a3
      simp only [fml]; rw [es]
    · have hs := hI.step hn (by omega) es
      have hs1 := hs.2.1 rfl
      have e : fml bs L (own : Int) n nm ln (j + 1) s = fml bs L (own : Int) n nm ln j s' := by simp only [fml]; rw [es]
      rw [e] at HE HN HD
      exact ih s' M' hs.1 (by omega) (hG.tr a1) a3 HE HN HD
end LEANM2
