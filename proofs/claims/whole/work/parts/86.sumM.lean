theorem WtM.of {lw : Prop} [Decidable lw] {pd : List Int} {M M' : Mem} (h : WtM lw pd M) (h1 : M' 98 42 = M 98 42) (h2 : M' 119 = M 119) : WtM lw pd M' := ⟨by rw [h1]; exact h.1, by rw [h2]; exact h.2⟩
theorem HdM.of {H : List Nat} {M M' : Mem} (h : HdM H M) (h1 : M' 98 43 = M 98 43) (h2 : M' 120 = M 120) : HdM H M' := ⟨by rw [h1]; exact h.1, by rw [h2]; exact h.2⟩
theorem TM.of {t : Tk} {M M' : Mem} (h : TM t M) (h1 : ∀ q, 7 ≤ q → q ≤ 10 → M' 98 q = M 98 q) : TM t M' := by
  unfold TM
  rw [h1 8 (by decide) (by decide), h1 9 (by decide) (by decide), h1 10 (by decide) (by decide), h1 7 (by decide) (by decide)]
  exact h
theorem hst_le : ∀ (P : KL) (i : Nat) (H : List Nat), (hst i H P).length ≤ H.length + P.length := by
  intro P
  induction P with
  | nil => intro i H; exact Nat.le_refl _
  | cons e P ih => intro i H; have := ih (i + 1) (i :: H.drop (sdN e.1)); simp only [hst]; rw [List.length_cons, List.length_drop] at this; rw [List.length_cons]; omega
section SUMM
variable {E : Scr} {bs : BF} {L : Nat} {n : Nat} {nm : Nat → Int} {ln lo base : Nat}
theorem c_sumStep {f : Int → Mem → Prop} {M : Mem} {s : FS} (hI : FI L (-1) n ln base s) (hlo : lo ≤ base) (hT : TPm bs L M) (hR : RW lo s M)
    (HE : ∀ w pl, stepF bs L (-1) n nm ln s = Sum.inl (w, pl) → ∀ M', FrH M M' → M' 98 4 = w → M' 98 5 = (pl : Int) → f 0 M')
    (HD : ∀ s', stepF bs L (-1) n nm ln s = Sum.inr (false, s') → ∀ M', FrHG M M' → M' 106 = M 106 → RW lo s' M' → f 1 M')
    (HC : ∀ s', stepF bs L (-1) n nm ln s = Sum.inr (true, s') → ∀ (M' : Mem), FrHG M M' → M' 106 = M 106 → RW lo s' M' → KW E mX11_sumRead (qI f) M' 25 [(0, pR 98)] []) :
    KW E mX11_sumRead (qI f) M 25 [(0, pR 98)] [] := by
  have hL := hT.2.1
  obtain ⟨t, pd, op, cnt, u, lt, wt⟩ := s
  obtain ⟨h1, h2, h3, h4, h5, h6, h7, h8, h9⟩ := hI
  replace h1 : TkI L t := h1
  replace h2 : ∀ k, k ∈ pd → okPd ((-1 : Int) < 0) k := h2
  replace h3 : prC pd = op := h3
  replace h4 : op ≤ 8 := h4
  replace h5 : base + u.length + npL pd = cnt := h5
  replace h6 : cnt ≤ 64 := h6
  replace h7 : dpF 0 u = some (bnL pd + if wt = true then 0 else 1) := h7
  replace h8 : ∀ e, e ∈ u → okEl ((-1 : Int) < 0) (-1) n ln e := h8
  have okT : ∀ k, okPd ((-1 : Int) < 0) k → okPd True k := fun k hk => by
    rcases hk with z | z | z | z | z
    · exact Or.inl z
    · exact Or.inr (Or.inl z)
    · exact Or.inr (Or.inr (Or.inl z))
    · exact Or.inr (Or.inr (Or.inr (Or.inl z)))
    · exact Or.inr (Or.inr (Or.inr (Or.inr ⟨trivial, z.2⟩)))
  have h2T : ∀ k, k ∈ pd → okPd True k := fun k hk => okT k (h2 k hk)
  obtain ⟨g1, g2, g3, g4, g5, g6, g7, g8, g9⟩ := hR
  replace g1 : TM t M := g1
  replace g2 : WtM True pd M := g2
  replace g3 : M 98 44 = (op : Int) := g3
  replace g4 : M 98 45 = (cnt : Int) := g4
  replace g5 : M 98 19 = ((lo + u.length : Nat) : Int) := g5
  replace g6 : HdM (hst lo [] u) M := g6
  replace g7 : ND (ndW (upH M 116) (upH M 117) (upH M 118)) lo [] u := g7
  have hnx := tok_I (bs := bs) h1.2.2.1
  have hlen := pd_len pd
  obtain ⟨k1, k2, k3⟩ := id g1
  have hRK : RK t (M 98 8) (M 98 9) := k1
  generalize hkd : M 98 8 = kd at hRK
  generalize hwh : M 98 9 = wh at hRK
  have k1' : RK t kd wh := hRK
  have kof := RK.of k1'
  clear hRK
  have hRK : True := trivial
  have hvr := h1.2.2.2.2.2
  have hkr := h1.2.2.2.1
  have hHl := hst_le u lo []
  -- a token on
  have adv : ∀ (s' : FS) (M1 : Mem), stepF bs L (-1) n nm ln (t, pd, op, cnt, u, lt, wt) = Sum.inr (true, s') → fT s' = tok bs L (tN t) → FrHG M M1 → M1 106 = M 106 → M1 98 7 = (tN t : Int) → WtM True (fP s') M1 → M1 98 44 = (fO s' : Int) → M1 98 45 = (fC s' : Int) → M1 98 19 = ((lo + (fU s').length : Nat) : Int) → HdM (hst lo [] (fU s')) M1 → ND (ndW (upH M1 116) (upH M1 117) (upH M1 118)) lo [] (fU s') → M1 98 46 = bI (fW s') → (fW s' = true → M1 98 47 = bI (decide (topR (fP s') ≤ 3))) → CV E mX11_token [pR 98] M1 (fun M2 => KW E mX11_sumRead (qI f) M2 25 [(0, pR 98)] []) := by
    intro s' M1 es e2 a1 a106 a2 a3 a4 a5 a6 a7 a8 a9 a10
    refine c_token (a1.1.tp hT) h1.2.2.1 a2 (fun M2 b1 b2 => ?_)
    have cc : ∀ c, c ≠ 98 → M2 c = M1 c := b1.1
    refine HC s' es M2 (a1.tr b1.toHG) (by rw [cc 106 (by decide)]; exact a106) ⟨by rw [e2]; exact b2, a3.of (b1.2 42 (by decide)) (cc 119 (by decide)), by rw [b1.2 44 (by decide)]; exact a4, by rw [b1.2 45 (by decide)]; exact a5, by rw [b1.2 19 (by decide)]; exact a6, a7.of (b1.2 43 (by decide)) (cc 120 (by decide)), ?_, by rw [b1.2 46 (by decide)]; exact a9, fun z => by rw [b1.2 47 (by decide)]; exact a10 z⟩
    unfold upH at a8 ⊢
    rw [cc 116 (by decide), cc 117 (by decide), cc 118 (by decide)]
    exact a8
  cases wt with
  | true =>
    have e46 : M 98 46 = 1 := g8
    have e47 : M 98 47 = bI (decide (topR pd ≤ 3)) := g9 rfl
    have hd0 : dpF 0 u = some (bnL pd) := h7
    have main : CI E mX11_leafRead [pR 98] M (fun r5 M6 => (iR r5) ∧ ((r5 = 0 → f 0 M6) ∧ (r5 ≠ 0 → (KW E mX11_sumRead (qI f) M6 25 [(0, pR 98)] [])))) := by
      have leafB : tK t ≠ 25 → tK t ≠ 12 → stepF bs L (-1) n nm ln (t, pd, op, cnt, u, lt, true) = (if tK t = 37 ∨ (17 ≤ tK t ∧ tK t ≤ 23) then (if 64 ≤ cnt then Sum.inl (2, tS t) else if tK t = 37 ∧ tV t > 9999 then Sum.inl (2, tS t) else Sum.inr (true, (tok bs L (tN t), pd, op, cnt + 1, u ++ [(tK t, tV t)], lt, false))) else Sum.inl (1, tS t)) := by
        intro c25 c12
        unfold stepF
        rw [if_pos rfl]
        show (if tK t = 25 then _ else if tK t = 12 then _ else _) = _
        rw [if_neg c25, if_neg c12, if_pos (by decide)]
      have bad : ∀ w : Int, w = 1 ∨ w = 2 → stepF bs L (-1) n nm ln (t, pd, op, cnt, u, lt, true) = Sum.inl (w, tS t) → CI E mX11_wrong [pR 98, pI w] M (fun r11 M12 => (zR r11) ∧ ((iR r11) ∧ ((r11 = 0 → f 0 M12) ∧ (r11 ≠ 0 → (KW E mX11_sumRead (qI f) M12 25 [(0, pR 98)] []))))) := fun w hw es => c_wrong (by omega) k2 (fun M' a1 a2 a3 => ⟨Or.inl rfl, ⟨by decide, by decide⟩, fun _ => HE w (tS t) es M' a1 a2 a3, fun z => absurd rfl z⟩)
      -- a leaf
      have leaf : ∀ (x1 : Int), (x1 = -1 ∧ tK t = 37) ∨ (0 ≤ x1 ∧ 17 ≤ tK t ∧ tK t ≤ 23 ∧ x1 = tK t - 17) → KW E mX11_leafRead (qI (fun r5 M6 => (iR r5) ∧ ((r5 = 0 → f 0 M6) ∧ (r5 ≠ 0 → (KW E mX11_sumRead (qI f) M6 25 [(0, pR 98)] []))))) M 109 [(0, pR 98), (1, pI x1)] [] := by
        intro x1 hx
        have base := leafB (by omega) (by omega)
        rw [if_pos (by omega)] at base
        have hnu : tK t = 37 → 0 ≤ wh ∧ wh ≤ 999999 ∧ ((tV t = wh ∧ wh ≤ 99999) ∨ (99999 < tV t ∧ 99999 < wh)) := fun z => RK.nu k1' (kof.2.2.2.2.2.2.2.2.1.mp z)
        clear kof
        have cn : ¬ (tK t = 37 ∧ tV t > 9999) → CI E mX11_isCounted [pR 98] M (fun r2 M3 => (iR r2) ∧ ((r2 ≠ 0 → (iR x1) ∧ ((x1 < 0 → (KW E mX11_leafRead (qI (fun r5 M6 => (iR r5) ∧ ((r5 = 0 → f 0 M6) ∧ (r5 ≠ 0 → (KW E mX11_sumRead (qI f) M6 25 [(0, pR 98)] []))))) M3 148 [(0, pR 98), (1, pI x1)] [pI 0, pR 98])) ∧ (x1 ≥ 0 → (KW E mX11_leafRead (qI (fun r5 M6 => (iR r5) ∧ ((r5 = 0 → f 0 M6) ∧ (r5 ≠ 0 → (KW E mX11_sumRead (qI f) M6 25 [(0, pR 98)] []))))) M3 148 [(0, pR 98), (1, pI x1)] [pI 1, pR 98])))) ∧ (r2 = 0 → (iR 0) ∧ (((0 : Int) = 0 → f 0 M3) ∧ ((0 : Int) ≠ 0 → (KW E mX11_sumRead (qI f) M3 25 [(0, pR 98)] [])))))) := by
          intro nv
          refine c_isCounted g4 h6 k2 (fun cc => ⟨⟨by decide, by decide⟩, fun _ => ?_, fun z => absurd z (by decide)⟩) (fun cc M' a1 a2 a3 => ⟨⟨by decide, by decide⟩, fun z => absurd rfl z, fun _ => ⟨⟨by decide, by decide⟩, fun _ => ?_, fun z => absurd rfl z⟩⟩)
          · rw [if_neg (by omega), if_neg nv] at base
            generalize hM1 : upM M 98 45 ((cnt : Int) + 1) = M1
            have hG1 : FrHG M M1 := by rw [← hM1]; exact FrHG.u98 _ (by omega)
            have q1 : ∀ q, q ≠ 45 → M1 98 q = M 98 q := fun q hq => by rw [← hM1, upM_self, va_up_neq _ _ hq]
            have c1 : ∀ c, c ≠ 98 → M1 c = M c := fun c hc => by rw [← hM1, upM_ne _ _ _ hc]
            have hupe : ∀ c, c ≠ 98 → upH M1 c = upH M c := fun c hc => by unfold upH; rw [c1 c hc]
            -- the growing
            have gr : ∀ (s0 a : Int), iR s0 → iR a → ndW (va_up (upH M 116) (lo + u.length) s0) (va_up (upH M 117) (lo + u.length) a) (va_up (upH M 118) (lo + u.length) 0) (lo + u.length) (tK t) (tV t) (hst lo [] u) → CV E mX11_grown [pR 98, pI s0, pI a, pI 0] M1 (fun M4 => (CV E mX11_token [pR 98] (upM M4 98 46 0) (fun M6 => (iR 1) ∧ (((1 : Int) = 0 → f 0 M6) ∧ ((1 : Int) ≠ 0 → (KW E mX11_sumRead (qI f) M6 25 [(0, pR 98)] [])))))) := by
              intro s0 a r1 r2 r3
              refine c_grown r1 r2 ⟨by decide, by decide⟩ (by rw [q1 19 (by decide)]; exact g5) (by omega) (g6.of (q1 43 (by decide)) (c1 120 (by decide))) (by simp at hHl; omega) (fun M4 m1 m2 m3 m4 m5 m6 m7 m8 => ?_)
              have hG4 : FrHG M (upM M4 98 46 0) := (hG1.tr ⟨m1, m3 4 (by decide) (by decide), m3 5 (by decide) (by decide), m3 33 (by decide) (by decide)⟩).tr (FrHG.u98 _ (by omega))
              refine CV_mono (fun M7 hz => ⟨⟨by decide, by decide⟩, fun z => absurd z (by decide), fun _ => hz⟩) (adv _ (upM M4 98 46 0) base rfl hG4 (by rw [upM_ne _ _ _ (by decide), m2 106 (by decide) (by decide) (by decide), c1 106 (by decide)]) ?_ ?_ ?_ ?_ ?_ ?_ ?_ rfl (fun z => by cases z))
              · show M4 98 7 = _
                rw [m3 7 (by decide) (by decide), q1 7 (by decide)]; exact k3
              · exact (g2.of (q1 42 (by decide)) (c1 119 (by decide))).of (by show M4 98 42 = _; rw [m3 42 (by decide) (by decide)]) (by show M4 119 = _; rw [m2 119 (by decide) (by decide) (by decide)])
              · show M4 98 44 = _
                rw [m3 44 (by decide) (by decide), q1 44 (by decide)]; exact g3
              · show M4 98 45 = ((cnt + 1 : Nat) : Int)
                rw [m3 45 (by decide) (by decide), ← hM1, upM_self, va_up_self]; omega
              · show M4 98 19 = ((lo + (u ++ [(tK t, tV t)]).length : Nat) : Int)
                rw [m4, List.length_append]; rfl
              · show HdM (hst lo [] (u ++ [(tK t, tV t)])) (upM M4 98 46 0)
                rw [hst_sn, show sdN (tK t) = 0 by
                  have hr0 : rk (tK t) = 0 := by
                    by_cases q : rk (tK t) = 0
                    · exact q
                    · have := rk_ok q; omega
                  unfold sdN; rw [if_neg (by omega), if_pos hr0], List.drop_zero]
                exact m5.of rfl rfl
              · show ND (ndW (upH (upM M4 98 46 0) 116) (upH (upM M4 98 46 0) 117) (upH (upM M4 98 46 0) 118)) lo [] (u ++ [(tK t, tV t)])
                have eu : ∀ c, c ≠ 98 → upH (upM M4 98 46 0) c = upH M4 c := fun c hc => by unfold upH; rw [upM_ne _ _ _ hc]
                rw [eu 116 (by decide), eu 117 (by decide), eu 118 (by decide), m6, m7, m8, hupe 116 (by decide), hupe 117 (by decide), hupe 118 (by decide)]
                exact ND_sn u lo [] (ND_mono u lo [] (fun q k2 v2 G a1 a2 hq => ndW_up (by omega) hq) g7) r3
            refine ⟨by rcases hx with z | z <;> exact ⟨by omega, by omega⟩, fun cx => ?_, fun cx => ?_⟩
            · have hx37 : tK t = 37 := by omega
              refine vX11_leafRead_148 _ _ ⟨⟨by omega, by omega⟩, fun _ => ?_, fun z => absurd z (by omega)⟩
              rw [q1 9 (by decide), hwh]
              refine fun _ => gr 0 wh ⟨by decide, by decide⟩ ⟨by omega, by omega⟩ (Or.inl ⟨hx37, by rw [va_up_self], by rw [va_up_self]; omega⟩)
            · refine vX11_leafRead_148 _ _ ⟨⟨by omega, by omega⟩, fun z => absurd z (by omega), fun _ => gr 1 x1 ⟨by decide, by decide⟩ ⟨by omega, by omega⟩ (Or.inr (Or.inl ⟨by omega, by omega, by rw [va_up_self], by rw [va_up_self]; omega⟩))⟩
          · rw [if_pos cc] at base
            exact HE 2 (tS t) base M' a1 a2 a3
        apply vX11_leafRead_109
        rw [hwh]
        refine ⟨by rcases hx with z | z <;> exact ⟨by omega, by omega⟩, fun cx => cn (by omega), fun cx => fun _ => ⟨fun cv => cn (by omega), fun cv => ?_⟩⟩
        have : stepF bs L (-1) n nm ln (t, pd, op, cnt, u, lt, true) = Sum.inl (2, tS t) := by
          rw [base]
          by_cases cc : 64 ≤ cnt
          · rw [if_pos cc]
          · rw [if_neg cc, if_pos (by omega)]
        exact bad 2 (Or.inr rfl) this
      -- by names
      have nameC : tK t ≠ 25 → (tK t = 12 → topR pd > 3) → CI E mX11_nameMet [pR 98] M (fun r7 M8 => (iR r7) ∧ ((r7 ≥ 0 → (KW E mX11_leafRead (qI (fun r5 M6 => (iR r5) ∧ ((r5 = 0 → f 0 M6) ∧ (r5 ≠ 0 → (KW E mX11_sumRead (qI f) M6 25 [(0, pR 98)] []))))) M8 109 [(0, pR 98), (1, pI r7)] [])) ∧ (r7 < 0 → ((iR (M8 98 8)) → (((M8 98 8) = 3 → (KW E mX11_leafRead (qI (fun r5 M6 => (iR r5) ∧ ((r5 = 0 → f 0 M6) ∧ (r5 ≠ 0 → (KW E mX11_sumRead (qI f) M6 25 [(0, pR 98)] []))))) M8 109 [(0, pR 98), (1, pI r7)] [])) ∧ ((M8 98 8) ≠ 3 → (CI E mX11_wrong [pR 98, pI 1] M8 (fun r11 M12 => (zR r11) ∧ ((iR r11) ∧ ((r11 = 0 → f 0 M12) ∧ (r11 ≠ 0 → (KW E mX11_sumRead (qI f) M12 25 [(0, pR 98)] []))))))))))))  := by
        intro c25 c12
        have no : ¬ (17 ≤ tK t ∧ tK t ≤ 23) → (iR (-1)) ∧ (((-1 : Int) ≥ 0 → (KW E mX11_leafRead (qI (fun r5 M6 => (iR r5) ∧ ((r5 = 0 → f 0 M6) ∧ (r5 ≠ 0 → (KW E mX11_sumRead (qI f) M6 25 [(0, pR 98)] []))))) M 109 [(0, pR 98), (1, pI (-1))] [])) ∧ ((-1 : Int) < 0 → ((iR (M 98 8)) → (((M 98 8) = 3 → (KW E mX11_leafRead (qI (fun r5 M6 => (iR r5) ∧ ((r5 = 0 → f 0 M6) ∧ (r5 ≠ 0 → (KW E mX11_sumRead (qI f) M6 25 [(0, pR 98)] []))))) M 109 [(0, pR 98), (1, pI (-1))] [])) ∧ ((M 98 8) ≠ 3 → (CI E mX11_wrong [pR 98, pI 1] M (fun r11 M12 => (zR r11) ∧ ((iR r11) ∧ ((r11 = 0 → f 0 M12) ∧ (r11 ≠ 0 → (KW E mX11_sumRead (qI f) M12 25 [(0, pR 98)] []))))))))))) := by
          intro nn
          refine ⟨⟨by decide, by decide⟩, fun z => absurd z (by decide), fun _ => ?_⟩
          rw [hkd]
          refine fun _ => ⟨fun c => leaf (-1) (Or.inl ⟨rfl, kof.2.2.2.2.2.2.2.2.1.mpr c⟩), fun c => bad 1 (Or.inl rfl) ?_⟩
          by_cases d12 : tK t = 12
          · unfold stepF
            rw [if_pos rfl]
            show (if tK t = 25 then _ else if tK t = 12 then (if topR pd > 3 then _ else _) else _) = _
            rw [if_neg c25, if_pos d12, if_pos (c12 d12)]
          · have n37 : tK t ≠ 37 := fun z => c (kof.2.2.2.2.2.2.2.2.1.mp z)
            rw [leafB c25 d12, if_neg (by omega)]
        apply vX11_nameMet_0
        rw [hkd, hwh]
        refine fun _ => ⟨fun c => ?_, fun c => fun _ => ⟨fun c2 => ?_, fun c2 => fun _ => ?_⟩⟩
        · have := no (fun z => c (kof.2.2.2.2.2.2.2.2.2.1.mp (by omega))); rw [hkd] at this; exact this
        · have hk1 := RK.ky k1' c
          have := no (fun z => by omega); rw [hkd] at this; exact this
        · have hk1 := (RK.ky k1' c).2.2.2.1 c2
          exact ⟨⟨by omega, by omega⟩, fun _ => leaf _ (Or.inr ⟨by omega, by omega, by omega, by omega⟩), fun z => absurd z (by omega)⟩
      refine vX11_leafRead_0 (c_isSign ⟨by decide, by decide⟩ (fun e1 e2 => ⟨⟨by decide, by decide⟩, fun z => absurd z (by decide), fun _ => ?_⟩) (fun e1 => ⟨⟨by decide, by decide⟩, fun _ => ?_, fun z => absurd rfl z⟩))
      · rw [hkd] at e1; rw [hwh] at e2
        have c25 : tK t = 25 := (RK.sg k1' e1).2.1 e2
        have base : stepF bs L (-1) n nm ln (t, pd, op, cnt, u, lt, true) = (if 8 ≤ op then Sum.inl (2, tS t) else Sum.inr (true, (tok bs L (tN t), 25 :: pd, op + 1, cnt, u, lt, true))) := by
          unfold stepF
          rw [if_pos rfl]
          show (if tK t = 25 then _ else _) = _
          rw [if_pos c25]
        rw [g3]
        refine fun _ => ⟨fun c8 => fun _ => ⟨⟨by omega, by omega⟩, ?_⟩, fun c8 => ?_⟩
        · rw [if_neg (by omega)] at base
          refine c_waitsFor (lw := True) (k := 25) (pd := pd) ⟨by decide, by decide⟩ (g2.of rfl rfl) (by omega) (fun M1 b1 b2 b3 b4 => ?_)
          refine CV_mono (fun M7 hz => ⟨⟨by decide, by decide⟩, fun z => absurd z (by decide), fun _ => hz⟩) (adv _ (upM M1 98 47 1) base rfl (((FrHG.u98 _ (by omega)).tr ⟨b1, b3 4 (by decide), b3 5 (by decide), b3 33 (by decide)⟩).tr (FrHG.u98 _ (by omega))) ?_ ?_ (b4.of rfl rfl) ?_ ?_ ?_ ?_ ?_ ?_ ?_)
          · rw [upM_ne _ _ _ (by decide), b2 106 (by decide) (by decide), upM_ne _ _ _ (by decide)]
          · show M1 98 7 = _; rw [b3 7 (by decide)]; exact k3
          · show M1 98 44 = ((op + 1 : Nat) : Int); rw [b3 44 (by decide), upM_self, va_up_self]; omega
          · show M1 98 45 = _; rw [b3 45 (by decide)]; exact g4
          · show M1 98 19 = _; rw [b3 19 (by decide)]; exact g5
          · exact g6.of (by show M1 98 43 = _; rw [b3 43 (by decide)]; rfl) (by show M1 120 = _; rw [b2 120 (by decide) (by decide)]; rfl)
          · have eu : ∀ c, c ≠ 98 → c ≠ 119 → upH (upM M1 98 47 1) c = upH M c := fun c hc hc2 => by unfold upH; rw [upM_ne _ _ _ hc, b2 c hc hc2, upM_ne _ _ _ hc]
            rw [eu 116 (by decide) (by decide), eu 117 (by decide) (by decide), eu 118 (by decide) (by decide)]
            exact g7
          · show M1 98 46 = _; rw [b3 46 (by decide)]; exact g8
          · intro _
            show (1 : Int) = bI (decide (rk 25 ≤ 3))
            rw [rk25]; rfl
        · rw [if_pos (by omega)] at base
          exact bad 2 (Or.inr rfl) base
      · rw [hkd, hwh] at e1
        have c25 : tK t ≠ 25 := fun z => e1 (kof.2.1 z)
        refine c_isKey ⟨by decide, by decide⟩ (fun e3 e4 => ⟨⟨by decide, by decide⟩, fun z => absurd z (by decide), fun _ => ?_⟩) (fun e3 => ⟨⟨by decide, by decide⟩, fun _ => nameC c25 (fun z => by rw [hkd, hwh] at e3; exact absurd (kof.2.2.2.1 z) e3), fun z => absurd rfl z⟩)
        rw [hkd] at e3; rw [hwh] at e4
        have c12 : tK t = 12 := (RK.ky k1' e3).2.2.1 e4
        have base : stepF bs L (-1) n nm ln (t, pd, op, cnt, u, lt, true) = (if topR pd > 3 then Sum.inl (1, tS t) else if 64 ≤ cnt then Sum.inl (2, tS t) else Sum.inr (true, (tok bs L (tN t), 12 :: pd, op, cnt + 1, u, lt, true))) := by
          unfold stepF
          rw [if_pos rfl]
          show (if tK t = 25 then _ else if tK t = 12 then _ else _) = _
          rw [if_neg c25, if_pos c12]
        rw [e47]
        by_cases ct : topR pd > 3
        · have ef : decide (topR pd ≤ 3) = false := decide_eq_false (by omega)
          rw [ef]
          exact fun _ => ⟨fun _ => nameC c25 (fun _ => ct), fun z => absurd rfl z⟩
        · have ef : decide (topR pd ≤ 3) = true := decide_eq_true (by omega)
          rw [ef]
          rw [if_neg ct] at base
          refine fun _ => ⟨fun z => absurd z (by decide), fun _ => c_isCounted g4 h6 k2 (fun cc => ⟨⟨by decide, by decide⟩, fun _ => ?_, fun z => absurd z (by decide)⟩) (fun cc M' a1 a2 a3 => ⟨⟨by decide, by decide⟩, fun z => absurd rfl z, fun _ => ⟨⟨by decide, by decide⟩, fun _ => ?_, fun z => absurd rfl z⟩⟩)⟩
          · rw [if_neg (by omega)] at base
            refine c_waitsFor (lw := True) (k := 12) (pd := pd) ⟨by decide, by decide⟩ (g2.of rfl rfl) (by omega) (fun M1 b1 b2 b3 b4 => ?_)
            refine CV_mono (fun M7 hz => ⟨⟨by decide, by decide⟩, fun z => absurd z (by decide), fun _ => hz⟩) (adv _ M1 base rfl ((FrHG.u98 _ (by omega)).tr ⟨b1, b3 4 (by decide), b3 5 (by decide), b3 33 (by decide)⟩) ?_ ?_ b4 ?_ ?_ ?_ ?_ ?_ ?_ ?_)
            · rw [b2 106 (by decide) (by decide), upM_ne _ _ _ (by decide)]
            · rw [b3 7 (by decide)]; exact k3
            · rw [b3 44 (by decide)]; exact g3
            · rw [b3 45 (by decide), upM_self, va_up_self]; show (cnt : Int) + 1 = ((cnt + 1 : Nat) : Int); omega
            · rw [b3 19 (by decide)]; exact g5
            · exact g6.of (by rw [b3 43 (by decide)]; rfl) (by rw [b2 120 (by decide) (by decide)]; rfl)
            · have eu : ∀ c, c ≠ 98 → c ≠ 119 → upH M1 c = upH M c := fun c hc hc2 => by unfold upH; rw [b2 c hc hc2, upM_ne _ _ _ hc]
              rw [eu 116 (by decide) (by decide), eu 117 (by decide) (by decide), eu 118 (by decide) (by decide)]
              exact g7
            · rw [b3 46 (by decide)]; exact g8
            · intro _
              rw [b3 47 (by decide)]
              show M 98 47 = bI (decide (rk 12 ≤ 3))
              rw [e47, ef, rk12]; rfl
          · rw [if_pos cc] at base
            exact HE 2 (tS t) base M' a1 a2 a3
    have p48 : KW E mX11_sumRead (qI f) M 48 [(0, pR 98)] [] := by
      apply vX11_sumRead_48
      rw [e46]
      exact fun _ => ⟨fun z => absurd z (by decide), fun _ => main⟩
    refine vX11_sumRead_25 (c_isSign ⟨by decide, by decide⟩ (fun _ _ => ⟨⟨by decide, by decide⟩, fun z => absurd z (by decide), fun _ => ?_⟩) (fun _ => ⟨⟨by decide, by decide⟩, fun _ => p48, fun z => absurd rfl z⟩))
    rw [e46]
    exact fun _ => ⟨fun _ => p48, fun z => absurd z (by decide)⟩
  | false =>
    have e46 : M 98 46 = 0 := g8
    have hd : dpF 0 u = some (bnL pd + 1) := h7
    have hup : lo + u.length + npL pd ≤ 64 := by omega
    -- signs
    have sg47 : ¬ (tK t = 24 ∧ op = 0) → ¬ (tK t = 26 ∧ 0 < op) → KW E mX11_signs (qI (fun r2 M3 => (iR r2) ∧ ((r2 ≠ 0 → (KW E mX11_sumRead (qI f) M3 25 [(0, pR 98)] [])) ∧ (r2 = 0 → f 0 M3)))) M 47 [(0, pR 98)] [] := by
      intro n24 n26
      have base : stepF bs L (-1) n nm ln (t, pd, op, cnt, u, lt, false) = (if rk (tK t) = 0 ∨ tK t = 12 ∨ (0 ≤ (-1 : Int) ∧ 4 ≤ rk (tK t)) then Sum.inl (1, tS t) else if rk (tK t) = 4 ∧ topR (stl (if rk (tK t) = 4 then 5 else rk (tK t)) pd u).1 = 4 then Sum.inl (1, tS t) else if 64 ≤ cnt then Sum.inl (2, tS t) else Sum.inr (true, (tok bs L (tN t), tK t :: (stl (if rk (tK t) = 4 then 5 else rk (tK t)) pd u).1, op, cnt + 1, (stl (if rk (tK t) = 4 then 5 else rk (tK t)) pd u).2, lt, true))) := by
        unfold stepF
        rw [if_neg (show ¬ (false = true) by decide)]
        show (if tK t = 24 ∧ op = 0 then _ else if tK t = 26 ∧ 0 < op then _ else _) = _
        rw [if_neg n24, if_neg n26]
      have hrb := rk_b (tK t)
      have bad : (rk (tK t) = 0 ∨ tK t = 12) → KW E mX11_signs (qI (fun r2 M3 => (iR r2) ∧ ((r2 ≠ 0 → (KW E mX11_sumRead (qI f) M3 25 [(0, pR 98)] [])) ∧ (r2 = 0 → f 0 M3)))) M 147 [(0, pR 98)] [pI 0] := by
        intro z
        rw [if_pos (by omega)] at base
        exact vX11_signs_147 _ ⟨⟨by decide, by decide⟩, fun z => absurd rfl z, fun _ => c_wrong (by decide) k2 (fun M' a1 a2 a3 => ⟨Or.inl rfl, ⟨by decide, by decide⟩, fun z => absurd rfl z, fun _ => HE 1 (tS t) base M' a1 a2 a3⟩)⟩
      have go : ∀ s0 : Int, rk (tK t) ≠ 0 → tK t ≠ 12 → s0 = cm (tK t) → KW E mX11_signs (qI (fun r2 M3 => (iR r2) ∧ ((r2 ≠ 0 → (KW E mX11_sumRead (qI f) M3 25 [(0, pR 98)] [])) ∧ (r2 = 0 → f 0 M3)))) M 147 [(0, pR 98)] [pI s0] := by
        intro s0 z1 z2 es0
        have hok : okPd True (tK t) := by
          rcases rk_ok z1 with z | z | z | z
          · exact Or.inr (Or.inr (Or.inl z))
          · exact Or.inr (Or.inr (Or.inr (Or.inl z)))
          · exact absurd z z2
          · exact Or.inr (Or.inr (Or.inr (Or.inr ⟨trivial, z⟩)))
        have h25 : tK t ≠ 25 := fun z => z1 (by rw [z]; exact rk25)
        have hwc : wcd True (tK t) = cm (tK t) := by unfold wcd; rw [if_pos trivial, if_neg h25, if_neg z2]
        have hcm := cm_ok hok h25 z2
        rw [if_neg (by omega)] at base
        have hr1 : 1 ≤ (if rk (tK t) = 4 then 5 else rk (tK t)) ∧ (if rk (tK t) = 4 then 5 else rk (tK t)) ≤ 6 := by split <;> omega
        have hq := stl_ok (own := -1) (n := n) (ln := ln) (lw := (-1 : Int) < 0) hr1.1 pd u h2 h8 hd
        rw [es0, ← hwc]
        have p175 : KW E mX11_signs (qI (fun r2 M3 => (iR r2) ∧ ((r2 ≠ 0 → (KW E mX11_sumRead (qI f) M3 25 [(0, pR 98)] [])) ∧ (r2 = 0 → f 0 M3)))) M 175 [(0, pR 98), (1, pI (wcd True (tK t)))] [pI (if rk (tK t) = 4 then 5 else rk (tK t)), pR 98] := by
          refine vX11_signs_175 _ _ (vX11_bind_in _ (c_bindM (lo := lo) hr1 pd u M h2T g2 g5 g6 g7 hd hup (by omega) (by omega) (fun M1 b1 b2 b3 b4 b5 => ?_)))
          generalize hq1 : stl (if rk (tK t) = 4 then 5 else rk (tK t)) pd u = q at base hq b2 b3 b4 b5
          have hl1 := pd_len q.1
          have hq2T : ∀ k, k ∈ q.1 → okPd True k := fun k hk => okT k (hq.1 k hk)
          have hqn := hq.2.2.2.2.1
          have hqp := hq.2.2.2.1
          have k2' : M1 98 10 = (tS t : Int) := by rw [b1.2.2 10 (by decide) (by decide) (by decide)]; exact k2
          have p217 : ¬ (rk (tK t) = 4 ∧ topR q.1 = 4) → KW E mX11_signs (qI (fun r2 M3 => (iR r2) ∧ ((r2 ≠ 0 → (KW E mX11_sumRead (qI f) M3 25 [(0, pR 98)] [])) ∧ (r2 = 0 → f 0 M3)))) M1 217 [(0, pR 98), (1, pI (wcd True (tK t)))] [] := by
            intro nn
            rw [if_neg nn] at base
            refine vX11_signs_217 _ (c_isCounted (by rw [b1.2.2 45 (by decide) (by decide) (by decide)]; exact g4) h6 k2' (fun cc => ⟨⟨by decide, by decide⟩, fun _ => ?_, fun z => absurd z (by decide)⟩) (fun cc M' a1 a2 a3 => ⟨⟨by decide, by decide⟩, fun z => absurd rfl z, fun _ => ⟨⟨by decide, by decide⟩, fun z => absurd rfl z, fun _ => ?_⟩⟩))
            · rw [if_neg (by omega)] at base
              refine c_waitsFor (lw := True) (k := tK t) (pd := q.1) (by rw [hwc]; exact ⟨by omega, by omega⟩) (b2.of rfl rfl) (by omega) (fun M2 d1 d2 d3 d4 => ?_)
              have fin : ∀ v : Int, v = bI (decide (rk (tK t) ≤ 3)) → CV E mX11_token [pR 98] (upM (upM M2 98 46 1) 98 47 v) (fun M10 => (iR 1) ∧ (((1 : Int) ≠ 0 → (KW E mX11_sumRead (qI f) M10 25 [(0, pR 98)] [])) ∧ ((1 : Int) = 0 → f 0 M10))) := by
                intro v hv
                have qq : ∀ x, x ≠ 42 → x ≠ 45 → x ≠ 46 → x ≠ 47 → upM (upM M2 98 46 1) 98 47 v 98 x = M1 98 x := fun x x1 x2 x3 x4 => by
                  rw [upM_self, va_up_neq _ _ x4, upM_self, va_up_neq _ _ x3, d3 x x1, upM_self, va_up_neq _ _ x2]
                have cc2 : ∀ c, c ≠ 98 → c ≠ 119 → upM (upM M2 98 46 1) 98 47 v c = M1 c := fun c c1 c2 => by rw [upM_ne _ _ _ c1, upM_ne _ _ _ c1, d2 c c1 c2, upM_ne _ _ _ c1]
                refine CV_mono (fun M7 hz => ⟨⟨by decide, by decide⟩, fun _ => hz, fun z => absurd z (by decide)⟩) (adv _ (upM (upM M2 98 46 1) 98 47 v) base rfl ((((b1.1.tr (FrHG.u98 _ (by omega))).tr ⟨d1, d3 4 (by decide), d3 5 (by decide), d3 33 (by decide)⟩).tr (FrHG.u98 _ (by omega))).tr (FrHG.u98 _ (by omega))) ?_ ?_ (d4.of rfl rfl) ?_ ?_ ?_ ?_ ?_ rfl ?_)
                · rw [cc2 106 (by decide) (by decide), b1.2.1 106 (by decide) (by decide) (by decide)]
                · rw [qq 7 (by decide) (by decide) (by decide) (by decide), b1.2.2 7 (by decide) (by decide) (by decide)]; exact k3
                · rw [qq 44 (by decide) (by decide) (by decide) (by decide), b1.2.2 44 (by decide) (by decide) (by decide)]; exact g3
                · rw [upM_self, va_up_neq _ _ (by decide), upM_self, va_up_neq _ _ (by decide), d3 45 (by decide), upM_self, va_up_self]; show (cnt : Int) + 1 = ((cnt + 1 : Nat) : Int); omega
                · rw [qq 19 (by decide) (by decide) (by decide) (by decide)]; exact b3
                · exact b4.of (qq 43 (by decide) (by decide) (by decide) (by decide)) (cc2 120 (by decide) (by decide))
                · have eu : ∀ c, c ≠ 98 → c ≠ 119 → upH (upM (upM M2 98 46 1) 98 47 v) c = upH M1 c := fun c hc hc2 => by unfold upH; rw [cc2 c hc hc2]
                  rw [eu 116 (by decide) (by decide), eu 117 (by decide) (by decide), eu 118 (by decide) (by decide)]
                  exact b5
                · intro _
                  rw [upM_self, va_up_self]; exact hv
              refine c_standing hok ⟨⟨by omega, by omega⟩, fun c3 => fin 0 ?_, fun c3 => fin 1 ?_⟩
              · have hne3 : rk (tK t) ≠ 3 := fun e => by
                  rcases rk_ok z1 with z | z | z | z
                  · rw [z, rk10] at e; exact absurd e (by decide)
                  · rw [z, rk11] at e; exact absurd e (by decide)
                  · exact z2 z
                  · omega
                rw [decide_eq_false (by omega)]; rfl
              · rw [decide_eq_true (by omega)]; rfl
            · rw [if_pos cc] at base
              exact HE 2 (tS t) base M' (b1.1.1.tr a1) a2 a3
          refine c_standing hok ⟨⟨by omega, by omega⟩, fun c4 => p217 (fun z => c4 z.1), fun c4 => ?_⟩
          rw [b2.1]
          refine fun _ => ⟨fun z => p217 (fun w => ?_), fun z => fun _ => ⟨⟨by omega, by omega⟩, fun _ => ?_⟩⟩
          · have : q.1 = [] := by
              cases hz : q.1 with
              | nil => rfl
              | cons k p => rw [hz, List.length_cons] at z; omega
            rw [this] at w
            exact absurd w.2 (by decide)
          · cases hz : q.1 with
            | nil => rw [hz] at z; exact absurd z (by decide)
            | cons k p =>
              have hkT := hq2T k (by rw [hz]; exact List.mem_cons_self ..)
              rw [hz] at b2
              have h2' : SR (M1 119) (wcd True k :: p.map (wcd True)) := b2.2
              have htop := h2'.top
              rw [List.length_map] at htop
              rw [show (((k :: p).length : Int) - 1).toNat = p.length by rw [List.length_cons]; omega, htop]
              have hrb2 := rk_b k
              have htr : topR q.1 = rk k := by rw [hz]; rfl
              refine c_standing hkT ⟨⟨by omega, by omega⟩, fun d => p217 (fun w => d (by rw [← htr]; exact w.2)), fun d => ?_⟩
              rw [if_pos ⟨c4, by rw [htr]; exact d⟩] at base
              exact c_wrong (by decide) k2' (fun M' a1 a2 a3 => ⟨Or.inl rfl, ⟨by decide, by decide⟩, fun z => absurd rfl z, fun _ => HE 1 (tS t) base M' (b1.1.1.tr a1) a2 a3⟩)
        refine vX11_signs_147 _ ⟨by rw [hwc]; exact ⟨by omega, by omega⟩, fun _ => c_standing hok ⟨⟨by omega, by omega⟩, fun c4 => c_standing hok ?_, fun c4 => ?_⟩, fun z => by rw [hwc] at z; omega⟩
        · rw [if_neg c4] at p175; exact p175
        · rw [if_pos c4] at p175; exact p175
      refine vX11_signs_47 (c_isKey ⟨by decide, by decide⟩ (fun a1 a2 => ⟨⟨by decide, by decide⟩, fun z => absurd z (by decide), fun _ => ?_⟩) (fun a1 => ⟨⟨by decide, by decide⟩, fun _ => c_isKey ⟨by decide, by decide⟩ (fun b1 b2 => ⟨⟨by decide, by decide⟩, fun z => absurd z (by decide), fun _ => ?_⟩) (fun b1 => ⟨⟨by decide, by decide⟩, fun _ => ?_, fun z => absurd rfl z⟩), fun z => absurd rfl z⟩))
      · rw [hkd] at a1; rw [hwh] at a2
        have : tK t = 11 := (RK.ky k1' a1).1 a2
        exact go 3 (by rw [this]; decide) (by omega) (by rw [this]; decide)
      · rw [hkd] at b1; rw [hwh] at b2
        have : tK t = 10 := (RK.ky k1' b1).2.1 b2
        exact go 4 (by rw [this]; decide) (by omega) (by rw [this]; decide)
      · rw [hkd, hwh]
        refine fun _ => ⟨fun d1 => c_isSign ⟨by decide, by decide⟩ (fun e1 e2 => ⟨⟨by decide, by decide⟩, fun z => absurd z (by decide), fun _ => ?_⟩) (fun e1 => ⟨⟨by decide, by decide⟩, fun _ => c_isSign ⟨by decide, by decide⟩ (fun e2 e3 => ⟨⟨by decide, by decide⟩, fun z => absurd z (by decide), fun _ => ?_⟩) (fun e2 => ⟨⟨by decide, by decide⟩, fun _ => c_isSign ⟨by decide, by decide⟩ (fun e3 e4 => ⟨⟨by decide, by decide⟩, fun z => absurd z (by decide), fun _ => ?_⟩) (fun e3 => ⟨⟨by decide, by decide⟩, fun _ => c_isSign ⟨by decide, by decide⟩ (fun e4 e5 => ⟨⟨by decide, by decide⟩, fun z => absurd z (by decide), fun _ => ?_⟩) (fun e4 => ⟨⟨by decide, by decide⟩, fun _ => ?_, fun z => absurd rfl z⟩), fun z => absurd rfl z⟩), fun z => absurd rfl z⟩), fun z => absurd rfl z⟩), fun d1 => fun _ => ?_⟩
        · rw [hkd] at e1; rw [hwh] at e2
          have : tK t = 30 := (RK.sg k1' e1).2.2.2.1 e2
          exact go 11 (by rw [this]; decide) (by omega) (by rw [this]; decide)
        · rw [hkd] at e2; rw [hwh] at e3
          have : tK t = 31 := (RK.sg k1' e2).2.2.2.2.1 e3
          exact go 12 (by rw [this]; decide) (by omega) (by rw [this]; decide)
        · rw [hkd] at e3; rw [hwh] at e4
          have : tK t = 32 := (RK.sg k1' e3).2.2.2.2.2.1 e4
          exact go 13 (by rw [this]; decide) (by omega) (by rw [this]; decide)
        · rw [hkd] at e4; rw [hwh] at e5
          have : tK t = 33 := (RK.sg k1' e4).2.2.2.2.2.2 e5
          exact go 14 (by rw [this]; decide) (by omega) (by rw [this]; decide)
        · rw [hkd, hwh] at a1 b1 e1 e2 e3 e4
          exact bad (RK.bad k1' a1 b1 d1 e1 e2 e3 e4)
        · have hk := RK.cmp k1' d1
          clear hRK
          rcases hk with ⟨z, w⟩ | ⟨z, w⟩ | ⟨z, w⟩ | ⟨z, w⟩ | ⟨z, w⟩ | ⟨z, w⟩ <;> (rw [w]; exact go _ (by rw [z]; decide) (by omega) (by rw [z]; decide))
    have sg : ¬ (tK t = 24 ∧ op = 0) → CI E mX11_signs [pR 98] M (fun r2 M3 => (iR r2) ∧ ((r2 ≠ 0 → (KW E mX11_sumRead (qI f) M3 25 [(0, pR 98)] [])) ∧ (r2 = 0 → f 0 M3))) := by
      intro n24
      refine vX11_signs_0 (c_isSign ⟨by decide, by decide⟩ (fun e1 e2 => ⟨⟨by decide, by decide⟩, fun z => absurd z (by decide), fun _ => ?_⟩) (fun e1 => ⟨⟨by decide, by decide⟩, fun _ => sg47 n24 (fun z => by rw [hkd, hwh] at e1; exact e1 (kof.2.2.1 z.1)), fun z => absurd rfl z⟩))
      rw [g3]
      rw [hkd] at e1; rw [hwh] at e2
      have c26 : tK t = 26 := (RK.sg k1' e1).2.2.1 e2
      refine fun _ => ⟨fun c => sg47 n24 (fun z => by omega), fun c => ?_⟩
      have base : stepF bs L (-1) n nm ln (t, pd, op, cnt, u, lt, false) = Sum.inr (true, (tok bs L (tN t), (stl 1 pd u).1.tail, op - 1, cnt, (stl 1 pd u).2, lt, false)) := by
        unfold stepF
        rw [if_neg (show ¬ (false = true) by decide)]
        show (if tK t = 24 ∧ op = 0 then _ else if tK t = 26 ∧ 0 < op then _ else _) = _
        rw [if_neg n24, if_pos ⟨c26, by omega⟩]
      have hq := stl_ok (own := -1) (n := n) (ln := ln) (lw := (-1 : Int) < 0) (r := 1) (Int.le_refl _) pd u h2 h8 hd
      obtain ⟨q, eq⟩ := top25 hq.1 hq.2.2.2.2.2 (by rw [hq.2.2.2.1]; omega)
      refine vX11_bind_in _ (c_bindM (lo := lo) (by decide) pd u M h2T g2 g5 g6 g7 hd hup (by omega) (by omega) (fun M1 b1 b2 b3 b4 b5 => ?_))
      rw [eq] at b2
      have e42 : M1 98 42 = (q.length : Int) + 1 := by rw [b2.1, List.length_cons]; omega
      have hq2 := hq.2.2.2.2.1
      have hl1 := pd_len (stl 1 pd u).1
      rw [eq, List.length_cons] at hl1
      have hq3 := hq.2.2.2.1
      rw [eq] at hq2 hq3
      rw [e42, b1.2.2 44 (by decide) (by decide) (by decide), g3]
      refine fun _ => ⟨⟨by omega, by omega⟩, fun _ => ⟨⟨by omega, by omega⟩, ?_⟩⟩
      have qq : ∀ x, x ≠ 42 → x ≠ 44 → upM (upM M1 98 42 ((q.length : Int) + 1 - 1)) 98 44 ((op : Int) - 1) 98 x = M1 98 x := fun x x1 x2 => by rw [upM_self, va_up_neq _ _ x2, upM_self, va_up_neq _ _ x1]
      have cc2 : ∀ c, c ≠ 98 → upM (upM M1 98 42 ((q.length : Int) + 1 - 1)) 98 44 ((op : Int) - 1) c = M1 c := fun c c1 => by rw [upM_ne _ _ _ c1, upM_ne _ _ _ c1]
      refine CV_mono (fun M7 hz => ⟨⟨by decide, by decide⟩, fun _ => hz, fun z => absurd z (by decide)⟩) (adv _ _ base rfl ((b1.1.tr (FrHG.u98 _ (by omega))).tr (FrHG.u98 _ (by omega))) ?_ ?_ ?_ ?_ ?_ ?_ ?_ ?_ ?_ (fun z => by cases z))
      · rw [cc2 106 (by decide), b1.2.1 106 (by decide) (by decide) (by decide)]
      · rw [qq 7 (by decide) (by decide), b1.2.2 7 (by decide) (by decide) (by decide)]; exact k3
      · show WtM True (stl 1 pd u).1.tail _
        rw [eq]
        refine ⟨?_, ?_⟩
        · rw [upM_self, va_up_neq _ _ (by decide), upM_self, va_up_self]
          show (q.length : Int) + 1 - 1 = (q.length : Int)
          omega
        · rw [cc2 119 (by decide)]
          have h2' : SR (M1 119) (wcd True 25 :: q.map (wcd True)) := b2.2
          exact h2'.pop
      · rw [upM_self, va_up_self]
        show (op : Int) - 1 = ((op - 1 : Nat) : Int)
        omega
      · rw [qq 45 (by decide) (by decide), b1.2.2 45 (by decide) (by decide) (by decide)]; exact g4
      · rw [qq 19 (by decide) (by decide)]; exact b3
      · exact b4.of (qq 43 (by decide) (by decide)) (cc2 120 (by decide))
      · have eu : ∀ c, c ≠ 98 → upH (upM (upM M1 98 42 ((q.length : Int) + 1 - 1)) 98 44 ((op : Int) - 1)) c = upH M1 c := fun c hc => by unfold upH; rw [cc2 c hc]
        rw [eu 116 (by decide), eu 117 (by decide), eu 118 (by decide)]
        exact b5
      · rw [qq 46 (by decide) (by decide), b1.2.2 46 (by decide) (by decide) (by decide)]; exact g8
    have p48 : ¬ (tK t = 24 ∧ op = 0) → KW E mX11_sumRead (qI f) M 48 [(0, pR 98)] [] := by
      intro n24
      apply vX11_sumRead_48
      rw [e46]
      exact fun _ => ⟨fun _ => sg n24, fun z => absurd rfl z⟩
    refine vX11_sumRead_25 (c_isSign ⟨by decide, by decide⟩ (fun e1 e2 => ⟨⟨by decide, by decide⟩, fun z => absurd z (by decide), fun _ => ?_⟩) (fun e1 => ⟨⟨by decide, by decide⟩, fun _ => p48 (fun z => by rw [hkd, hwh] at e1; exact e1 (kof.1 z.1)), fun z => absurd rfl z⟩))
    rw [e46, g3]
    refine fun _ => ⟨fun z => absurd rfl z, fun _ _ => ⟨fun c => ?_, fun c => p48 (fun z => by omega)⟩⟩
    rw [hkd] at e1; rw [hwh] at e2
    have c24 : tK t = 24 := (RK.sg k1' e1).1 e2
    have base : stepF bs L (-1) n nm ln (t, pd, op, cnt, u, lt, false) = Sum.inr (false, (t, (stl 1 pd u).1, op, cnt, (stl 1 pd u).2, lt, false)) := by
      unfold stepF
      rw [if_neg (show ¬ (false = true) by decide)]
      show (if tK t = 24 ∧ op = 0 then _ else _) = _
      rw [if_pos ⟨c24, by omega⟩]
    refine vX11_bind_in _ (c_bindM (lo := lo) (by decide) pd u M h2T g2 g5 g6 g7 hd hup (by omega) (by omega) (fun M1 b1 b2 b3 b4 b5 => ?_))
    refine HD _ base M1 b1.1 (b1.2.1 106 (by decide) (by decide) (by decide)) ⟨g1.of (fun q q1 q2 => b1.2.2 q (by omega) (by omega) (by omega)), b2, ?_, ?_, b3, b4, b5, ?_, fun z => by cases z⟩
    · rw [b1.2.2 44 (by decide) (by decide) (by decide)]; exact g3
    · rw [b1.2.2 45 (by decide) (by decide) (by decide)]; exact g4
    · rw [b1.2.2 46 (by decide) (by decide) (by decide)]; exact g8
theorem c_sumL {f : Int → Mem → Prop} {M0 : Mem} (hn : n ≤ 8) (hlo : lo ≤ base) (hT : TPm bs L M0) : ∀ (j : Nat) (s : FS) (M : Mem), FI L (-1) n ln base s → L < tS (fT s) + j → FrHG M0 M → M 106 = M0 106 → RW lo s M →
    (∀ w pl, fml bs L (-1) n nm ln j s = Sum.inl (w, pl) → ∀ M', FrH M0 M' → M' 98 4 = w → M' 98 5 = (pl : Int) → f 0 M') →
    (∀ s', fml bs L (-1) n nm ln j s = Sum.inr s' → FI L (-1) n ln base s' → (fP s' = [] ∧ fW s' = false ∧ tK (fT s') = 24) → ∀ M', FrHG M0 M' → M' 106 = M0 106 → RW lo s' M' → f 1 M') →
    KW E mX11_sumRead (qI f) M 25 [(0, pR 98)] [] := by
  intro j
  induction j with
  | zero => intro s M hI hj; have := hI.1.1; omega
  | succ j ih =>
    intro s M hI hj hG h106 hR HE HD
    refine c_sumStep (nm := nm) hI hlo (hG.1.tp hT) hR (fun w pl es M' a1 a2 a3 => HE w pl ?_ M' (hG.1.tr a1) a2 a3) (fun s' es M' a1 a2 a3 => ?_) (fun s' es M' a1 a2 a3 => ?_)
    · simp only [fml]; rw [es]
    · have hs := hI.step hn (by omega) es
      refine HD s' ?_ hs.1 ⟨(hs.2.2 rfl).1, (hs.2.2 rfl).2.1, (hs.2.2 rfl).2.2.2.1⟩ M' (hG.tr a1) (a2.trans h106) a3
      simp only [fml]; rw [es]
    · have hs := hI.step hn (by omega) es
      have hs1 := hs.2.1 rfl
      have e : fml bs L (-1) n nm ln (j + 1) s = fml bs L (-1) n nm ln j s' := by simp only [fml]; rw [es]
      rw [e] at HE HD
      exact ih s' M' hs.1 (by omega) (hG.tr a1) (a2.trans h106) a3 HE HD
end SUMM
