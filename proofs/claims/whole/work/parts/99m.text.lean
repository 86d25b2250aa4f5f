/-! text on both sides -/
theorem rnM_cong {kn kn' pa pa' ot ot' env : Nat → Int} : ∀ (j i : Nat) (vs : Nat → Int), (∀ q, i ≤ q → q < i + j → kn' q = kn q ∧ pa' q = pa q ∧ ot' q = ot q) → rnM kn' pa' ot' env j i vs = rnM kn pa ot env j i vs := by
  intro j
  induction j with
  | zero => intro i vs _; rfl
  | succ j ih =>
    intro i vs h
    obtain ⟨h1, h2, h3⟩ := h i (Nat.le_refl _) (by omega)
    simp only [rnM]
    rw [h1, h2, h3]
    cases ndM (kn i) (pa i) (ot i) env vs with
    | none => rfl
    | some v9 => exact ih (i + 1) _ (fun q q1 q2 => h q (by omega) (by omega))
theorem LwM.low {law : Lw} {M M' : Mem} (h : LwM law M) (hl : ∀ a i, (113 ≤ a ∧ a ≤ 115 ∧ i < 3) ∨ (116 ≤ a ∧ a ≤ 118 ∧ i < 64) → M' a i = M a i) : LwM law M' := by
  intro k hk
  rcases h k hk with ⟨h1, h2⟩ | ⟨h1, lo, hi, h2, h3, h4, h5, h6, h7⟩
  · exact Or.inl ⟨by rw [hl 113 k (by omega)]; exact h1, h2⟩
  · refine Or.inr ⟨by rw [hl 113 k (by omega)]; exact h1, lo, hi, h2, h3, by rw [hl 114 k (by omega)]; exact h4, by rw [hl 115 k (by omega)]; exact h5, fun q q1 q2 => ?_, fun env vs0 => ?_⟩
    · rw [hl 116 q (by omega), hl 117 q (by omega), hl 118 q (by omega)]; exact h6 q q1 q2
    · rw [rnM_cong (kn := M 116) (pa := M 117) (ot := M 118) (hi - lo) lo vs0 (fun q q1 q2 => ⟨hl 116 q (by omega), hl 117 q (by omega), hl 118 q (by omega)⟩)]
      exact h7 env vs0
section TEXTB
variable {E : Scr} {z : ZT} {s : PSt} {y : YS} {no : NS}
theorem IC.tape {M M' : Mem} {w pl : Int} (h : IC z s M) (hF : ∀ a, 21 ≤ a → a ≤ 33 → M' a = M a) (h4 : M' 4 = M 4) (h2 : M' 2 2 = 0) (h9 : M' 1 9 = w) (h10 : M' 1 10 = pl) : IC (z.1, 0, w, pl) s M' := by
  obtain ⟨⟨-, -, t3⟩, -, c3, c4, c5, c6, c7, c8⟩ := h
  refine ⟨⟨h2, fun i hi => absurd hi (Nat.not_lt_zero _), fun q hq => by rw [h4]; exact t3 q hq⟩, ⟨h9, h10⟩, ?_, ?_, fun l hl => ?_, ?_, ?_, ?_⟩
  · unfold CD LwC at c3 ⊢
    rw [hF 21 (by decide) (by decide), hF 26 (by decide) (by decide), hF 30 (by decide) (by decide), hF 32 (by decide) (by decide), hF 33 (by decide) (by decide)]; exact c3
  · unfold PC at c4 ⊢
    rw [hF 21 (by decide) (by decide), hF 27 (by decide) (by decide), hF 28 (by decide) (by decide), hF 29 (by decide) (by decide)]; exact c4
  · rw [hF 22 (by decide) (by decide)]; exact c5 l hl
  · rw [hF 21 (by decide) (by decide)]; exact c6
  · rw [hF 21 (by decide) (by decide)]; exact c7
  · rw [hF 31 (by decide) (by decide)]; exact c8
theorem IM.tape {M M' : Mem} {w pl : Int} {n0 : Nat} (h : IM z s M) (hn : sN s ≤ 8) (hp : wfP (sN s) (poOf s)) (hF : FrRt M M') (h1 : M' 98 1 = 0) (h4 : M' 98 4 = w) (h5 : M' 98 5 = pl) : IM (z.1, 0, w, pl) s M' := by
  obtain ⟨⟨-, -, t3⟩, -, ⟨d1, d2, d3, d4, d5, d6⟩, ⟨p1, p2, p3, p4⟩, c5, c6, c7⟩ := h
  have k98 : ∀ k, 12 ≤ k → k ≤ 15 → M' 98 k = M 98 k := fun k k1 k2 => hF.2.2 k (by omega) (by omega) (by omega) (by omega) (by omega)
  refine ⟨⟨h1, fun i hi => absurd hi (Nat.not_lt_zero _), fun q hq => by rw [hF.1 100 (by decide) (by decide)]; exact t3 q hq⟩, ⟨h4, h5⟩, ⟨?_, d2, ?_, ?_, ?_, d6⟩, ⟨?_, fun k hk => ?_, ?_, fun k hk => ?_⟩, fun l hl => ?_, fun l hl => ?_, ?_⟩
  · rw [k98 12 (by decide) (by decide)]; exact d1
  · rw [hF.1 123 (by decide) (by decide)]; exact d3
  · exact d4.low (fun a i hl => hF.2.1 a i (by unfold lowH; omega))
  · rw [hF.2.1 102 0 (by unfold lowH; omega)]; exact d5
  · rw [k98 13 (by decide) (by decide)]; exact p1
  · have := hp.1
    rw [hF.2.1 107 k (by unfold lowH; omega), hF.2.1 108 k (by unfold lowH; omega)]; exact p2 k hk
  · rw [k98 14 (by decide) (by decide)]; exact p3
  · have := hp.2.2.1
    rw [hF.2.1 109 k (by unfold lowH; omega)]; exact p4 k hk
  · rw [hF.2.1 103 l (by unfold lowH; omega)]; exact c5 l hl
  · rw [hF.2.1 105 l (by unfold lowH; omega)]; exact c6 l hl
  · rw [k98 15 (by decide) (by decide)]; exact c7
theorem getD_of {α : Type} {l : List α} {k : Nat} {d : α} (h : k < l.length) : l[k]? = some (l.getD k d) := by
  rw [List.getD_eq_getElem?_getD, List.getElem?_eq_getElem h]; rfl
theorem wf_po {L : Nat} (hI : PI L s) : wfP (sN s) (poOf s) := by
  obtain ⟨-, -, -, ⟨h1, h2⟩, -, -, -, -, -, h3, h4, -⟩ := hI
  refine ⟨h1, fun k hk => ?_, h2, fun k hk => ?_⟩
  · exact h3 _ (List.mem_of_getElem? (getD_of (d := (0, 0)) hk))
  · exact h4 _ (List.mem_of_getElem? (getD_of (d := 0) hk))
theorem wf_y0 {L : Nat} (hI : PI L s) : wfY (sN s) (y0 s) :=
  ⟨⟨wf_d0 hI, ⟨Int.le_refl _, (by decide : (0 : Int) ≤ 32 * 0)⟩, (by decide : (0 : Int) ≤ 9000), fun _ _ _ => rfl⟩, ⟨Nat.zero_le _, fun i hi => absurd hi (Nat.not_lt_zero _)⟩, fun q => absurd (show false = true from q) (by decide)⟩
theorem wf_n0 {n : Nat} : wfNo n n0 := ⟨Nat.zero_le _, ⟨Int.le_refl _, (by decide : (-1 : Int) ≤ 0)⟩, fun i hi => absurd hi (Nat.not_lt_zero _)⟩
/-- the reference's own half, behind a text that was read -/
theorem ref_new {L : Nat} {r : PSt} {M6 M7 M8 M9 : Mem} {bs : BF} (hI : PI L r) (hw : ∀ i, i < 116 → M6 100 i = (rwN i : Int)) (h1 : M6 98 1 = 0) (h4 : M6 98 4 = 0) (h5 : M6 98 5 = -1) (k1 : FrKp M6 M7) (k2 : KpM r M7) (f4 : Fr4 M7 M8) (tb : ∀ x, x < 2 ^ sN r → M8 123 x = (mayP r x : Int) ∧ mayP r x < 2 ^ sN r) (fb : FrBg M8 M9) (hy : YM (y0 r) M9) (hno : NM n0 M9) : Rf (bs, 0, 0, -1) r (y0 r) n0 M9 := by
  have hn : sN r ≤ 8 := hI.2.1.1
  have hrs := hI.2.2.2.2.1
  have c9 : ∀ a, a ≠ 98 → a ≠ 123 → a ≠ 124 → ¬ (125 ≤ a ∧ a ≤ 130) → M9 a = M7 a := fun a a1 a2 a3 a4 => by rw [fb.1 a a1 a4, f4 a a2 a3]
  have k9 : ∀ k, k < 59 → M9 98 k = M7 98 k := fun k hk => by rw [fb.2 k (by omega) (by omega), f4 98 (by decide) (by decide)]
  obtain ⟨⟨q12, q13, q14, q15, q32⟩, ⟨q1020, q1021⟩, q103, q104, q105, q106, q107, q109, qlf, qlw⟩ := id k2
  refine ⟨⟨⟨?_, fun i hi => absurd hi (Nat.not_lt_zero _), fun i hi => ?_⟩, ⟨?_, ?_⟩, ⟨?_, hn, ?_, ?_, ?_, hrs.1, hrs.2.1⟩, ⟨?_, fun k hk => ?_, ?_, fun k hk => ?_⟩, fun l hl => ?_, fun l hl => ?_, ?_⟩, hy, hno⟩
  · rw [k9 1 (by decide), k1.2 1 (by decide) (by decide)]; exact h1
  · rw [c9 100 (by decide) (by decide) (by decide) (by decide), k1.1 100 (by decide) (by decide)]; exact hw i hi
  · rw [k9 4 (by decide), k1.2 4 (by decide) (by decide)]; exact h4
  · rw [k9 5 (by decide), k1.2 5 (by decide) (by decide)]; exact h5
  · rw [k9 12 (by decide)]; exact q12
  · intro x hx; rw [fb.1 123 (by decide) (by decide)]; exact tb x hx
  · refine LwM.low (lawO_M hI k2) (fun a i hl => ?_)
    rw [c9 a (by omega) (by omega) (by omega) (by omega)]
  · rw [c9 102 (by decide) (by decide) (by decide) (by decide)]; exact q1020
  · rw [k9 13 (by decide)]; exact q13
  · rw [c9 107 (by decide) (by decide) (by decide) (by decide), c9 108 (by decide) (by decide) (by decide) (by decide)]
    exact q107 k _ _ (getD_of (d := (0, 0)) hk)
  · rw [k9 14 (by decide)]; exact q14
  · rw [c9 109 (by decide) (by decide) (by decide) (by decide)]
    exact q109 k _ (getD_of (d := 0) hk)
  · rw [c9 103 (by decide) (by decide) (by decide) (by decide)]; exact q103 l hl
  · rw [c9 105 (by decide) (by decide) (by decide) (by decide)]
    have := q105 l hl
    by_cases c : (sLn r).testBit l = true
    · rw [if_pos c] at this ⊢; rw [this.1]; omega
    · rw [if_neg c] at this ⊢; exact this
  · rw [k9 15 (by decide)]; exact q15
/-- the class's own half -/
theorem cls_new {L : Nat} {r : PSt} {M M1 M3 M5 : Mem} {bs : BF} (hI : PI L r) (hw : ∀ w, w < 24 → M 4 w = (wcN w : Int)) (hX : FrX M M1) (h9 : M1 1 9 = 0) (h10 : M1 1 10 = -1) (hP : PrC bs L r M1) (tb : ∀ x, x < 2 ^ sN r → M1 10 x = (mayP r x : Int) ∧ mayP r x < 2 ^ sN r) (f3 : ∀ a, a ≠ 36 → a ≠ 37 → M3 a = upM M1 2 2 0 (swD a)) (hv : vC 36 (d0 r) M3) (h5 : M5 = upM (upM (upM (upM (upM M3 93 4 0) 93 5 (-1)) 44 5 0) 44 6 0) 0 5 0) : IC (bs, 0, 0, -1) r M5 ∧ YC (y0 r) M5 ∧ NC n0 M5 := by
  obtain ⟨hTP, hTC, ⟨m1, m2, m3, m4, m5⟩, hU, hLt, ⟨l1, l2⟩, ⟨p1, p2⟩, ⟨o1, o2⟩, ⟨r1, r2, r3, r4⟩, hWf, hKA, hC⟩ := id hP
  have hrs := hI.2.2.2.2.1
  have c5 : ∀ a, a ≠ 0 → a ≠ 44 → a ≠ 93 → M5 a = M3 a := fun a a1 a2 a3 => by rw [h5, upM_ne _ _ _ a1, upM_ne _ _ _ a2, upM_ne _ _ _ a2, upM_ne _ _ _ a3, upM_ne _ _ _ a3]
  have lo : ∀ a, a < 5 → a ≠ 0 → a ≠ 2 → M5 a = M1 a := fun a a1 a2 a3 => by rw [c5 a a2 (by omega) (by omega), f3 a (by omega) (by omega), swD_o (by omega), upM_ne _ _ _ a3]
  have dr : ∀ a, 5 ≤ a → a ≤ 19 → M5 (a + 16) = M1 a := fun a a1 a2 => by
    have e : swD (a + 16) = a := by unfold swD; rw [if_neg (by omega), if_pos (by omega)]; omega
    rw [c5 (a + 16) (by omega) (by omega) (by omega), f3 (a + 16) (by omega) (by omega), e, upM_ne _ _ _ (by omega)]
  have d21 : M5 21 = M1 5 := dr 5 (by decide) (by decide)
  refine ⟨⟨⟨?_, fun i hi => absurd hi (Nat.not_lt_zero _), fun w hq => ?_⟩, ⟨?_, ?_⟩, ⟨?_, hI.2.1.1, ?_, ?_, ?_, hrs.1, hrs.2.1⟩, ⟨?_, fun k hk => ?_, ?_, fun k hk => ?_⟩, fun l hl => ?_, ?_, ?_, ?_⟩, ⟨?_, ⟨Nat.zero_le _, 0, by decide, ?_, ?_, fun i hi => absurd hi (Nat.not_lt_zero _)⟩, ?_, fun q => absurd (show false = true from q) (by decide)⟩, ⟨?_, ?_, fun i hi => absurd hi (Nat.not_lt_zero _)⟩⟩
  · rw [c5 2 (by decide) (by decide) (by decide), f3 2 (by decide) (by decide), swD_o (by decide)]; rfl
  · rw [lo 4 (by decide) (by decide) (by decide), hX.1 4 (by decide) (by decide)]; exact hw w hq
  · rw [lo 1 (by decide) (by decide) (by decide)]; exact h9
  · rw [lo 1 (by decide) (by decide) (by decide)]; exact h10
  · rw [d21]; exact m1
  · intro x hx; rw [show M5 26 = M1 10 from dr 10 (by decide) (by decide)]; exact tb x hx
  · exact lawO_C hI hP (dr 14 (by decide) (by decide)) (dr 16 (by decide) (by decide)) (dr 17 (by decide) (by decide))
  · rw [d21]; exact r1
  · rw [d21]; exact p1
  · rw [show M5 27 = M1 11 from dr 11 (by decide) (by decide), show M5 28 = M1 12 from dr 12 (by decide) (by decide)]
    exact p2 k _ _ (getD_of (d := (0, 0)) hk)
  · rw [d21]; exact o1
  · rw [show M5 29 = M1 13 from dr 13 (by decide) (by decide)]
    exact o2 k _ (getD_of (d := 0) hk)
  · rw [show M5 22 = M1 6 from dr 6 (by decide) (by decide)]; exact m3 l hl
  · rw [d21]; exact m4
  · rw [d21]; exact l1
  · rw [show M5 31 = M1 15 from dr 15 (by decide) (by decide), hKA.1, hI.2.2.2.2.2.1.1]
  · exact hv.of (c5 36 (by decide) (by decide) (by decide)) (c5 37 (by decide) (by decide) (by decide))
  · rw [h5]; rfl
  · rw [h5]; rfl
  · rw [h5]; rfl
  · rw [h5]; rfl
  · rw [h5]; rfl
theorem b_text {M : Mem} {P : Mem → Prop} {x : Int} (hx : iR x) (h : Inv z s y no M) (H : ∀ z' s' y' no' M', Inv z' s' y' no' M' → P M') :
    MW E mX10_text Sd (QL (qI (fun r M1 => CI E mX11_text [pR 98, pI x] M1 (fun r' M2 => r' = r ∧ P M2)))) T0 R0 M 0 0 0 [(0, pR 0), (1, pI x)] [] := by
  obtain ⟨⟨t1, t2, t3⟩, -⟩ := id h.2.1.1
  obtain ⟨⟨u1, u2, u3⟩, -⟩ := id h.2.2.1
  obtain ⟨hz1, hz2⟩ := h.1.1
  refine c_textC hx t1 (fun c => ?_) (fun c1 c2 => ?_)
  · apply vX11_text_0
    rw [u1]
    exact ⟨hx, fun _ => ⟨rfl, H _ _ _ _ _ h.u2⟩, fun c1 _ => ⟨hx, fun c3 => absurd c (by omega), fun _ => ⟨rfl, H _ _ _ _ _ h.u2⟩⟩⟩
  obtain ⟨L, rfl⟩ : ∃ L : Nat, x = (L : Int) := ⟨x.toNat, by omega⟩
  have hL : L ≤ z.2.1 := by omega
  refine c_readsT (bs := z.1) t1 hL hz1 (fun i hi => ⟨t2 i (by omega), hz2 i (by omega)⟩) t3 (fun w pl e M1 hX h9 h10 => ?_) (fun r m e hI M1 hX h9 h10 h50 hP tb => ?_)
  · refine ⟨⟨by decide, by decide⟩, fun _ => ?_, fun q => absurd rfl q⟩
    have cc : ∀ a, 20 < a ∨ a = 0 ∨ a = 3 ∨ a = 4 → upM M1 2 2 0 a = M a := fun a ha => by rw [upM_ne _ _ _ (by omega), hX.1 a (by omega) (by omega)]
    refine c_textM (bs := z.1) (sz := z.2.1) (by rw [cc 98 (by decide)]; exact u1) hL hz1 (fun i hi => ⟨by rw [cc 99 (by decide)]; exact u2 i (by omega), hz2 i (by omega)⟩) (fun i hi => by rw [cc 100 (by decide)]; exact u3 i hi) (fun w' pl' e' M3 f3 g1 g2 g4 g5 => ?_) (fun r' m' e' => absurd (e.symm.trans e') (by simp))
    have e9 := Sum.inl.inj (e.symm.trans e')
    have ew : w = w' := congrArg Prod.fst e9
    have ep : pl = pl' := congrArg Prod.snd e9
    subst ew; subst ep
    obtain ⟨L9, hI9⟩ := h.1.2.1
    have lo : ∀ a, a < 98 → M3 a = upM M1 2 2 0 a := fun a ha => f3.1 a (by omega) (by omega)
    refine ⟨rfl, H (z.1, 0, w, (pl : Int)) s y no M3 ⟨⟨⟨Nat.zero_le _, fun i hi => absurd hi (Nat.not_lt_zero _)⟩, h.1.2⟩, ⟨?_, ?_, ?_⟩, ?_, ?_, ?_⟩⟩
    · refine h.2.1.1.tape (fun a a1 a2 => by rw [lo a (by omega), cc a (by omega)]) (by rw [lo 4 (by decide), cc 4 (by decide)]) (by rw [lo 2 (by decide)]; rfl) ?_ ?_
      · rw [lo 1 (by decide), upM_ne _ _ _ (by decide)]; exact h9
      · rw [lo 1 (by decide), upM_ne _ _ _ (by decide)]; exact h10
    · exact h.2.1.2.1.of (fun a ha => by rw [lo a (by omega), cc a (by omega)])
    · exact h.2.1.2.2.of (fun a a1 a2 => by rw [lo a (by omega), cc a (by omega)])
    · have hIM : IM z s (upM M1 2 2 0) := h.2.2.1.of (fun a ha => cc a (by omega)) (fun k _ => by rw [cc 98 (by decide)])
      exact hIM.tape (n0 := 0) hI9.2.1.1 h.1.2.2.2.2.2.1 f3 g1 g4 g5
    · exact h.2.2.2.1.ofK (fun a ha => by rw [f3.1 a (by omega) (by omega), cc a (by omega)]) (fun k hk => by rw [f3.2.2 k (by omega) (by omega) (by omega) (by omega) (by omega), cc 98 (by decide)])
    · exact h.2.2.2.2.of (by rw [f3.1 140 (by decide) (by decide), cc 140 (by decide)]) (by rw [f3.2.2 76 (by decide) (by decide) (by decide) (by decide) (by decide), cc 98 (by decide)]) (by rw [f3.2.2 77 (by decide) (by decide) (by decide) (by decide) (by decide), cc 98 (by decide)])
  · refine ⟨⟨by decide, by decide⟩, fun q => absurd q (by decide), fun _ M2 h2 => ?_⟩
    have d21 : M2 21 = M1 5 := by rw [h2, show swD 21 = 5 from by decide, upM_ne _ _ _ (by decide)]
    refine c_beginC (s := r) (by rw [d21]; exact hP.2.2.2.1) (by rw [d21]; exact hP.2.2.2.2.2.2.2.2.1.2.1) (fun M3 f3 hv => ?_)
    rw [f3 21 (by decide) (by decide), d21, h50]
    generalize h5 : upM (upM (upM (upM (upM M3 93 4 0) 93 5 (-1)) 44 5 0) 44 6 0) 0 5 0 = M5
    have hi : ∀ a, 98 ≤ a → M5 a = M a := fun a ha => by
      rw [← h5, upM_ne _ _ _ (by omega), upM_ne _ _ _ (by omega), upM_ne _ _ _ (by omega), upM_ne _ _ _ (by omega), upM_ne _ _ _ (by omega), f3 a (by omega) (by omega), h2, swD_o (by omega), upM_ne _ _ _ (by omega), hX.1 a (by omega) (by omega)]
    refine c_textM (bs := z.1) (sz := z.2.1) (by rw [hi 98 (by decide)]; exact u1) hL hz1 (fun i hi9 => ⟨by rw [hi 99 (by decide)]; exact u2 i (by omega), hz2 i (by omega)⟩) (fun i hi9 => by rw [hi 100 (by decide)]; exact u3 i hi9) (fun w' pl' e' => absurd (e.symm.trans e') (by simp)) (fun r' m' e' hI' M6 f6 g1 g2 g4 g5 hPM => ?_)
    have e9 := Sum.inr.inj (e.symm.trans e')
    have er : r = r' := congrArg Prod.fst e9
    have em : m = m' := congrArg Prod.snd e9
    subst er; subst em
    have hJ := (txt_PJ _ _ _ _ _ PI.zero PJ.zero e).2
    have hK := txt_PK _ _ _ _ _ PK.zero e
    refine c_keep hI hPM (fun M7 k1 k2 => c_layMay hI hK k2 (fun M8 f4 tb8 => ?_))
    have c87 : ∀ a, a ≠ 123 → a ≠ 124 → M8 a = M7 a := fun a a1 a2 => f4 a a1 a2
    refine c_beginM hI (by rw [c87 98 (by decide) (by decide)]; exact k2.1.1) (fun l hl => by rw [c87 104 (by decide) (by decide)]; exact k2.2.2.2.1 l hl) (by rw [c87 102 (by decide) (by decide)]; exact k2.2.1.2) (fun M9 fb hy9 hn9 _ => ?_)
    have lo : ∀ a, a < 98 → M9 a = M5 a := fun a ha => by rw [fb.1 a (by omega) (by omega), f4 a (by omega) (by omega), k1.1 a (by omega) (by omega), f6.1 a (by omega) (by omega)]
    have hcl := cls_new (bs := z.1) hI t3 hX h9 h10 hP tb (fun a a1 a2 => by rw [f3 a a1 a2, h2]) hv h5.symm
    exact ⟨rfl, H (z.1, 0, 0, -1) r (y0 r) n0 M9 ⟨⟨⟨Nat.zero_le _, fun i hi => absurd hi (Nat.not_lt_zero _)⟩, ⟨L, hI⟩, mayP_sym hI hJ, mayP_free hI, lawO_B hI, wf_po hI, wf_y0 hI, wf_n0⟩, Inv.ref hcl lo, ref_new (bs := z.1) hI (fun i hi9 => by rw [f6.1 100 (by decide) (by decide), hi 100 (by decide)]; exact u3 i hi9) g1 g4 g5 k1 k2 f4 tb8 fb hy9 hn9⟩⟩
end TEXTB
