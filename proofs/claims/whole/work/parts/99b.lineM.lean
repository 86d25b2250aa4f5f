section LINESM4
variable {E : Scr} {bs : BF} {L : Nat} {s : PSt}
/-- one whole line in the reference -/
theorem c_lineM {f : Int → Mem → Prop} {M : Mem} (hI : PI L s) (h39 : tK (sT s) ≠ 39) (h : PMr bs L s M)
    (HE : ∀ w pl, lineE bs L s = Sum.inl (w, pl) → ∀ M', FrRm M M' → M' 98 4 = w → M' 98 5 = (pl : Int) → f 0 M')
    (HO : ∀ r, lineE bs L s = Sum.inr r → ∀ M', FrRm M M' → M' 98 4 = M 98 4 → M' 98 5 = M 98 5 → PMr bs L r M' → f 1 M') : CI E mX11_lineRead [pR 98] M f := by
  obtain ⟨hTk, ⟨hn, hu⟩, ⟨hln, hlt, hlo, hll⟩, hps, hrs, ⟨hal, hal2, hal3⟩, h7, h8, h9, -⟩ := id hI
  have bad : ∀ w pl, lineP bs L s = Sum.inl (w, pl) → lineE bs L s = Sum.inl (w, pl) := fun w pl e => by unfold lineE; rw [e]
  have fin0 : ∀ M', f 0 M' → KW E mX11_lineRead (qI f) M' 215 [(0, pR 98), (1, pI 0)] [] := fun M' z => vX11_lineRead_215 _ ⟨⟨by decide, by decide⟩, fun y => absurd rfl y, fun _ => z⟩
  have fin1 : ∀ r, lineP bs L s = Sum.inr r → ∀ M', FrRm M M' → M' 98 4 = M 98 4 → M' 98 5 = M 98 5 → PMr bs L r M' → KW E mX11_lineRead (qI f) M' 215 [(0, pR 98), (1, pI 1)] [] := by
    intro r e M' a1 a2 a3 a4
    have hr := hI.line h39 e
    have hk : RK (sT r) (M' 98 8) (M' 98 9) := a4.2.1.1
    refine vX11_lineRead_215 _ ⟨⟨by decide, by decide⟩, fun _ => ?_, fun z => absurd z (by decide)⟩
    refine c_isSign ⟨by decide, by decide⟩ (fun k1 k2 => ⟨⟨by decide, by decide⟩, fun _ => ?_, fun z => absurd z (by decide)⟩) (fun k1 => ⟨⟨by decide, by decide⟩, fun z => absurd rfl z, fun _ => ?_⟩)
    · have h24 := (hk.sg k1).1 k2
      refine c_tokP hr.1.1 a4 (fun M2 d1 d2 d3 => HO _ ?_ M2 (a1.tr d1.toH.toRm) (by rw [d1.2 4 (by decide)]; exact a2) (by rw [d1.2 5 (by decide)]; exact a3) d3)
      unfold lineE; rw [e]; simp only; rw [if_pos h24]
    · refine c_wrong (by decide) a4.2.1.2.1 (fun M2 d1 d2 d3 => ⟨Or.inl rfl, HE 1 (tS (sT r)) ?_ M2 (a1.tr d1.toRm) d2 d3⟩)
      unfold lineE; rw [e]; simp only; rw [if_neg (fun z => k1 (hk.of.1 z))]
  have finN : ∀ t : Tk, lineP bs L s = Sum.inl (1, tS t) → tK t ≠ 24 → ∀ M', FrRm M M' → TM t M' → KW E mX11_lineRead (qI f) M' 215 [(0, pR 98), (1, pI 1)] [] := by
    intro t e h24 M' a1 a2
    refine vX11_lineRead_215 _ ⟨⟨by decide, by decide⟩, fun _ => ?_, fun z => absurd z (by decide)⟩
    refine c_isSign ⟨by decide, by decide⟩ (fun k1 k2 => absurd ((a2.1.sg k1).1 k2) h24) (fun k1 => ⟨⟨by decide, by decide⟩, fun z => absurd rfl z, fun _ => ?_⟩)
    exact c_wrong (by decide) a2.2.1 (fun M2 d1 d2 d3 => ⟨Or.inl rfl, HE 1 (tS t) (bad 1 _ e) M2 (a1.tr d1.toRm) d2 d3⟩)
  have hk0 : RK (sT s) (M 98 8) (M 98 9) := h.2.1.1
  have hkk := hk0.k1
  have wr1 : ∀ (c : ¬ (0 ≤ tK (sT s) ∧ tK (sT s) ≤ 6)), CI E mX11_wrong [pR 98, pI 1] M (fun r2 M3 => (zR r2) ∧ f r2 M3) := by
    intro c
    refine c_wrong (by decide) h.2.1.2.1 (fun M2 d1 d2 d3 => ⟨Or.inl rfl, HE 1 (tS (sT s)) (bad _ _ ?_) M2 d1.toRm d2 d3⟩)
    unfold lineP
    rw [if_neg (by omega), if_neg (by omega), if_neg (by omega), if_neg (by omega), if_neg (by omega), if_neg (by omega), if_neg (by omega)]
  have hkr := hTk.2.2.2.1
  apply vX11_lineRead_0
  refine fun _ => ⟨fun c => wr1 (fun z => c (hkk.1 ⟨z.1, by omega⟩).1), fun c1 _ => ⟨fun c6 _ => ?_, fun c6 => wr1 (fun z => by have := (hkk.1 ⟨z.1, by omega⟩).2; omega)⟩⟩
  have hw := (hkk.2.1 c1 (by omega)).2
  rw [hw]
  unfold lineP at bad fin1 finN
  refine ⟨fun c => ?_, fun c => ?_, fun c => ?_, fun c => ?_, fun c => ?_, fun c => ?_, fun c => ?_⟩
  · rw [if_pos c] at bad fin1 finN
    exact c_lineM_latch hI h (fun w pl e M' a1 a2 a3 => fin0 M' (HE w pl (bad w pl e) M' a1 a2 a3)) (fun r e M' a1 a2 a3 a4 => fin1 r e M' a1 a2 a3 a4)
  · rw [if_neg (by omega), if_pos c] at bad fin1 finN
    exact c_lineM_lean hI h (fun w pl e M' a1 a2 a3 => fin0 M' (HE w pl (bad w pl e) M' a1 a2 a3)) (fun r e M' a1 a2 a3 a4 => fin1 r e M' a1 a2 a3 a4) finN
  · rw [if_neg (by omega), if_neg (by omega), if_pos c] at bad fin1 finN
    exact c_lineM_push hI h (fun w pl e M' a1 a2 a3 => fin0 M' (HE w pl (bad w pl e) M' a1 a2 a3)) (fun r e M' a1 a2 a3 a4 => fin1 r e M' a1 a2 a3 a4)
  · rw [if_neg (by omega), if_neg (by omega), if_neg (by omega), if_pos c] at bad fin1 finN
    exact c_lineM_oil hI h (fun w pl e M' a1 a2 a3 => fin0 M' (HE w pl (bad w pl e) M' a1 a2 a3)) (fun r e M' a1 a2 a3 a4 => fin1 r e M' a1 a2 a3 a4)
  · rw [if_neg (by omega), if_neg (by omega), if_neg (by omega), if_neg (by omega), if_pos c] at bad fin1 finN
    exact c_lineM_rust hI h (fun w pl e M' a1 a2 a3 => fin0 M' (HE w pl (bad w pl e) M' a1 a2 a3)) (fun r e M' a1 a2 a3 a4 => fin1 r e M' a1 a2 a3 a4)
  · rw [if_neg (by omega), if_neg (by omega), if_neg (by omega), if_neg (by omega), if_neg (by omega), if_pos c] at bad fin1 finN
    exact c_lineM_seed hI h (fun w pl e M' a1 a2 a3 => fin0 M' (HE w pl (bad w pl e) M' a1 a2 a3)) (fun r e M' a1 a2 a3 a4 => fin1 r e M' a1 a2 a3 a4)
  · rw [if_neg (by omega), if_neg (by omega), if_neg (by omega), if_neg (by omega), if_neg (by omega), if_neg (by omega), if_pos (by omega)] at bad fin1 finN
    unfold lawP at bad fin1 finN
    refine c_tokP hTk h (fun M1 b1 b2 b3 => ?_)
    generalize ht1 : tok bs L (tN (sT s)) = t1 at bad fin1 finN b2 b3
    have hk1 : RK t1 (M1 98 8) (M1 98 9) := b3.2.1.1
    have hkk1 := hk1.k1
    have e10 : M1 98 10 = (tS t1 : Int) := b3.2.1.2.1
    have wr2 : ∀ (c : ¬ (7 ≤ tK t1 ∧ tK t1 ≤ 9)), CI E mX11_wrong [pR 98, pI 1] M1 (fun r2 M3 => (zR r2) ∧ f r2 M3) := by
      intro c
      rw [if_pos (by omega)] at bad
      exact c_wrong (by decide) e10 (fun M2 d1 d2 d3 => ⟨Or.inl rfl, HE 1 (tS t1) (bad _ _ rfl) M2 (b1.toH.toRm.tr d1.toRm) d2 d3⟩)
    refine fun _ => ⟨fun z => wr2 (fun y => z (hkk1.1 ⟨by omega, by omega⟩).1), fun k1 _ => ⟨fun z => wr2 (fun y => by have := (hkk1.1 ⟨by omega, by omega⟩).2; omega), fun k7 _ => ⟨fun k9 _ => ?_, fun z => wr2 (fun y => by have := (hkk1.1 ⟨by omega, by omega⟩).2; omega)⟩⟩⟩
    have hwt := (hkk1.2.1 k1 k9).2
    obtain ⟨k, hk⟩ : ∃ k : Nat, tK t1 = (k : Int) + 7 := ⟨(tK t1 - 7).toNat, by omega⟩
    have hk3 : k < 3 := by omega
    rw [if_neg (by omega), hk, show ((k : Int) + 7 - 7).toNat = k by omega] at bad fin1 finN
    rw [hwt, hk, show ((3 : Int) + ((k : Int) + 7) - 7).toNat = 3 + k by omega]
    refine ⟨⟨by omega, by omega⟩, fun _ => ?_⟩
    have h10 : (sWf s k = [] ∧ M1 113 (3 + k) = 0) ∨ (sWf s k ≠ [] ∧ M1 113 (3 + k) = 1 ∧ M1 114 (3 + k) = (sWb s k : Int) ∧ M1 115 (3 + k) = ((sWb s k + (sWf s k).length : Nat) : Int) ∧ ND (ndW (upH M1 116) (upH M1 117) (upH M1 118)) (sWb s k) [] (sWf s k)) := b3.2.2.2.2.2.2.2.2.2.1 k hk3
    rcases h10 with ⟨w1, w2⟩ | ⟨w1, w2, -⟩
    · rw [if_neg (by rw [w1]; exact fun z => z rfl)] at bad fin1 finN
      rw [w2]
      refine ⟨fun _ => ⟨⟨by omega, by omega⟩, ?_⟩, fun z => absurd rfl z⟩
      generalize hM2 : upM M1 113 (3 + k) 1 = M2
      have hT2 : TPm bs L M2 := by rw [← hM2]; exact b3.1
      have h72 : M2 98 7 = (tN t1 : Int) := by rw [← hM2]; exact b3.2.1.2.2
      refine c_token hT2 b2.2.2.1 h72 (fun M3 d1 d2 => ?_)
      have i2 := (tok_I (bs := bs) b2.2.2.1).1
      generalize ht2 : tok bs L (tN t1) = t2 at bad fin1 finN d2 i2
      have h19 : M3 98 19 = (sWk s : Int) := by rw [d1.2 19 (by decide), ← hM2]; exact b3.2.2.2.2.2.2.2.2.2.2.2.2.1
      rw [h19]
      refine fun _ => ⟨⟨by omega, by omega⟩, ?_⟩
      apply vX11_sumRead_0
      generalize hM4 : upM M3 114 (3 + k) (sWk s : Int) = M4
      generalize hM5 : upM (upM (upM (upM (upM M4 98 42 0) 98 43 0) 98 44 0) 98 46 1) 98 47 1 = M5
      have c4 : ∀ a, a ≠ 98 → a ≠ 113 → a ≠ 114 → M4 a = M1 a := fun a a1 a2 a3 => by rw [← hM4, upM_ne _ _ _ a3, d1.1 a a1, ← hM2, upM_ne _ _ _ a2]
      have q4 : ∀ q, ¬ (7 ≤ q ∧ q ≤ 10) → M4 98 q = M1 98 q := fun q hq => by rw [← hM4, upM_ne _ _ _ (by decide), d1.2 q hq, ← hM2, upM_ne _ _ _ (by decide)]
      have t4 : ∀ q, M4 98 q = M3 98 q := fun q => by rw [← hM4, upM_ne _ _ _ (by decide)]
      have hG5 : FrHG M4 M5 := by rw [← hM5]; exact ((((FrHG.u98 _ (by omega)).tr (FrHG.u98 _ (by omega))).tr (FrHG.u98 _ (by omega))).tr (FrHG.u98 _ (by omega))).tr (FrHG.u98 _ (by omega))
      have c5 : ∀ a, a ≠ 98 → M5 a = M4 a := fun a ha => by rw [← hM5, upM_ne _ _ _ ha, upM_ne _ _ _ ha, upM_ne _ _ _ ha, upM_ne _ _ _ ha, upM_ne _ _ _ ha]
      have q5 : ∀ q, q < 42 ∨ q = 45 → M5 98 q = M4 98 q := fun q hq => by rw [← hM5, upM_self, va_up_neq _ _ (by omega), upM_self, va_up_neq _ _ (by omega), upM_self, va_up_neq _ _ (by omega), upM_self, va_up_neq _ _ (by omega), upM_self, va_up_neq _ _ (by omega)]
      obtain ⟨p1, p2, p3, p4, p5, p6, p7, p8, p9, p10, p11, p12⟩ := b3
      have hQ4 : FrRm M M4 := by rw [← hM4, ]; exact ((b1.toH.toRm.tr (by rw [← hM2]; exact FrRm.uA _ (by omega) (by unfold lowH; omega))).tr d1.toH.toRm).tr (FrRm.uA _ (by omega) (by unfold lowH; omega))
      have hT4 : TPm bs L M4 := by unfold TPm; rw [q4 6 (by decide), c4 99 (by decide) (by decide) (by decide), c4 100 (by decide) (by decide) (by decide)]; exact p1
      have hR : RW (sWk s) (fmS t2 (sC s) (sLt s)) M5 := by
        refine ⟨d2.of (fun q a b => by rw [q5 q (by omega), t4 q]), ⟨by rw [← hM5]; rfl, fun i v hv => absurd hv (by show ¬ (([] : List Int)[i]? = some v); simp)⟩, by rw [← hM5]; rfl, by rw [q5 45 (by omega), q4 45 (by decide)]; exact p12.2.2, by rw [q5 19 (by omega), q4 19 (by decide)]; exact p12.2.1, ⟨by rw [← hM5]; rfl, fun i v hv => absurd hv (by show ¬ (([] : List Int)[i]? = some v); simp)⟩, trivial, by rw [← hM5]; rfl, fun _ => by rw [← hM5]; rfl⟩
      refine c_sumL (nm := sM s) (base := (sAl s).length) (ln := sLn s) hn (by rw [hal]; omega) hT4 (L + 1) (fmS t2 (sC s) (sLt s)) M5 (FI.ini i2 hal hal2 hlt) (by omega) hG5 (c5 106 (by decide)) hR (fun w pl e M6 g1 g2 g3 => ?_) (fun r e g0 g0' M6 g1 g1' g2 => ?_)
      · rw [e] at bad
        exact fun _ => ⟨⟨by omega, by omega⟩, fin0 _ (HE w pl (bad w pl rfl) _ ((hQ4.tr g1.toRm).tr (FrRm.uA _ (by omega) (by unfold lowH; omega))) (by rw [upM_ne _ _ _ (by decide)]; exact g2) (by rw [upM_ne _ _ _ (by decide)]; exact g3))⟩
      · rw [e] at fin1
        obtain ⟨r1, r2, r3, r4, r5, r6, r7, -⟩ := g2
        have hcr := g0.2.2.2.2.2.1
        have hcl : (sAl s).length + (fU r).length + npL (fP r) = fC r := g0.2.2.2.2.1
        have hdp : dpF 0 (fU r) = some 1 := by
          have := g0.2.2.2.2.2.2.1
          rw [g0'.1, g0'.2.1] at this
          exact this
        have hpos := dp_pos hdp
        have hfl : fL r = sLt s := fml_L _ _ r e
        have hF := g1.1
        rw [r5]
        refine fun _ => ⟨⟨by omega, by omega⟩, ?_⟩
        generalize hM7 : upM M6 115 (3 + k) ((sWk s + (fU r).length : Nat) : Int) = M7
        have c7 : ∀ a, a ≠ 115 → M7 a = M6 a := fun a ha => by rw [← hM7, upM_ne _ _ _ ha]
        have cc : ∀ a, a ≠ 98 → a ≠ 106 → ¬ (110 ≤ a ∧ a ≤ 112) → ¬ (113 ≤ a ∧ a ≤ 120) → M7 a = M1 a := fun a a1 a2 a3 a4 => by rw [c7 a (by omega), hF.1 a a1 a2 a3 (by omega), c4 a a1 (by omega) (by omega)]
        have qq : ∀ q, ¬ (4 ≤ q ∧ q ≤ 5) → ¬ (7 ≤ q ∧ q ≤ 11) → q ≠ 19 → q ≠ 33 → ¬ (42 ≤ q ∧ q ≤ 47) → M7 98 q = M1 98 q := fun q a1 a2 a3 a4 a5 => by rw [c7 98 (by decide), hF.2.2.2 q a1 a2 a3 a4 a5, q4 q (by omega)]
        have hQ7 : FrRm M M7 := by rw [← hM7]; exact (hQ4.tr hF.toRm).tr (FrRm.uA _ (by omega) (by unfold lowH; omega))
        have h33 : M4 98 33 = (sLk s : Int) := by rw [q4 33 (by decide)]; exact p12.1
        have h194 : M4 98 19 = (sWk s : Int) := by rw [q4 19 (by decide)]; exact p12.2.1
        have e113 : M7 113 = va_up (M1 113) (3 + k) 1 := by rw [c7 113 (by decide), hF.1 113 (by decide) (by decide) (by decide) (by decide), ← hM4, upM_ne _ _ _ (by decide), d1.1 113 (by decide), ← hM2, upM_self]
        have e114 : M7 114 = va_up (M1 114) (3 + k) (sWk s : Int) := by rw [c7 114 (by decide), hF.1 114 (by decide) (by decide) (by decide) (by decide), ← hM4, upM_self, d1.1 114 (by decide), ← hM2, upM_ne _ _ _ (by decide)]
        have e115 : M7 115 = va_up (M1 115) (3 + k) ((sWk s + (fU r).length : Nat) : Int) := by rw [← hM7, upM_self, hF.1 115 (by decide) (by decide) (by decide) (by decide), c4 115 (by decide) (by decide) (by decide)]
        have hupw : ∀ a, 116 ≤ a → a ≤ 118 → ∀ q, q < sWk s → upH M7 a q = upH M1 a q := fun a a1 a2 q hq => by
          show M7 a (64 + q) = M1 a (64 + q)
          rw [c7 a (by omega), hF.2.2.1.2.1 a a1 a2 (64 + q) (by rw [h194]; omega), c4 a (by omega) (by omega) (by omega)]
        have hupl : ∀ a, 110 ≤ a → a ≤ 112 → ∀ q, q < sLk s → upH M7 a q = upH M1 a q := fun a a1 a2 q hq => by
          show M7 a (64 + q) = M1 a (64 + q)
          rw [c7 a (by omega), hF.2.2.1.1 a a1 a2 (64 + q) (by rw [h33]; omega), c4 a (by omega) (by omega) (by omega)]
        have hup7 : ∀ a, 116 ≤ a → a ≤ 118 → upH M7 a = upH M6 a := fun a a1 a2 => by unfold upH; rw [c7 a (by omega)]
        refine fin1 _ rfl M7 hQ7 (by rw [c7 98 (by decide), g1.2.1, q4 4 (by decide), b1.2 4 (by decide)]) (by rw [c7 98 (by decide), g1.2.2.1, q4 5 (by decide), b1.2 5 (by decide)]) ⟨?_, r1.of (fun q _ _ => by rw [c7 98 (by decide)]), ?_, ?_, ?_, ?_, ?_, ?_, ?_, fun q hq => ?_, fun e he => ?_, ⟨?_, ?_, ?_⟩⟩
        · unfold TPm; rw [qq 6 (by decide) (by decide) (by decide) (by decide) (by decide), cc 99 (by decide) (by decide) (by decide) (by decide), cc 100 (by decide) (by decide) (by decide) (by decide)]; exact p1
        · unfold NmM; rw [qq 16 (by decide) (by decide) (by decide) (by decide) (by decide), cc 103 (by decide) (by decide) (by decide) (by decide), cc 105 (by decide) (by decide) (by decide) (by decide)]; exact p3
        · rw [cc 105 (by decide) (by decide) (by decide) (by decide)]; exact p4
        · rw [cc 104 (by decide) (by decide) (by decide) (by decide)]; exact p5
        · show LnM (fL r) M7
          rw [hfl]; exact p6.of (by rw [c7 106 (by decide), g1', c4 106 (by decide) (by decide) (by decide)])
        · rw [qq 17 (by decide) (by decide) (by decide) (by decide) (by decide), cc 107 (by decide) (by decide) (by decide) (by decide), cc 108 (by decide) (by decide) (by decide) (by decide)]; exact p7
        · rw [qq 18 (by decide) (by decide) (by decide) (by decide) (by decide), cc 109 (by decide) (by decide) (by decide) (by decide)]; exact p8
        · rw [cc 102 (by decide) (by decide) (by decide) (by decide), cc 101 (by decide) (by decide) (by decide) (by decide)]; exact p9
        · rw [e113, e114, e115]
          show (upN (sWf s) k (fU r) q = [] ∧ _) ∨ (upN (sWf s) k (fU r) q ≠ [] ∧ _ ∧ _ = ((upN (sWb s) k (sWk s) q : Nat) : Int) ∧ _ = ((upN (sWb s) k (sWk s) q + (upN (sWf s) k (fU r) q).length : Nat) : Int) ∧ ND (ndW (upH M7 116) (upH M7 117) (upH M7 118)) (upN (sWb s) k (sWk s) q) [] (upN (sWf s) k (fU r) q))
          by_cases eq : q = k
          · rw [eq, upN_self, upN_self, va_up_self, va_up_self, va_up_self, hup7 116 (by decide) (by decide), hup7 117 (by decide) (by decide), hup7 118 (by decide) (by decide)]
            exact Or.inr ⟨fun z => by rw [z] at hpos; exact absurd hpos (by decide), rfl, rfl, rfl, r7⟩
          · rw [upN_ne _ _ eq, upN_ne _ _ eq, va_up_neq _ _ (by omega), va_up_neq _ _ (by omega), va_up_neq _ _ (by omega)]
            rcases p10 q hq with z | ⟨z1, z2, z3, z4, z5⟩
            · exact Or.inl z
            · have hw9 := h9 q hq z1
              refine Or.inr ⟨z1, z2, z3, z4, ND_mon2 _ _ _ (fun i k' v G q1 q2 _ hnd => ?_) z5⟩
              have q2' : i < sWb s q + (sWf s q).length := q2
              unfold ndW at hnd ⊢
              rw [hupw 116 (by decide) (by decide) i (by omega), hupw 117 (by decide) (by decide) i (by omega), hupw 118 (by decide) (by decide) i (by omega)]
              exact hnd
        · obtain ⟨m1, m2, m3, m4, m5, m6⟩ := h7 e he
          refine ND_mon2 _ _ _ (fun q k' v G q1 q2 hm hnd => ?_) (p11 e he)
          show ndL (sRt s) (upH M7 110) (upH M7 111) (upH M7 112) q k' v G
          unfold ndL at hnd ⊢
          rw [hupl 110 (by decide) (by decide) q (by omega), hupl 111 (by decide) (by decide) q (by omega), hupl 112 (by decide) (by decide) q (by omega)]
          exact hnd
        · rw [c7 98 (by decide), g1.2.2.2]; exact h33
        · rw [c7 98 (by decide)]; exact r5
        · rw [c7 98 (by decide)]; exact r4
    · rw [if_pos (fun z => w1 (List.eq_nil_of_length_eq_zero z))] at bad
      rw [w2]
      refine ⟨fun z => absurd z (by decide), fun _ => c_wrong (by decide) e10 (fun M2 d1 d2 d3 => ⟨Or.inl rfl, HE 3 (tS t1) (bad _ _ rfl) M2 (b1.toH.toRm.tr d1.toRm) d2 d3⟩)⟩
end LINESM4
