/-! leanings and laws in the class -/
section LINESD
variable {E : Scr} {bs : BF} {L : Nat} {s : PSt}
theorem PrC.fml {M M' : Mem} {r : FS} (h : PrC bs L s M) (hF : FrG M M') (hr : FC (sAl s) r M') : PrC bs L (fT r, s.2.1, (sLn s, fL r, sRt s, sLf s), s.2.2.2.1, s.2.2.2.2.1, s.2.2.2.2.2.1, (sAl s ++ fU r, fC r, sLk s, sWk s)) M' := by
  obtain ⟨a1, a2, a3, a4, a5, a6, a7, a8, a9, a10, a11, a12⟩ := h
  have hc : ∀ a, a ≠ 1 → a ≠ 2 → a ≠ 9 → a ≠ 15 → a ≠ 16 → a ≠ 17 → a ≠ 20 → M' a = M a := hF.1.1
  refine ⟨hF.1.tp a1, hr.1, hF.1.nm a3, ?_, hr.2.2.2.2.2.1, ?_, ?_, ?_, ?_, ?_, hr.2.2.2.2.1, hr.2.2.2.1⟩
  · rw [hc 5 (by decide) (by decide) (by decide) (by decide) (by decide) (by decide) (by decide)]; exact a4
  · rw [hc 5 (by decide) (by decide) (by decide) (by decide) (by decide) (by decide) (by decide), hc 7 (by decide) (by decide) (by decide) (by decide) (by decide) (by decide) (by decide), hc 8 (by decide) (by decide) (by decide) (by decide) (by decide) (by decide) (by decide)]; exact a6
  · rw [hc 5 (by decide) (by decide) (by decide) (by decide) (by decide) (by decide) (by decide), hc 11 (by decide) (by decide) (by decide) (by decide) (by decide) (by decide) (by decide), hc 12 (by decide) (by decide) (by decide) (by decide) (by decide) (by decide) (by decide)]; exact a7
  · rw [hc 5 (by decide) (by decide) (by decide) (by decide) (by decide) (by decide) (by decide), hc 13 (by decide) (by decide) (by decide) (by decide) (by decide) (by decide) (by decide)]; exact a8
  · rw [hc 5 (by decide) (by decide) (by decide) (by decide) (by decide) (by decide) (by decide), hF.1.2.2 7 (by decide) (by decide) (by decide) (by decide) (by decide) (by decide), hF.1.2.2 8 (by decide) (by decide) (by decide) (by decide) (by decide) (by decide)]; exact a9
  · rw [hc 14 (by decide) (by decide) (by decide) (by decide) (by decide) (by decide) (by decide)]; exact a10
theorem c_fmlP {f : Int → Mem → Prop} {M : Mem} {own : Int} (hI : PI L s) (hT2 : TkI L (sT s)) (h : PrC bs L s M) (hown : own = -1 ∨ (0 ≤ own ∧ own < sN s))
    (HE : ∀ w pl, fml bs L own (sN s) (sM s) (sLn s) (L + 1) (fmS (sT s) (sC s) (sLt s)) = Sum.inl (w, pl) → ∀ M', FrRd M M' → M' 1 9 = w → M' 1 10 = (pl : Int) → f 0 M')
    (HO : ∀ r, fml bs L own (sN s) (sM s) (sLn s) (L + 1) (fmS (sT s) (sC s) (sLt s)) = Sum.inr r → FI L own (sN s) (sLn s) (sAl s).length r → (fP r = [] ∧ fW r = false ∧ tK (fT r) = 24) → ∀ M', FrRG M M' → PrC bs L (fT r, s.2.1, (sLn s, fL r, sRt s, sLf s), s.2.2.2.1, s.2.2.2.2.1, s.2.2.2.2.2.1, (sAl s ++ fU r, fC r, sLk s, sWk s)) M' → f 1 M') :
    CI E mX5_formula [pR 1, pI own] M f := by
  obtain ⟨-, -, ⟨-, hlt, -⟩, -, -, ⟨ha1, ha2, -⟩, -⟩ := hI
  apply vX5_formula_0
  obtain ⟨a1, a2, a3, a4, a5, a6, a7, a8, a9, a10, a11, a12⟩ := id h
  generalize hM1 : upM (upM (upM M 1 3 0) 1 4 0) 1 5 (-1) = M1
  have hG : FrG M M1 := by rw [← hM1]; exact ((FrG.u1 _ (by omega)).tr (FrG.u1 _ (by omega))).tr (FrG.u1 _ (by omega))
  have hc : ∀ a, a ≠ 1 → M1 a = M a := fun a ha => by rw [← hM1, upM_ne _ _ _ ha, upM_ne _ _ _ ha, upM_ne _ _ _ ha]
  have hFC : FC (sAl s) (fmS (sT s) (sC s) (sLt s)) M1 := by
    refine ⟨a2.of (hc 2 (by decide)), ⟨?_, ?_⟩, ?_, ?_, ?_, a5.of (hc 9 (by decide)), ?_⟩
    · rw [← hM1]; rfl
    · intro i v hv; exact absurd hv (by show ¬ (([] : List Int)[i]? = some v); simp)
    · rw [← hM1]; rfl
    · have : M1 1 6 = M 1 6 := by rw [← hM1]; rfl
      rw [this]; exact a12
    · have e : sAl s ++ fU (fmS (sT s) (sC s) (sLt s)) = sAl s := List.append_nil _
      rw [e]; exact a11.of (hc 15 (by decide)) (hc 16 (by decide)) (hc 17 (by decide))
    · rw [← hM1]; rfl
  refine c_formulaL (pre := sAl s) hown a1 a3 (L + 1) (fmS (sT s) (sC s) (sLt s)) 0 M1 (FI.ini hT2 ha1 ha2 hlt) (by omega) (Nat.zero_le _) hG hFC (fun w pl e M' b1 b2 b3 => HE w pl e M' b1.toRd b2 b3) (fun r e b0 b0' M' b1 b2 => HO r e b0 b0' M' b1.toRG (h.fml b1 b2))
theorem c_lineC_lean {f : Int → Mem → Prop} {M : Mem} (hI : PI L s) (h : PrC bs L s M) (HE : ∀ w pl, leanP bs L s = Sum.inl (w, pl) → ∀ M', FrRd M M' → M' 1 9 = w → M' 1 10 = (pl : Int) → f 0 M') (HO : ∀ r, leanP bs L s = Sum.inr r → ∀ M', FrRG M M' → PrC bs L r M' → f 1 M') : CI E mX5_leanLine [pR 1] M f := by
  obtain ⟨hTk, ⟨hn, hu⟩, ⟨hln, hlt, hlo, hll⟩, hps, hrs, ⟨ha1, ha2, ha3⟩, hrest⟩ := id hI
  unfold leanP at HE HO
  apply vX5_leanLine_0
  refine c_advP hTk h (fun M1 b1 b2 b2' b3 => ?_)
  generalize ht1 : tok bs L (tN (sT s)) = t1 at HE HO b2 b2' b3
  have hv := b2.2.2.2.2.2
  have hN1 : NmC (sN s) (sM s) (sLn s) M1 := b3.2.2.1
  refine c_toldLatch (t := t1) hv b3.2.1 hN1 (fun c38 cf => ⟨⟨by decide, by decide⟩, fun _ => ?_, fun z => absurd z (by decide)⟩) (fun w hw M' a1 a2 a3 => ⟨⟨by decide, by decide⟩, fun z => absurd rfl z, fun _ => HE w (tS t1) ?_ M' (b1.1.tr a1.toRd) a2 a3⟩)
  · rw [if_neg (fun z => z c38), if_neg cf] at HE HO
    rcases findN_c (nm := sM s) (v := tV t1) (sN s) 0 with z | ⟨o, o1, o2, o3⟩
    · exact absurd z cf
    rw [o3, Int.toNat_natCast] at HE HO
    rw [b3.2.1.2.1]
    refine fun _ => c_numberOf (Or.inl rfl) ⟨by omega, by omega⟩ hN1.1 hN1.2.1 hN1.2.2.1 ?_
    rw [o3]
    have hlnb := hN1.2.2.2.2
    refine vX1_doesLean_0 _ ⟨⟨by omega, by omega⟩, fun z => absurd z (by omega), fun _ => ⟨⟨by omega, by omega⟩, fun z => absurd z (by omega), fun _ => ?_⟩⟩
    rw [hN1.2.2.2.1, bBit_nat (by omega) (by omega), bt_tb]
    intro _
    cases hb : (sLn s).testBit o
    · rw [if_neg (by rw [hb]; decide)] at HE HO
      refine ⟨fun _ => ⟨⟨by decide, by decide⟩, fun _ => ?_, fun z => absurd rfl z⟩, fun z => absurd rfl z⟩
      refine c_advP (s := (t1, s.2)) b2 b3 (fun M2 d1 d2 d2' d3 => ?_)
      have e12 : tok bs L (tN (sT ((t1, s.2) : PSt))) = tok bs L (tN t1) := rfl
      rw [e12] at d2 d2' d3
      generalize ht2 : tok bs L (tN t1) = t2 at HE HO d2 d2' d3
      have h15 : M2 15 3 = ((sAl s).length : Int) := d3.2.2.2.2.2.2.2.2.2.2.1.1
      rw [h15]
      have hI2 : PI L (t2, s.2) := ⟨d2, hI.2⟩
      refine fun _ => c_fmlP (s := (t2, s.2)) hI2 d2 d3 (Or.inr ⟨by omega, (by show (o : Int) < (sN s : Int); omega)⟩) (fun w pl e M' g1 g2 g3 => ⟨⟨by decide, by decide⟩, fun z => absurd rfl z, fun _ => HE w pl ?_ M' ((b1.tr d1).1.tr g1) g2 g3⟩) (fun r e g0 g0' M3 g1 g2 => ⟨⟨by decide, by decide⟩, fun _ => ?_, fun z => absurd z (by decide)⟩)
      · have e' : fml bs L (o : Int) (sN s) (sM s) (sLn s) (L + 1) (fmS t2 (sC s) (sLt s)) = Sum.inl (w, pl) := e
        rw [e']
      · have e' : fml bs L (o : Int) (sN s) (sM s) (sLn s) (L + 1) (fmS t2 (sC s) (sLt s)) = Sum.inr r := e
        rw [e'] at HO
        have hN3 : NmC (sN s) (sM s) (sLn s) M3 := g2.2.2.1
        have hlen : (sLf s).length < 8 := by
          have c1 := cbN_or hb (sN s)
          have c2 := cbN_le (sLn s ||| 2 ^ o) (sN s)
          rw [if_pos (by omega)] at c1
          omega
        obtain ⟨g21, g22, g23, g24, g25, g26, g27, g28, g29, g210, g211, g212⟩ := id g2
        have h54 : M3 5 4 = ((sLf s).length : Int) := g26.1
        have h153 : M3 15 3 = ((sAl s ++ fU r).length : Int) := g211.1
        have hcr := g0.2.2.2.2.2.1
        have hcl : (sAl s).length + (fU r).length + npL (fP r) = fC r := g0.2.2.2.2.1
        have hlu : (sAl s ++ fU r).length ≤ 64 := by rw [List.length_append]; omega
        have hal : (sAl s).length ≤ 64 := by omega
        have hp : (2 : Nat) ^ o ≤ 2 ^ 7 := Nat.pow_le_pow_right (by decide) (by omega)
        apply vX1_addLean_0
        refine c_has (Or.inl rfl) ⟨by omega, by omega⟩ hN3.1 hn (fun l hl1 hl2 => ⟨⟨by decide, by decide⟩, fun z => absurd z (by decide), fun _ => ?_⟩) (fun z => absurd (show (0 : Int) ≤ (o : Int) ∧ (o : Int) < (sN s : Int) from ⟨by omega, by omega⟩) z)
        rw [h54, h153, hN3.2.2.2.1, show (1 : Int) = ((1 : Nat) : Int) from rfl, bShl_nat (by omega) (by omega), Nat.one_mul, bOr_nat (by omega) (by omega)]
        refine fun _ => ⟨fun z => absurd z (by omega), fun _ => ⟨⟨by omega, by omega⟩, ⟨by omega, by omega⟩, fun _ => ⟨⟨by omega, by omega⟩, fun _ => ⟨⟨by omega, by omega⟩, ⟨by omega, by omega⟩, fun _ => ⟨⟨by omega, by omega⟩, fun _ => ?_⟩⟩⟩⟩⟩
        rw [show (2 * (o : Int)).toNat = 2 * o by omega, show (2 * (o : Int) + ((1 : Nat) : Int)).toNat = 2 * o + 1 by omega, Int.toNat_natCast]
        generalize hM4 : upM (upM (upM (upM (upM M3 8 (2 * o) ((sAl s).length : Int)) 8 (2 * o + 1) ((sAl s ++ fU r).length : Int)) 7 (sLf s).length (o : Int)) 5 4 (((sLf s).length : Int) + ((1 : Nat) : Int))) 5 5 ((sLn s ||| 2 ^ o : Nat) : Int) = M4
        have hG4 : FrRG M M4 := by rw [← hM4]; exact ((((((b1.tr d1).tr g1).tr (FrRG.u _ (by omega))).tr (FrRG.u _ (by omega))).tr (FrRG.u _ (by omega))).tr (FrRG.u _ (by omega))).tr (FrRG.u _ (by omega))
        have hc3 : ∀ a, a ≠ 5 → a ≠ 7 → a ≠ 8 → M4 a = M3 a := fun a a1 a2 a3 => by rw [← hM4, upM_ne _ _ _ a1, upM_ne _ _ _ a1, upM_ne _ _ _ a2, upM_ne _ _ _ a3, upM_ne _ _ _ a3]
        have h53 : ∀ q, q ≠ 4 → q ≠ 5 → M4 5 q = M3 5 q := fun q q1 q2 => by rw [← hM4, upM_self, va_up_neq _ _ q2, upM_self, va_up_neq _ _ q1, upM_ne _ _ _ (by decide), upM_ne _ _ _ (by decide), upM_ne _ _ _ (by decide)]
        refine HO _ rfl M4 hG4 ⟨hG4.1.tp h.1, g22.of (hc3 2 (by decide) (by decide) (by decide)), ⟨?_, hn, ?_, ?_, ?_⟩, ?_, g25.of (hc3 9 (by decide) (by decide) (by decide)), ⟨?_, fun i q P sg rb hq => ?_⟩, ?_, ?_, ?_, ?_, g211.of (hc3 15 (by decide) (by decide) (by decide)) (hc3 16 (by decide) (by decide) (by decide)) (hc3 17 (by decide) (by decide) (by decide)), ?_⟩
        · rw [h53 1 (by decide) (by decide)]; exact hN3.1
        · intro l hl; rw [hc3 6 (by decide) (by decide) (by decide)]; exact hN3.2.2.1 l hl
        · rw [← hM4]; rfl
        · exact Nat.or_lt_two_pow (n := 8) (by omega) (by omega)
        · rw [h53 2 (by decide) (by decide)]; exact g24
        · rw [← hM4]; show ((sLf s).length : Int) + 1 = ((sLf s ++ [(o, fU r, (sAl s).length, sLk s)]).length : Int); rw [List.length_append]; show _ = (((sLf s).length + 1 : Nat) : Int); omega
        · have hq' : (sLf s ++ [(o, fU r, (sAl s).length, sLk s)])[i]? = some (q, P, sg, rb) := hq
          have e7 : M4 7 = va_up (M3 7) (sLf s).length (o : Int) := by rw [← hM4]; rfl
          have e8 : M4 8 = va_up (va_up (M3 8) (2 * o) ((sAl s).length : Int)) (2 * o + 1) ((sAl s ++ fU r).length : Int) := by rw [← hM4]; rfl
          rw [e7, e8]
          rcases Nat.lt_trichotomy i (sLf s).length with c | c | c
          · rw [List.getElem?_append_left c] at hq'
            have hne : q ≠ o := by
              intro z
              subst z
              have := hlo q
              rw [hb] at this
              unfold lnOf at this
              have hm : (q, P, sg, rb) ∈ sLf s := List.mem_of_getElem? hq'
              rw [eq_comm, List.any_eq_false] at this
              exact this _ hm (by simp)
            rw [va_up_neq _ _ (by omega), va_up_neq _ _ (by omega), va_up_neq _ _ (by omega), va_up_neq _ _ (by omega), va_up_neq _ _ (by omega)]
            exact g26.2 i q P sg rb hq'
          · subst c
            rw [List.getElem?_append_right (Nat.le_refl _), Nat.sub_self] at hq'
            have he' : some (o, fU r, (sAl s).length, sLk s) = some (q, P, sg, rb) := hq'
            cases he'
            rw [va_up_self, va_up_self, va_up_neq _ _ (by omega), va_up_self, List.length_append]; exact ⟨rfl, rfl, rfl⟩
          · rw [List.getElem?_eq_none (by rw [List.length_append]; show (sLf s).length + 1 ≤ i; omega)] at hq'
            exact absurd hq' (by simp)
        · rw [h53 10 (by decide) (by decide), hc3 11 (by decide) (by decide) (by decide), hc3 12 (by decide) (by decide) (by decide)]; exact g27
        · rw [h53 13 (by decide) (by decide), hc3 13 (by decide) (by decide) (by decide)]; exact g28
        · rw [h53 15 (by decide) (by decide), h53 16 (by decide) (by decide), hc3 1 (by decide) (by decide) (by decide)]; exact g29
        · rw [hc3 14 (by decide) (by decide) (by decide)]; exact g210
        · rw [hc3 1 (by decide) (by decide) (by decide)]; exact g212
    · rw [if_pos hb] at HE
      exact ⟨fun z => absurd z (by decide), fun _ => ⟨⟨by decide, by decide⟩, fun z => absurd z (by decide), fun _ => c_failsC (by decide) b3.2.1.2.2.1 (fun M' a1 a2 a3 => ⟨Or.inl rfl, HE 3 (tS t1) rfl M' (b1.1.tr a1.toRd) a2 a3⟩)⟩⟩
  · rcases hw with ⟨z1, z2⟩ | ⟨z1, z2, z3⟩
    · rw [if_pos z1, z2]
    · rw [if_neg (fun z => z z1), if_pos z2, z3]
theorem c_lineC_law {f : Int → Mem → Prop} {M : Mem} (hI : PI L s) (h : PrC bs L s M) (HE : ∀ w pl, lawP bs L s = Sum.inl (w, pl) → ∀ M', FrRd M M' → M' 1 9 = w → M' 1 10 = (pl : Int) → f 0 M') (HO : ∀ r, lawP bs L s = Sum.inr r → ∀ M', FrRG M M' → PrC bs L r M' → f 1 M') : CI E mX5_lawLine [pR 1] M f := by
  obtain ⟨hTk, ⟨hn, hu⟩, ⟨hln, hlt, hlo, hll⟩, hps, hrs, ⟨ha1, ha2, ha3⟩, hlf, hlf2, hwf, hrest⟩ := id hI
  unfold lawP at HE HO
  apply vX5_lawLine_0
  refine c_advP hTk h (fun M1 b1 b2 b2' b3 => ?_)
  generalize ht1 : tok bs L (tN (sT s)) = t1 at HE HO b2 b2' b3
  have hk := b2.2.2.2.1
  have e5 : M1 2 5 = tK t1 := b3.2.1.1
  rw [e5]
  refine fun _ => fun _ => ⟨fun c => ?_, fun c1 => fun _ => ⟨fun c2 => ?_, fun c => ?_⟩⟩
  · rw [if_pos (Or.inl c)] at HE
    exact c_failsC (by decide) b3.2.1.2.2.1 (fun M' a1 a2 a3 => ⟨Or.inl rfl, HE 1 (tS t1) rfl M' (b1.1.tr a1.toRd) a2 a3⟩)
  · rw [if_neg (by omega)] at HE HO
    obtain ⟨k, hk1⟩ : ∃ k : Nat, tK t1 = (k : Int) + 7 := ⟨(tK t1 - 7).toNat, by omega⟩
    have hkk : tK t1 - 7 = (k : Int) := by omega
    have hk3 : k < 3 := by omega
    rw [hkk, Int.toNat_natCast] at HE HO
    rw [hkk]
    have h14 := b3.2.2.2.2.2.2.2.2.2.1 k hk3
    have h14a : M1 14 (2 * k) = ((if sWf s k = [] then 0 else sWs s k : Nat) : Int) := h14.1
    have h14b : M1 14 (2 * k + 1) = ((if sWf s k = [] then 0 else sWs s k + (sWf s k).length : Nat) : Int) := h14.2
    refine c_hasLaw (dd := 5) (Or.inl rfl) hk3 h14a h14b (fun hlt' => ?_) (fun hge => ?_)
    · have hne : sWf s k ≠ [] := fun z => by rw [if_pos z, if_pos z] at hlt'; omega
      rw [if_pos (fun z => hne (List.eq_nil_of_length_eq_zero z))] at HE
      exact ⟨⟨by decide, by decide⟩, fun z => absurd z (by decide), fun _ => c_failsC (by decide) b3.2.1.2.2.1 (fun M' a1 a2 a3 => ⟨Or.inl rfl, HE 3 (tS t1) rfl M' (b1.1.tr a1.toRd) a2 a3⟩)⟩
    · have hnil : sWf s k = [] := by
        by_cases z : sWf s k = []
        · exact z
        · rw [if_neg z, if_neg z] at hge
          exact List.eq_nil_of_length_eq_zero (by omega)
      rw [if_neg (by rw [hnil]; exact fun z => z rfl)] at HE HO
      refine ⟨⟨by decide, by decide⟩, fun _ => ?_, fun z => absurd rfl z⟩
      refine c_advP (s := (t1, s.2)) b2 b3 (fun M2 d1 d2 d2' d3 => ?_)
      have e12 : tok bs L (tN (sT ((t1, s.2) : PSt))) = tok bs L (tN t1) := rfl
      rw [e12] at d2 d2' d3
      generalize ht2 : tok bs L (tN t1) = t2 at HE HO d2 d2' d3
      have h15 : M2 15 3 = ((sAl s).length : Int) := d3.2.2.2.2.2.2.2.2.2.2.1.1
      rw [h15]
      have hI2 : PI L (t2, s.2) := ⟨d2, hI.2⟩
      refine fun _ => c_fmlP (s := (t2, s.2)) hI2 d2 d3 (Or.inl rfl) (fun w pl e M' g1 g2 g3 => ⟨⟨by decide, by decide⟩, fun z => absurd rfl z, fun _ => HE w pl ?_ M' ((b1.tr d1).1.tr g1) g2 g3⟩) (fun r e g0 g0' M3 g1 g2 => ⟨⟨by decide, by decide⟩, fun _ => ?_, fun z => absurd z (by decide)⟩)
      · have e' : fml bs L (-1) (sN s) (sM s) (sLn s) (L + 1) (fmS t2 (sC s) (sLt s)) = Sum.inl (w, pl) := e
        rw [e']
      · have e' : fml bs L (-1) (sN s) (sM s) (sLn s) (L + 1) (fmS t2 (sC s) (sLt s)) = Sum.inr r := e
        rw [e'] at HO
        obtain ⟨g21, g22, g23, g24, g25, g26, g27, g28, g29, g210, g211, g212⟩ := id g2
        have h153 : M3 15 3 = ((sAl s ++ fU r).length : Int) := g211.1
        have hcr := g0.2.2.2.2.2.1
        have hcl : (sAl s).length + (fU r).length + npL (fP r) = fC r := g0.2.2.2.2.1
        have hlu : (sAl s ++ fU r).length ≤ 64 := by rw [List.length_append]; omega
        have hal : (sAl s).length ≤ 64 := by omega
        have hne : fU r ≠ [] := by
          intro z
          have := g0.2.2.2.2.2.2.1
          rw [z, g0'.1, g0'.2.1] at this
          exact absurd this (by decide)
        apply vX1_addLaw_0
        rw [h153]
        refine ⟨⟨by omega, by omega⟩, fun z => absurd z (by omega), fun _ => ⟨⟨by omega, by omega⟩, fun z => absurd z (by omega), fun _ => ⟨⟨by omega, by omega⟩, ⟨by omega, by omega⟩, fun _ => ⟨⟨by omega, by omega⟩, ?_⟩⟩⟩⟩
        rw [show (2 * (k : Int)).toNat = 2 * k by omega, show (2 * (k : Int) + 1).toNat = 2 * k + 1 by omega]
        generalize hM4 : upM (upM M3 14 (2 * k) ((sAl s).length : Int)) 14 (2 * k + 1) ((sAl s ++ fU r).length : Int) = M4
        have hG4 : FrRG M M4 := by rw [← hM4]; exact ((((b1.tr d1).tr g1).tr (FrRG.u _ (by omega))).tr (FrRG.u _ (by omega)))
        have hc3 : ∀ a, a ≠ 14 → M4 a = M3 a := fun a a1 => by rw [← hM4, upM_ne _ _ _ a1, upM_ne _ _ _ a1]
        refine HO _ rfl M4 hG4 ⟨hG4.1.tp h.1, g22.of (hc3 2 (by decide)), ?_, ?_, g25.of (hc3 9 (by decide)), ?_, ?_, ?_, ?_, fun q hq => ?_, g211.of (hc3 15 (by decide)) (hc3 16 (by decide)) (hc3 17 (by decide)), ?_⟩
        · unfold NmC; rw [hc3 5 (by decide), hc3 6 (by decide)]; exact g23
        · rw [hc3 5 (by decide)]; exact g24
        · rw [hc3 5 (by decide), hc3 7 (by decide), hc3 8 (by decide)]; exact g26
        · rw [hc3 5 (by decide), hc3 11 (by decide), hc3 12 (by decide)]; exact g27
        · rw [hc3 5 (by decide), hc3 13 (by decide)]; exact g28
        · rw [hc3 5 (by decide), hc3 1 (by decide)]; exact g29
        · have e14 : M4 14 = va_up (va_up (M3 14) (2 * k) ((sAl s).length : Int)) (2 * k + 1) ((sAl s ++ fU r).length : Int) := by rw [← hM4]; rfl
          rw [e14]
          show _ = ((if upN (sWf s) k (fU r) q = [] then 0 else upN (sWs s) k (sAl s).length q : Nat) : Int) ∧ _ = ((if upN (sWf s) k (fU r) q = [] then 0 else upN (sWs s) k (sAl s).length q + (upN (sWf s) k (fU r) q).length : Nat) : Int)
          by_cases e : q = k
          · rw [e, upN_self, upN_self, if_neg hne, if_neg hne, va_up_self, va_up_neq _ _ (by omega), va_up_self, List.length_append]; exact ⟨rfl, rfl⟩
          · rw [upN_ne _ _ e, upN_ne _ _ e, va_up_neq _ _ (by omega), va_up_neq _ _ (by omega), va_up_neq _ _ (by omega), va_up_neq _ _ (by omega)]; exact g210 q hq
        · rw [hc3 1 (by decide)]; exact g212
  · rw [if_pos (Or.inr (by omega))] at HE
    exact c_failsC (by decide) b3.2.1.2.2.1 (fun M' a1 a2 a3 => ⟨Or.inl rfl, HE 1 (tS t1) rfl M' (b1.1.tr a1.toRd) a2 a3⟩)
/-- one line of a text -/
theorem c_lineC {f : Int → Mem → Prop} {M : Mem} (hI : PI L s) (h : PrC bs L s M) (HE : ∀ w pl, lineP bs L s = Sum.inl (w, pl) → ∀ M', FrRd M M' → M' 1 9 = w → M' 1 10 = (pl : Int) → f 0 M') (HO : ∀ r, lineP bs L s = Sum.inr r → ∀ M', FrRG M M' → PrC bs L r M' → f 1 M') : CI E mX5_line [pR 1] M f := by
  unfold lineP at HE HO
  apply vX5_line_0
  rw [h.2.1.1]
  have hz0 : ∀ {f : Int → Mem → Prop} {M : Mem}, f 0 M → zR 0 ∧ f 0 M := fun z => ⟨Or.inl rfl, z⟩
  have hz1 : ∀ {f : Int → Mem → Prop} {M : Mem}, f 1 M → zR 1 ∧ f 1 M := fun z => ⟨Or.inr rfl, z⟩
  refine fun _ => ⟨fun c => ?_, fun c => ?_, fun c => ?_, fun c => ?_, fun c => ?_, fun c => ?_, fun c => ?_, fun c => ?_⟩
  · rw [if_pos c] at HE HO
    exact c_lineC_latch hI h (fun w pl e M' a1 a2 a3 => hz0 (HE w pl e M' a1 a2 a3)) (fun r e M' a1 a2 => hz1 (HO r e M' a1 a2))
  · rw [if_neg (by omega), if_pos c] at HE HO
    exact c_lineC_lean hI h (fun w pl e M' a1 a2 a3 => hz0 (HE w pl e M' a1 a2 a3)) (fun r e M' a1 a2 => hz1 (HO r e M' a1 a2))
  · rw [if_neg (by omega), if_neg (by omega), if_pos c] at HE HO
    exact c_lineC_push hI h (fun w pl e M' a1 a2 a3 => hz0 (HE w pl e M' a1 a2 a3)) (fun r e M' a1 a2 => hz1 (HO r e M' a1 a2))
  · rw [if_neg (by omega), if_neg (by omega), if_neg (by omega), if_pos c] at HE HO
    exact c_lineC_oil hI h (fun w pl e M' a1 a2 a3 => hz0 (HE w pl e M' a1 a2 a3)) (fun r e M' a1 a2 => hz1 (HO r e M' a1 a2))
  · rw [if_neg (by omega), if_neg (by omega), if_neg (by omega), if_neg (by omega), if_pos c] at HE HO
    exact c_lineC_rust hI h (fun w pl e M' a1 a2 a3 => hz0 (HE w pl e M' a1 a2 a3)) (fun r e M' a1 a2 => hz1 (HO r e M' a1 a2))
  · rw [if_neg (by omega), if_neg (by omega), if_neg (by omega), if_neg (by omega), if_neg (by omega), if_pos c] at HE HO
    exact c_lineC_seed hI h (fun w pl e M' a1 a2 a3 => hz0 (HE w pl e M' a1 a2 a3)) (fun r e M' a1 a2 => hz1 (HO r e M' a1 a2))
  · rw [if_neg (by omega), if_neg (by omega), if_neg (by omega), if_neg (by omega), if_neg (by omega), if_neg (by omega), if_pos c] at HE HO
    exact c_lineC_law hI h (fun w pl e M' a1 a2 a3 => hz0 (HE w pl e M' a1 a2 a3)) (fun r e M' a1 a2 => hz1 (HO r e M' a1 a2))
  · rw [if_neg (by omega), if_neg (by omega), if_neg (by omega), if_neg (by omega), if_neg (by omega), if_neg (by omega), if_neg (by omega)] at HE
    exact c_failsC (by decide) h.2.1.2.2.1 (fun M' a1 a2 a3 => hz0 (HE 1 (tS (sT s)) rfl M' a1.toRd a2 a3))
end LINESD
