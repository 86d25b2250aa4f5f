/-! lines in the class -/
def FrRG (M M' : Mem) : Prop := FrRd M M' ∧ M' 1 9 = M 1 9 ∧ M' 1 10 = M 1 10 ∧ M' 5 0 = M 5 0
theorem FrRG.rf (M : Mem) : FrRG M M := ⟨FrRd.rf M, rfl, rfl, rfl⟩
theorem FrRG.tr {M M1 M2 : Mem} (h1 : FrRG M M1) (h2 : FrRG M1 M2) : FrRG M M2 := ⟨h1.1.tr h2.1, h2.2.1.trans h1.2.1, h2.2.2.1.trans h1.2.2.1, h2.2.2.2.trans h1.2.2.2⟩
theorem FrTk.toRG {M M' : Mem} (h : FrTk M M') : FrRG M M' := ⟨h.toRd, by rw [h.1 1 (by decide)], by rw [h.1 1 (by decide)], by rw [h.1 5 (by decide)]⟩
theorem FrG.toRG {M M' : Mem} (h : FrG M M') : FrRG M M' := ⟨h.1.toRd, h.2.1, h.2.2, by rw [h.1.1 5 (by decide) (by decide) (by decide) (by decide) (by decide) (by decide) (by decide)]⟩
theorem FrRG.u {M : Mem} {a k : Nat} (v : Int) (h : (a = 1 ∧ k ≠ 9 ∧ k ≠ 10) ∨ (a = 5 ∧ k ≠ 0) ∨ (6 ≤ a ∧ a ≤ 9) ∨ (11 ≤ a ∧ a ≤ 17) ∨ a = 20) : FrRG M (upM M a k v) := by
  refine ⟨FrRd.u v (by omega), ?_, ?_, ?_⟩
  · by_cases e : 1 = a
    · subst e; rw [upM_self, va_up_neq _ _ (by omega)]
    · rw [upM_ne _ _ _ e]
  · by_cases e : 1 = a
    · subst e; rw [upM_self, va_up_neq _ _ (by omega)]
    · rw [upM_ne _ _ _ e]
  · by_cases e : 5 = a
    · subst e; rw [upM_self, va_up_neq _ _ (by omega)]
    · rw [upM_ne _ _ _ e]
section LINESC
variable {E : Scr} {bs : BF} {L : Nat} {s : PSt}
theorem PrC.tk {M M' : Mem} {t : Tk} (h : PrC bs L s M) (hF : FrTk M M') (ht : TC t M') : PrC bs L (t, s.2) M' := by
  obtain ⟨a1, a2, a3, a4, a5, a6, a7, a8, a9, a10, a11, a12⟩ := h
  refine ⟨a1.fr hF, ht, hF.toF.nm a3, ?_, a5.of (hF.1 9 (by decide)), ?_, ?_, ?_, ?_, ?_, a11.of (hF.1 15 (by decide)) (hF.1 16 (by decide)) (hF.1 17 (by decide)), ?_⟩
  · rw [hF.1 5 (by decide)]; exact a4
  · rw [hF.1 5 (by decide), hF.1 7 (by decide), hF.1 8 (by decide)]; exact a6
  · rw [hF.1 5 (by decide), hF.1 11 (by decide), hF.1 12 (by decide)]; exact a7
  · rw [hF.1 5 (by decide), hF.1 13 (by decide)]; exact a8
  · rw [hF.1 5 (by decide), hF.1 1 (by decide)]; exact a9
  · rw [hF.1 14 (by decide)]; exact a10
  · rw [hF.1 1 (by decide)]; exact a12
/-- a token on -/
theorem c_advP {f : Mem → Prop} {M : Mem} (hI : TkI L (sT s)) (h : PrC bs L s M) (H : ∀ M', FrRG M M' → TkI L (tok bs L (tN (sT s))) → tN (sT s) ≤ tS (tok bs L (tN (sT s))) → PrC bs L (tok bs L (tN (sT s)), s.2) M' → f M') : CV E mX8_advance [pR 2] M f :=
  c_advance h.1 hI.2.2.1 h.2.1.2.2.2 (fun M1 b1 b2 => H M1 b1.toRG (tok_I hI.2.2.1).1 (tok_I hI.2.2.1).2 (h.tk b1 b2))
theorem c_lineC_latch {f : Int → Mem → Prop} {M : Mem} (hI : PI L s) (h : PrC bs L s M) (HE : ∀ w pl, latchP bs L s = Sum.inl (w, pl) → ∀ M', FrRd M M' → M' 1 9 = w → M' 1 10 = (pl : Int) → f 0 M') (HO : ∀ r, latchP bs L s = Sum.inr r → ∀ M', FrRG M M' → PrC bs L r M' → f 1 M') : CI E mX5_latchLine [pR 1] M f := by
  obtain ⟨hTk, ⟨hn, hu⟩, hrest⟩ := id hI
  unfold latchP at HE HO
  apply vX5_latchLine_0
  rw [h.2.2.1.1]
  refine fun _ => ⟨fun c8 => ?_, fun c8 => ?_⟩
  · rw [if_neg (by omega)] at HE HO
    refine c_advP hTk h (fun M1 b1 b2 b2' b3 => ?_)
    generalize ht1 : tok bs L (tN (sT s)) = t1 at HE HO b2 b2' b3
    rw [b3.2.1.1, b3.2.1.2.1]
    refine fun _ => ⟨fun c38 => fun _ => ?_, fun c38 => ?_⟩
    · rw [if_neg (fun z => z c38)] at HE HO
      have hv := b2.2.2.2.2.2
      have hN1 : NmC (sN s) (sM s) (sLn s) M1 := b3.2.2.1
      refine c_numberOf (Or.inl rfl) ⟨by omega, by omega⟩ hN1.1 hN1.2.1 hN1.2.2.1 ?_
      have hrg : iR (findN (sM s) (tV t1) (sN s) 0) := by
        rcases findN_c (nm := sM s) (v := tV t1) (sN s) 0 with z | ⟨q, q1, q2, q3⟩
        · rw [z]; exact ⟨by decide, by decide⟩
        · rw [q3]; exact ⟨by omega, by omega⟩
      refine ⟨hrg, fun cf => ?_, fun cf => ?_⟩
      · rw [if_neg (fun z => z cf)] at HE HO
        refine c_advP (s := (t1, s.2)) b2 b3 (fun M2 d1 d2 d2' d3 => ?_)
        have e12 : tok bs L (tN (sT ((t1, s.2) : PSt))) = tok bs L (tN t1) := rfl
        rw [e12] at d2 d2' d3
        generalize ht2 : tok bs L (tN t1) = t2 at HE HO d2 d2' d3
        refine c_numberTo (t := t2) (by decide) d3.2.1 (fun e1 e2 => ⟨⟨by decide, by decide⟩, fun _ => ?_, fun z => absurd z (by decide)⟩) (fun w hw M' a1 a2 a3 => ⟨⟨by decide, by decide⟩, fun z => absurd rfl z, fun _ => ?_⟩)
        · rw [if_neg (fun z => z e1), if_neg (by omega)] at HO
          have hv2 := d2.2.2.2.2.2
          obtain ⟨v2, ev2⟩ : ∃ v2 : Nat, tV t2 = (v2 : Int) := ⟨(tV t2).toNat, by omega⟩
          have hpn : 2 ^ sN s ≤ 2 ^ 7 := Nat.pow_le_pow_right (by decide) (by omega)
          have hvm : v2 * 2 ^ sN s ≤ 1 * 2 ^ sN s := Nat.mul_le_mul_right _ (by omega)
          rw [d3.2.1.2.1]
          intro _
          apply vX1_addLatch_0
          have hN2 : NmC (sN s) (sM s) (sLn s) M2 := d3.2.2.1
          have hU2 : M2 5 2 = (sU s : Int) := d3.2.2.2.1
          rw [hN2.1, hU2, ev2, bShl_nat (by omega) (by omega), bOr_nat (by omega) (by omega), Int.toNat_natCast]
          refine fun _ => ⟨fun z => absurd z (by omega), fun _ _ => ⟨⟨by omega, by omega⟩, ⟨by omega, by omega⟩, fun _ _ _ => ⟨⟨by omega, by omega⟩, ?_⟩⟩⟩
          generalize hM3 : upM (upM (upM M2 6 (sN s) (tV t1)) 5 2 ((sU s ||| v2 * 2 ^ sN s : Nat) : Int)) 5 1 ((sN s : Int) + 1) = M3
          have hG3 : FrRG M M3 := by rw [← hM3]; exact (((b1.tr d1).tr (FrRG.u _ (by omega))).tr (FrRG.u _ (by omega))).tr (FrRG.u _ (by omega))
          have hc3 : ∀ a, a ≠ 5 → a ≠ 6 → M3 a = M2 a := fun a a1 a2 => by rw [← hM3, upM_ne _ _ _ a1, upM_ne _ _ _ a1, upM_ne _ _ _ a2]
          have h53 : ∀ q, q ≠ 1 → q ≠ 2 → M3 5 q = M2 5 q := fun q q1 q2 => by rw [← hM3, upM_self, va_up_neq _ _ q1, upM_self, va_up_neq _ _ q2, upM_ne _ _ _ (by decide)]
          obtain ⟨a1, a2, a3, a4, a5, a6, a7, a8, a9, a10, a11, a12⟩ := d3
          have hP3 : PrC bs L (t2, (sN s + 1, upN (sM s) (sN s) (tV t1), sU s ||| (tV t2).toNat * 2 ^ sN s), s.2.2) M3 := by
            refine ⟨hG3.1.tp h.1, a2.of (hc3 2 (by decide) (by decide)), ⟨?_, by show sN s + 1 ≤ 8; omega, fun l hl => ?_, ?_, a3.2.2.2.2⟩, ?_, a5.of (hc3 9 (by decide) (by decide)), ?_, ?_, ?_, ?_, ?_, a11.of (hc3 15 (by decide) (by decide)) (hc3 16 (by decide) (by decide)) (hc3 17 (by decide) (by decide)), ?_⟩
            · rw [← hM3]; show (sN s : Int) + 1 = ((sN s + 1 : Nat) : Int); omega
            · have hl' : l < sN s + 1 := hl
              show M3 6 l = upN (sM s) (sN s) (tV t1) l
              rw [← hM3, upM_ne _ _ _ (by decide), upM_ne _ _ _ (by decide), upM_self]
              by_cases e : l = sN s
              · rw [e, va_up_self, upN_self]
              · rw [va_up_neq _ _ e, upN_ne _ _ e]; exact a3.2.2.1 l (by show l < sN s; omega)
            · rw [h53 5 (by decide) (by decide)]; exact a3.2.2.2.1
            · rw [← hM3]; show ((sU s ||| v2 * 2 ^ sN s : Nat) : Int) = ((sU s ||| (tV t2).toNat * 2 ^ sN s : Nat) : Int); rw [ev2, Int.toNat_natCast]
            · rw [h53 4 (by decide) (by decide), hc3 7 (by decide) (by decide), hc3 8 (by decide) (by decide)]; exact a6
            · rw [h53 10 (by decide) (by decide), hc3 11 (by decide) (by decide), hc3 12 (by decide) (by decide)]; exact a7
            · rw [h53 13 (by decide) (by decide), hc3 13 (by decide) (by decide)]; exact a8
            · rw [h53 15 (by decide) (by decide), h53 16 (by decide) (by decide), hc3 1 (by decide) (by decide)]; exact a9
            · rw [hc3 14 (by decide) (by decide)]; exact a10
            · rw [hc3 1 (by decide) (by decide)]; exact a12
          exact c_advP (s := (t2, (sN s + 1, upN (sM s) (sN s) (tV t1), sU s ||| (tV t2).toNat * 2 ^ sN s), s.2.2)) d2 hP3 (fun M4 k1 _ _ k3 => HO _ rfl M4 (hG3.tr k1) k3)
        · refine HE w (tS t2) ?_ M' ((b1.tr d1).1.tr a1.toRd) a2 a3
          rcases hw with ⟨z1, z2⟩ | ⟨z1, z2, z3⟩
          · rw [if_pos z1, z2]
          · rw [if_neg (fun z => z z1), if_pos z2, z3]
      · rw [if_pos cf] at HE
        exact c_failsC (by decide) b3.2.1.2.2.1 (fun M' a1 a2 a3 => ⟨Or.inl rfl, HE 3 (tS t1) rfl M' (b1.1.tr a1.toRd) a2 a3⟩)
    · rw [if_pos c38] at HE
      exact c_failsC (by decide) b3.2.1.2.2.1 (fun M' a1 a2 a3 => ⟨Or.inl rfl, HE 1 (tS t1) rfl M' (b1.1.tr a1.toRd) a2 a3⟩)
  · rw [if_pos (by omega)] at HE
    exact c_failsC (by decide) h.2.1.2.2.1 (fun M' a1 a2 a3 => ⟨Or.inl rfl, HE 2 (tS (sT s)) rfl M' a1.toRd a2 a3⟩)
theorem c_lineC_push {f : Int → Mem → Prop} {M : Mem} (hI : PI L s) (h : PrC bs L s M) (HE : ∀ w pl, pushP bs L s = Sum.inl (w, pl) → ∀ M', FrRd M M' → M' 1 9 = w → M' 1 10 = (pl : Int) → f 0 M') (HO : ∀ r, pushP bs L s = Sum.inr r → ∀ M', FrRG M M' → PrC bs L r M' → f 1 M') : CI E mX5_pushLine [pR 1] M f := by
  obtain ⟨hTk, ⟨hn, hu⟩, hrest⟩ := id hI
  have hpl := hI.2.2.2.1.1
  unfold pushP at HE HO
  apply vX5_pushLine_0
  rw [h.2.2.2.2.2.2.1.1]
  refine fun _ => ⟨fun c16 => ?_, fun c16 => ?_⟩
  · rw [if_neg (by omega)] at HE HO
    refine c_advP hTk h (fun M1 b1 b2 b2' b3 => ?_)
    generalize ht1 : tok bs L (tN (sT s)) = t1 at HE HO b2 b2' b3
    have hv := b2.2.2.2.2.2
    have hN1 : NmC (sN s) (sM s) (sLn s) M1 := b3.2.2.1
    refine c_toldLatch (t := t1) hv b3.2.1 hN1 (fun c38 cf => ⟨⟨by decide, by decide⟩, fun _ => ?_, fun z => absurd z (by decide)⟩) (fun w hw M' a1 a2 a3 => ⟨⟨by decide, by decide⟩, fun z => absurd rfl z, fun _ => HE w (tS t1) ?_ M' (b1.1.tr a1.toRd) a2 a3⟩)
    · rw [if_neg (fun z => z c38), if_neg cf] at HE HO
      rcases findN_c (nm := sM s) (v := tV t1) (sN s) 0 with z | ⟨o, o1, o2, o3⟩
      · exact absurd z cf
      rw [o3, Int.toNat_natCast] at HO
      rw [b3.2.1.2.1]
      refine fun _ => c_numberOf (Or.inl rfl) ⟨by omega, by omega⟩ hN1.1 hN1.2.1 hN1.2.2.1 ?_
      rw [o3]
      refine c_advP (s := (t1, s.2)) b2 b3 (fun M2 d1 d2 d2' d3 => ?_)
      have e12 : tok bs L (tN (sT ((t1, s.2) : PSt))) = tok bs L (tN t1) := rfl
      rw [e12] at d2 d2' d3
      generalize ht2 : tok bs L (tN t1) = t2 at HE HO d2 d2' d3
      refine c_numberTo (t := t2) (by decide) d3.2.1 (fun e1 e2 => ⟨⟨by decide, by decide⟩, fun _ => ?_, fun z => absurd z (by decide)⟩) (fun w hw M' a1 a2 a3 => ⟨⟨by decide, by decide⟩, fun z => absurd rfl z, fun _ => ?_⟩)
      · rw [if_neg (fun z => z e1), if_neg (by omega)] at HO
        have hv2 := d2.2.2.2.2.2
        obtain ⟨a1, a2, a3, a4, a5, a6, a7, a8, a9, a10, a11, a12⟩ := id d3
        rw [a2.2.1]
        intro _
        apply vX1_addPush_0
        have e10 : M2 5 10 = ((sPu s).length : Int) := a7.1
        rw [e10, Int.toNat_natCast]
        have hlen : (sPu s).length < 16 := by omega
        refine fun _ => ⟨fun z => absurd z (by omega), fun _ _ => ⟨⟨by omega, by omega⟩, ⟨by omega, by omega⟩, fun _ => ⟨⟨by omega, by omega⟩, ⟨by omega, by omega⟩, fun _ => ⟨⟨by omega, by omega⟩, ?_⟩⟩⟩⟩
        generalize hM3 : upM (upM (upM M2 11 (sPu s).length (o : Int)) 12 (sPu s).length (tV t2)) 5 10 (((sPu s).length : Int) + 1) = M3
        have hG3 : FrRG M M3 := by rw [← hM3]; exact (((b1.tr d1).tr (FrRG.u _ (by omega))).tr (FrRG.u _ (by omega))).tr (FrRG.u _ (by omega))
        have hc3 : ∀ a, a ≠ 5 → a ≠ 11 → a ≠ 12 → M3 a = M2 a := fun a a1 a2 a3 => by rw [← hM3, upM_ne _ _ _ a1, upM_ne _ _ _ a3, upM_ne _ _ _ a2]
        have h53 : ∀ q, q ≠ 10 → M3 5 q = M2 5 q := fun q q1 => by rw [← hM3, upM_self, va_up_neq _ _ q1, upM_ne _ _ _ (by decide), upM_ne _ _ _ (by decide)]
        have hP3 : PrC bs L (t2, s.2.1, s.2.2.1, (sPu s ++ [(o, tV t2)], sOi s), s.2.2.2.2) M3 := by
          refine ⟨hG3.1.tp h.1, a2.of (hc3 2 (by decide) (by decide) (by decide)), ?_, ?_, a5.of (hc3 9 (by decide) (by decide) (by decide)), ?_, ⟨?_, fun i q m hq => ?_⟩, ?_, ?_, ?_, a11.of (hc3 15 (by decide) (by decide) (by decide)) (hc3 16 (by decide) (by decide) (by decide)) (hc3 17 (by decide) (by decide) (by decide)), ?_⟩
          · unfold NmC; rw [h53 1 (by decide), h53 5 (by decide), hc3 6 (by decide) (by decide) (by decide)]; exact a3
          · rw [h53 2 (by decide)]; exact a4
          · rw [h53 4 (by decide), hc3 7 (by decide) (by decide) (by decide), hc3 8 (by decide) (by decide) (by decide)]; exact a6
          · rw [← hM3]; show ((sPu s).length : Int) + 1 = ((sPu s ++ [(o, tV t2)]).length : Int); rw [List.length_append]; show _ = (((sPu s).length + 1 : Nat) : Int); omega
          · have hq' : (sPu s ++ [(o, tV t2)])[i]? = some (q, m) := hq
            have e11 : M3 11 = va_up (M2 11) (sPu s).length (o : Int) := by rw [← hM3]; rfl
            have e12 : M3 12 = va_up (M2 12) (sPu s).length (tV t2) := by rw [← hM3]; rfl
            rw [e11, e12]
            rcases Nat.lt_trichotomy i (sPu s).length with c | c | c
            · rw [List.getElem?_append_left c] at hq'
              rw [va_up_neq _ _ (by omega), va_up_neq _ _ (by omega)]
              exact a7.2 i q m hq'
            · subst c
              rw [List.getElem?_append_right (Nat.le_refl _), Nat.sub_self] at hq'
              have he' : some (o, tV t2) = some (q, m) := hq'
              cases he'
              rw [va_up_self, va_up_self]; exact ⟨rfl, rfl⟩
            · rw [List.getElem?_eq_none (by rw [List.length_append]; show (sPu s).length + 1 ≤ i; omega)] at hq'
              exact absurd hq' (by simp)
          · rw [h53 13 (by decide), hc3 13 (by decide) (by decide) (by decide)]; exact a8
          · rw [h53 15 (by decide), h53 16 (by decide), hc3 1 (by decide) (by decide) (by decide)]; exact a9
          · rw [hc3 14 (by decide) (by decide) (by decide)]; exact a10
          · rw [hc3 1 (by decide) (by decide) (by decide)]; exact a12
        exact c_advP (s := (t2, s.2.1, s.2.2.1, (sPu s ++ [(o, tV t2)], sOi s), s.2.2.2.2)) d2 hP3 (fun M4 k1 _ _ k3 => HO _ rfl M4 (hG3.tr k1) k3)
      · refine HE w (tS t2) ?_ M' ((b1.tr d1).1.tr a1.toRd) a2 a3
        rcases hw with ⟨z1, z2⟩ | ⟨z1, z2, z3⟩
        · rw [if_pos z1, z2]
        · rw [if_neg (fun z => z z1), if_pos z2, z3]
    · rcases hw with ⟨z1, z2⟩ | ⟨z1, z2, z3⟩
      · rw [if_pos z1, z2]
      · rw [if_neg (fun z => z z1), if_pos z2, z3]
  · rw [if_pos (by omega)] at HE
    exact c_failsC (by decide) h.2.1.2.2.1 (fun M' a1 a2 a3 => ⟨Or.inl rfl, HE 2 (tS (sT s)) rfl M' a1.toRd a2 a3⟩)
theorem c_lineC_oil {f : Int → Mem → Prop} {M : Mem} (hI : PI L s) (h : PrC bs L s M) (HE : ∀ w pl, oilP bs L s = Sum.inl (w, pl) → ∀ M', FrRd M M' → M' 1 9 = w → M' 1 10 = (pl : Int) → f 0 M') (HO : ∀ r, oilP bs L s = Sum.inr r → ∀ M', FrRG M M' → PrC bs L r M' → f 1 M') : CI E mX5_oilLine [pR 1] M f := by
  obtain ⟨hTk, ⟨hn, hu⟩, hrest⟩ := id hI
  have hpl := hI.2.2.2.1.2
  unfold oilP at HE HO
  apply vX5_oilLine_0
  rw [h.2.2.2.2.2.2.2.1.1]
  refine fun _ => ⟨fun c16 => ?_, fun c16 => ?_⟩
  · rw [if_neg (by omega)] at HE HO
    refine c_advP hTk h (fun M2 b1 d2 b2' d3 => ?_)
    generalize ht1 : tok bs L (tN (sT s)) = t2 at HE HO d2 b2' d3
    refine c_numberTo (t := t2) (by decide) d3.2.1 (fun e1 e2 => ⟨⟨by decide, by decide⟩, fun _ => ?_, fun z => absurd z (by decide)⟩) (fun w hw M' a1 a2 a3 => ⟨⟨by decide, by decide⟩, fun z => absurd rfl z, fun _ => ?_⟩)
    · rw [if_neg (fun z => z e1), if_neg (by omega)] at HO
      have hv2 := d2.2.2.2.2.2
      obtain ⟨a1, a2, a3, a4, a5, a6, a7, a8, a9, a10, a11, a12⟩ := id d3
      rw [a2.2.1]
      intro _
      apply vX1_addOil_0
      have e10 : M2 5 13 = ((sOi s).length : Int) := a8.1
      rw [e10, Int.toNat_natCast]
      have hlen : (sOi s).length < 4 := by omega
      refine fun _ => ⟨fun z => absurd z (by omega), fun _ _ => ⟨⟨by omega, by omega⟩, ⟨by omega, by omega⟩, fun _ => ⟨⟨by omega, by omega⟩, ?_⟩⟩⟩
      generalize hM3 : upM (upM M2 13 (sOi s).length (tV t2)) 5 13 (((sOi s).length : Int) + 1) = M3
      have hG3 : FrRG M M3 := by rw [← hM3]; exact (b1.tr (FrRG.u _ (by omega))).tr (FrRG.u _ (by omega))
      have hc3 : ∀ a, a ≠ 5 → a ≠ 13 → M3 a = M2 a := fun a a1 a2 => by rw [← hM3, upM_ne _ _ _ a1, upM_ne _ _ _ a2]
      have h53 : ∀ q, q ≠ 13 → M3 5 q = M2 5 q := fun q q1 => by rw [← hM3, upM_self, va_up_neq _ _ q1, upM_ne _ _ _ (by decide)]
      have hP3 : PrC bs L (t2, s.2.1, s.2.2.1, (sPu s, sOi s ++ [tV t2]), s.2.2.2.2) M3 := by
        refine ⟨hG3.1.tp h.1, a2.of (hc3 2 (by decide) (by decide)), ?_, ?_, a5.of (hc3 9 (by decide) (by decide)), ?_, ?_, ⟨?_, fun i m hq => ?_⟩, ?_, ?_, a11.of (hc3 15 (by decide) (by decide)) (hc3 16 (by decide) (by decide)) (hc3 17 (by decide) (by decide)), ?_⟩
        · unfold NmC; rw [h53 1 (by decide), h53 5 (by decide), hc3 6 (by decide) (by decide)]; exact a3
        · rw [h53 2 (by decide)]; exact a4
        · rw [h53 4 (by decide), hc3 7 (by decide) (by decide), hc3 8 (by decide) (by decide)]; exact a6
        · rw [h53 10 (by decide), hc3 11 (by decide) (by decide), hc3 12 (by decide) (by decide)]; exact a7
        · rw [← hM3]; show ((sOi s).length : Int) + 1 = ((sOi s ++ [tV t2]).length : Int); rw [List.length_append]; show _ = (((sOi s).length + 1 : Nat) : Int); omega
        · have hq' : (sOi s ++ [tV t2])[i]? = some m := hq
          have e11 : M3 13 = va_up (M2 13) (sOi s).length (tV t2) := by rw [← hM3]; rfl
          rw [e11]
          rcases Nat.lt_trichotomy i (sOi s).length with c | c | c
          · rw [List.getElem?_append_left c] at hq'
            rw [va_up_neq _ _ (by omega)]
            exact a8.2 i m hq'
          · subst c
            rw [List.getElem?_append_right (Nat.le_refl _), Nat.sub_self] at hq'
            have he' : some (tV t2) = some m := hq'
            cases he'
            rw [va_up_self]
          · rw [List.getElem?_eq_none (by rw [List.length_append]; show (sOi s).length + 1 ≤ i; omega)] at hq'
            exact absurd hq' (by simp)
        · rw [h53 15 (by decide), h53 16 (by decide), hc3 1 (by decide) (by decide)]; exact a9
        · rw [hc3 14 (by decide) (by decide)]; exact a10
        · rw [hc3 1 (by decide) (by decide)]; exact a12
      exact c_advP (s := (t2, s.2.1, s.2.2.1, (sPu s, sOi s ++ [tV t2]), s.2.2.2.2)) d2 hP3 (fun M4 k1 _ _ k3 => HO _ rfl M4 (hG3.tr k1) k3)
    · refine HE w (tS t2) ?_ M' (b1.1.tr a1.toRd) a2 a3
      rcases hw with ⟨z1, z2⟩ | ⟨z1, z2, z3⟩
      · rw [if_pos z1, z2]
      · rw [if_neg (fun z => z z1), if_pos z2, z3]
  · rw [if_pos (by omega)] at HE
    exact c_failsC (by decide) h.2.1.2.2.1 (fun M' a1 a2 a3 => ⟨Or.inl rfl, HE 2 (tS (sT s)) rfl M' a1.toRd a2 a3⟩)
theorem c_onceC {f : Int → Mem → Prop} {M : Mem} {b : Bool} {most : Int} (hm : 0 ≤ most ∧ most ≤ 99999) (hTk : TkI L (sT s)) (h : PrC bs L s M) (HE : ∀ w pl, (b = true ∧ w = 3 ∧ pl = tS (sT s) ∨ b = false ∧ pl = tS (tok bs L (tN (sT s))) ∧ (tK (tok bs L (tN (sT s))) ≠ 37 ∧ w = 1 ∨ tK (tok bs L (tN (sT s))) = 37 ∧ most < tV (tok bs L (tN (sT s))) ∧ w = 2)) → ∀ M', FrRd M M' → M' 1 9 = w → M' 1 10 = (pl : Int) → f 0 M') (HO : b = false → tK (tok bs L (tN (sT s))) = 37 → tV (tok bs L (tN (sT s))) ≤ most → ∀ M', FrRG M M' → TkI L (tok bs L (tN (sT s))) → PrC bs L (tok bs L (tN (sT s)), s.2) M' → f 1 M') : CI E mX5_once [pR 1, pI (bI b), pI most] M f := by
  cases b with
  | true =>
    refine vX5_once_0 _ _ ⟨⟨by decide, by decide⟩, fun z => absurd z (by decide), fun _ => c_failsC (by decide) h.2.1.2.2.1 (fun M' a1 a2 a3 => ⟨Or.inl rfl, HE 3 (tS (sT s)) (Or.inl ⟨rfl, rfl, rfl⟩) M' a1.toRd a2 a3⟩)⟩
  | false =>
    refine vX5_once_0 _ _ ⟨⟨by decide, by decide⟩, fun _ => c_advP hTk h (fun M1 b1 b2 b2' b3 => ?_), fun z => absurd rfl z⟩
    exact c_numberTo (t := tok bs L (tN (sT s))) hm b3.2.1 (fun e1 e2 => ⟨Or.inr rfl, HO rfl e1 e2 M1 b1 b2 b3⟩) (fun w hw M' a1 a2 a3 => ⟨Or.inl rfl, HE w _ (Or.inr ⟨rfl, rfl, hw⟩) M' (b1.1.tr a1.toRd) a2 a3⟩)
theorem c_lineC_rust {f : Int → Mem → Prop} {M : Mem} (hI : PI L s) (h : PrC bs L s M) (HE : ∀ w pl, rustP bs L s = Sum.inl (w, pl) → ∀ M', FrRd M M' → M' 1 9 = w → M' 1 10 = (pl : Int) → f 0 M') (HO : ∀ r, rustP bs L s = Sum.inr r → ∀ M', FrRG M M' → PrC bs L r M' → f 1 M') : CI E mX5_rustLine [pR 1] M f := by
  obtain ⟨hTk, -⟩ := id hI
  unfold rustP at HE HO
  apply vX5_rustLine_0
  rw [h.2.2.2.2.2.2.2.2.1.2.2.1]
  refine fun _ => c_onceC (by decide) hTk h (fun w pl hw M' a1 a2 a3 => ⟨⟨by decide, by decide⟩, fun z => absurd rfl z, fun _ => HE w pl ?_ M' a1 a2 a3⟩) (fun hb e1 e2 M2 b1 d2 d3 => ⟨⟨by decide, by decide⟩, fun _ => ?_, fun z => absurd z (by decide)⟩)
  · rcases hw with ⟨z1, z2, z3⟩ | ⟨z1, z2, z3⟩
    · rw [if_pos z1, z2, z3]
    · rw [if_neg (by rw [z1]; decide), z2]
      rcases z3 with ⟨z4, z5⟩ | ⟨z4, z5, z6⟩
      · rw [if_pos z4, z5]
      · rw [if_neg (fun z => z z4), if_pos z5, z6]
  · rw [if_neg (by rw [hb]; decide), if_neg (fun z => z e1), if_neg (by omega)] at HO
    generalize ht1 : tok bs L (tN (sT s)) = t2 at HO d2 d3
    have hv2 := d2.2.2.2.2.2
    obtain ⟨a1, a2, a3, a4, a5, a6, a7, a8, a9, a10, a11, a12⟩ := id d3
    rw [a2.2.1]
    intro _
    generalize hM3 : upM (upM M2 1 7 1) 5 15 (tV t2) = M3
    have hG3 : FrRG M M3 := by rw [← hM3]; exact (b1.tr (FrRG.u _ (by omega))).tr (FrRG.u _ (by omega))
    have hc3 : ∀ a, a ≠ 5 → a ≠ 1 → M3 a = M2 a := fun a a1 a2 => by rw [← hM3, upM_ne _ _ _ a1, upM_ne _ _ _ a2]
    have h53 : ∀ q, q ≠ 15 → M3 5 q = M2 5 q := fun q q1 => by rw [← hM3, upM_self, va_up_neq _ _ q1, upM_ne _ _ _ (by decide)]
    have h13 : ∀ q, q ≠ 7 → M3 1 q = M2 1 q := fun q q1 => by rw [← hM3, upM_ne _ _ _ (by decide), upM_self, va_up_neq _ _ q1]
    have hP3 : PrC bs L (t2, s.2.1, s.2.2.1, s.2.2.2.1, (tV t2, sSe s, true, sSd s), s.2.2.2.2.2) M3 := by
      refine ⟨hG3.1.tp h.1, a2.of (hc3 2 (by decide) (by decide)), ?_, ?_, a5.of (hc3 9 (by decide) (by decide)), ?_, ?_, ?_, ⟨?_, ?_, ?_, ?_⟩, ?_, a11.of (hc3 15 (by decide) (by decide)) (hc3 16 (by decide) (by decide)) (hc3 17 (by decide) (by decide)), ?_⟩
      · unfold NmC; rw [h53 1 (by decide), h53 5 (by decide), hc3 6 (by decide) (by decide)]; exact a3
      · rw [h53 2 (by decide)]; exact a4
      · rw [h53 4 (by decide), hc3 7 (by decide) (by decide), hc3 8 (by decide) (by decide)]; exact a6
      · rw [h53 10 (by decide), hc3 11 (by decide) (by decide), hc3 12 (by decide) (by decide)]; exact a7
      · rw [h53 13 (by decide), hc3 13 (by decide) (by decide)]; exact a8
      · rw [← hM3]; rfl
      · rw [h53 16 (by decide)]; exact a9.2.1
      · rw [← hM3]; rfl
      · rw [h13 8 (by decide)]; exact a9.2.2.2
      · rw [hc3 14 (by decide) (by decide)]; exact a10
      · rw [h13 6 (by decide)]; exact a12
    exact c_advP (s := (t2, s.2.1, s.2.2.1, s.2.2.2.1, (tV t2, sSe s, true, sSd s), s.2.2.2.2.2)) d2 hP3 (fun M4 k1 _ _ k3 => HO _ rfl M4 (hG3.tr k1) k3)
theorem c_lineC_seed {f : Int → Mem → Prop} {M : Mem} (hI : PI L s) (h : PrC bs L s M) (HE : ∀ w pl, seedP bs L s = Sum.inl (w, pl) → ∀ M', FrRd M M' → M' 1 9 = w → M' 1 10 = (pl : Int) → f 0 M') (HO : ∀ r, seedP bs L s = Sum.inr r → ∀ M', FrRG M M' → PrC bs L r M' → f 1 M') : CI E mX5_seedLine [pR 1] M f := by
  obtain ⟨hTk, -⟩ := id hI
  unfold seedP at HE HO
  apply vX5_seedLine_0
  rw [h.2.2.2.2.2.2.2.2.1.2.2.2]
  refine fun _ => c_onceC (by decide) hTk h (fun w pl hw M' a1 a2 a3 => ⟨⟨by decide, by decide⟩, fun z => absurd rfl z, fun _ => HE w pl ?_ M' a1 a2 a3⟩) (fun hb e1 e2 M2 b1 d2 d3 => ⟨⟨by decide, by decide⟩, fun _ => ?_, fun z => absurd z (by decide)⟩)
  · rcases hw with ⟨z1, z2, z3⟩ | ⟨z1, z2, z3⟩
    · rw [if_pos z1, z2, z3]
    · rw [if_neg (by rw [z1]; decide), z2]
      rcases z3 with ⟨z4, z5⟩ | ⟨z4, z5, z6⟩
      · rw [if_pos z4, z5]
      · rw [if_neg (fun z => z z4), if_pos z5, z6]
  · rw [if_neg (by rw [hb]; decide), if_neg (fun z => z e1), if_neg (by omega)] at HO
    generalize ht1 : tok bs L (tN (sT s)) = t2 at HO d2 d3
    have hv2 := d2.2.2.2.2.2
    obtain ⟨a1, a2, a3, a4, a5, a6, a7, a8, a9, a10, a11, a12⟩ := id d3
    rw [a2.2.1]
    intro _
    generalize hM3 : upM (upM M2 1 8 1) 5 16 (tV t2) = M3
    have hG3 : FrRG M M3 := by rw [← hM3]; exact (b1.tr (FrRG.u _ (by omega))).tr (FrRG.u _ (by omega))
    have hc3 : ∀ a, a ≠ 5 → a ≠ 1 → M3 a = M2 a := fun a a1 a2 => by rw [← hM3, upM_ne _ _ _ a1, upM_ne _ _ _ a2]
    have h53 : ∀ q, q ≠ 16 → M3 5 q = M2 5 q := fun q q1 => by rw [← hM3, upM_self, va_up_neq _ _ q1, upM_ne _ _ _ (by decide)]
    have h13 : ∀ q, q ≠ 8 → M3 1 q = M2 1 q := fun q q1 => by rw [← hM3, upM_ne _ _ _ (by decide), upM_self, va_up_neq _ _ q1]
    have hP3 : PrC bs L (t2, s.2.1, s.2.2.1, s.2.2.2.1, (sRu s, tV t2, sRd s, true), s.2.2.2.2.2) M3 := by
      refine ⟨hG3.1.tp h.1, a2.of (hc3 2 (by decide) (by decide)), ?_, ?_, a5.of (hc3 9 (by decide) (by decide)), ?_, ?_, ?_, ⟨?_, ?_, ?_, ?_⟩, ?_, a11.of (hc3 15 (by decide) (by decide)) (hc3 16 (by decide) (by decide)) (hc3 17 (by decide) (by decide)), ?_⟩
      · unfold NmC; rw [h53 1 (by decide), h53 5 (by decide), hc3 6 (by decide) (by decide)]; exact a3
      · rw [h53 2 (by decide)]; exact a4
      · rw [h53 4 (by decide), hc3 7 (by decide) (by decide), hc3 8 (by decide) (by decide)]; exact a6
      · rw [h53 10 (by decide), hc3 11 (by decide) (by decide), hc3 12 (by decide) (by decide)]; exact a7
      · rw [h53 13 (by decide), hc3 13 (by decide) (by decide)]; exact a8
      · rw [h53 15 (by decide)]; exact a9.1
      · rw [← hM3]; rfl
      · rw [h13 7 (by decide)]; exact a9.2.2.1
      · rw [← hM3]; rfl
      · rw [hc3 14 (by decide) (by decide)]; exact a10
      · rw [h13 6 (by decide)]; exact a12
    exact c_advP (s := (t2, s.2.1, s.2.2.1, s.2.2.2.1, (sRu s, tV t2, sRd s, true), s.2.2.2.2.2)) d2 hP3 (fun M4 k1 _ _ k3 => HO _ rfl M4 (hG3.tr k1) k3)
end LINESC
