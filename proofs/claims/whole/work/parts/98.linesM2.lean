section LINESM2
variable {E : Scr} {bs : BF} {L : Nat} {s : PSt}
theorem snoc_get {α : Type} {l : List α} {a b : α} {i : Nat} (h : (l ++ [a])[i]? = some b) : (i < l.length ∧ l[i]? = some b) ∨ (i = l.length ∧ a = b) := by
  rcases Nat.lt_trichotomy i l.length with c | c | c
  · rw [List.getElem?_append_left c] at h; exact Or.inl ⟨c, h⟩
  · subst c
    rw [List.getElem?_append_right (Nat.le_refl _), Nat.sub_self] at h
    have h' : some a = some b := h
    cases h'; exact Or.inr ⟨rfl, rfl⟩
  · rw [List.getElem?_eq_none (by rw [List.length_append]; show l.length + 1 ≤ i; omega)] at h
    exact absurd h (by simp)
theorem c_lineM_push {f : Int → Mem → Prop} {M : Mem} (hI : PI L s) (h : PMr bs L s M) (HE : ∀ w pl, pushP bs L s = Sum.inl (w, pl) → ∀ M', FrRm M M' → M' 98 4 = w → M' 98 5 = (pl : Int) → f 0 M') (HO : ∀ r, pushP bs L s = Sum.inr r → ∀ M', FrRm M M' → M' 98 4 = M 98 4 → M' 98 5 = M 98 5 → PMr bs L r M' → f 1 M') : CI E mX11_pushLine [pR 98] M f := by
  obtain ⟨hTk, ⟨hn, hu⟩, ⟨hln, hlt, hlo, hll⟩, ⟨hps, -⟩, -⟩ := id hI
  unfold pushP at HE HO
  apply vX11_pushLine_0
  rw [h.2.2.2.2.2.2.1.1]
  refine fun _ => ⟨fun c8 => ?_, fun c8 => ?_⟩
  · rw [if_neg (by omega)] at HE HO
    refine c_tokP hTk h (fun M1 b1 b2 b3 => ?_)
    generalize ht1 : tok bs L (tN (sT s)) = t1 at HE HO b2 b3
    have e17 : M1 98 17 = ((sPu s).length : Int) := b3.2.2.2.2.2.2.1.1
    rw [e17]
    refine fun _ => c_latchThere (t := t1) b2 b3.1 b3.2.2.1 b3.2.1 (fun h38 o ho ef M2 d1 d2 d3 d4 d5 => ⟨⟨by decide, by decide⟩, fun _ => ?_, fun z => absurd z (by decide)⟩) (fun w hw M2 g1 g2 g3 => ⟨⟨by decide, by decide⟩, fun z => absurd rfl z, fun _ => HE w (tS t1) ?_ M2 (b1.toH.toRm.tr g1.toRm) g2 g3⟩)
    · replace ho : o < sN s := ho
      replace ef : findN (sM s) (tV t1) (sN s) 0 = (o : Int) := ef
      rw [if_neg (fun y => y h38), ef, if_neg (by omega), Int.toNat_natCast] at HE HO
      rw [d4, show ((16 : Int) + ((sPu s).length : Int)).toNat = 16 + (sPu s).length by omega]
      refine fun _ => ⟨⟨by omega, by omega⟩, ?_⟩
      have i2 := (tok_I (bs := bs) b2.2.2.1).1
      generalize ht2 : tok bs L (tN t1) = t2 at HE HO d5 i2
      generalize hM2 : upM M2 107 (16 + (sPu s).length) (o : Int) = M3
      have hT3 : TPm bs L M3 := by rw [← hM2]; exact d1.1.tp b3.1
      have hk3 : TM t2 M3 := by rw [← hM2]; exact d5
      have hQ3 : FrRm M M3 := by rw [← hM2]; exact (b1.toH.toRm.tr d1.1.toRm).tr (FrRm.uA _ (by omega) (by unfold lowH; omega))
      refine c_number (by decide) i2 hT3 hk3 (fun e1 e2 M4 g1 g2 g3 g4 g5 => ⟨⟨by decide, by decide⟩, fun _ => ?_, fun z => absurd z (by decide)⟩) (fun w hw M4 g1 g2 g3 => ⟨⟨by decide, by decide⟩, fun z => absurd rfl z, fun _ => HE w (tS t2) ?_ M4 (hQ3.tr g1.toRm) g2 g3⟩)
      · rw [if_neg (fun y => y e1), if_neg (by omega)] at HO
        have hv2 := i2.2.2.2.2.2
        have q13 : ∀ q, ¬ (7 ≤ q ∧ q ≤ 11) → M4 98 q = M1 98 q := fun q hq => by rw [g3 q hq, ← hM2, upM_ne _ _ _ (by decide), d3 q hq]
        have c13 : ∀ a, a ≠ 98 → a ≠ 107 → M4 a = M1 a := fun a a1 a2 => by rw [g2 a a1, ← hM2, upM_ne _ _ _ a2, d2 a a1]
        have e17' : M4 98 17 = ((sPu s).length : Int) := by rw [q13 17 (by decide)]; exact e17
        rw [e17', g4]
        refine fun _ => ⟨⟨by omega, by omega⟩, fun _ => ⟨⟨by omega, by omega⟩, ?_⟩⟩
        generalize hM5 : upM (upM M4 108 (16 + (sPu s).length) (tV t2)) 98 17 (((sPu s).length : Int) + 1) = M5
        have hcc : ∀ a, a ≠ 98 → a ≠ 107 → a ≠ 108 → M5 a = M1 a := fun a a1 a2 a3 => by rw [← hM5, upM_ne _ _ _ a1, upM_ne _ _ _ a3, c13 a a1 a2]
        have hqq : ∀ q, ¬ (7 ≤ q ∧ q ≤ 11) → q ≠ 17 → M5 98 q = M1 98 q := fun q q1 q2 => by rw [← hM5, upM_self, va_up_neq _ _ q2, upM_ne _ _ _ (by decide)]; exact q13 q q1
        have hqt : ∀ q, 7 ≤ q → q ≤ 10 → M5 98 q = M4 98 q := fun q q1 q2 => by rw [← hM5, upM_self, va_up_neq _ _ (by omega), upM_ne _ _ _ (by decide)]
        have hQ : FrRm M M5 := by
          rw [← hM5]
          exact ((hQ3.tr g1.1.toRm).tr (FrRm.uA _ (by omega) (by unfold lowH; omega))).tr (FrRm.u98 _ (by omega))
        obtain ⟨p1, p2, p3, p4, p5, p6, p7, p8, p9, p10, p11, p12⟩ := b3
        refine HO _ rfl M5 hQ (by rw [hqq 4 (by decide) (by decide), b1.2 4 (by decide)]) (by rw [hqq 5 (by decide) (by decide), b1.2 5 (by decide)]) ⟨?_, g5.of hqt, ?_, ?_, ?_, p6.of (hcc 106 (by decide) (by decide) (by decide)), ⟨?_, fun i q m hq => ?_⟩, ?_, ?_, ?_, ?_, ?_⟩
        · unfold TPm; rw [hqq 6 (by decide) (by decide), hcc 99 (by decide) (by decide) (by decide), hcc 100 (by decide) (by decide) (by decide)]; exact p1
        · unfold NmM; rw [hqq 16 (by decide) (by decide), hcc 103 (by decide) (by decide) (by decide), hcc 105 (by decide) (by decide) (by decide)]; exact p3
        · rw [hcc 105 (by decide) (by decide) (by decide)]; exact p4
        · rw [hcc 104 (by decide) (by decide) (by decide)]; exact p5
        · rw [← hM5]; show ((sPu s).length : Int) + 1 = ((sPu s ++ [(o, tV t2)]).length : Int); rw [List.length_append]; show _ = (((sPu s).length + 1 : Nat) : Int); omega
        · have hq' : (sPu s ++ [(o, tV t2)])[i]? = some (q, m) := hq
          have e107 : M5 107 = va_up (M1 107) (16 + (sPu s).length) (o : Int) := by rw [← hM5, upM_ne _ _ _ (by decide), upM_ne _ _ _ (by decide), g2 107 (by decide), ← hM2, upM_self, d2 107 (by decide)]
          have e108 : M5 108 = va_up (M1 108) (16 + (sPu s).length) (tV t2) := by rw [← hM5, upM_ne _ _ _ (by decide), upM_self, c13 108 (by decide) (by decide)]
          rw [e107, e108]
          rcases snoc_get hq' with ⟨c, z⟩ | ⟨c, z⟩
          · rw [va_up_neq _ _ (by omega), va_up_neq _ _ (by omega)]; exact p7.2 i q m z
          · cases z; rw [c, va_up_self, va_up_self]; exact ⟨rfl, rfl⟩
        · rw [hqq 18 (by decide) (by decide), hcc 109 (by decide) (by decide) (by decide)]; exact p8
        · rw [hcc 102 (by decide) (by decide) (by decide), hcc 101 (by decide) (by decide) (by decide)]; exact p9
        · unfold upH; rw [hcc 113 (by decide) (by decide) (by decide), hcc 114 (by decide) (by decide) (by decide), hcc 115 (by decide) (by decide) (by decide), hcc 116 (by decide) (by decide) (by decide), hcc 117 (by decide) (by decide) (by decide), hcc 118 (by decide) (by decide) (by decide)]; exact p10
        · unfold upH; rw [hcc 110 (by decide) (by decide) (by decide), hcc 111 (by decide) (by decide) (by decide), hcc 112 (by decide) (by decide) (by decide)]; exact p11
        · rw [hqq 33 (by decide) (by decide), hqq 19 (by decide) (by decide), hqq 45 (by decide) (by decide)]; exact p12
      · rcases hw with ⟨z1, z2⟩ | ⟨z1, z2, z3⟩
        · rw [if_pos z1, z2]
        · rw [if_neg (fun z => z z1), if_pos z2, z3]
    · rcases hw with ⟨z1, z2⟩ | ⟨z1, z2, z3⟩
      · rw [if_pos z1, z2]
      · have z2' : findN (sM s) (tV t1) (sN s) 0 = -1 := z2
        rw [if_neg (fun z => z z1), if_pos z2', z3]
  · rw [if_pos (by omega)] at HE
    exact c_wrong (by decide) h.2.1.2.1 (fun M' a1 a2 a3 => ⟨Or.inl rfl, HE 2 (tS (sT s)) rfl M' a1.toRm a2 a3⟩)
theorem c_lineM_oil {f : Int → Mem → Prop} {M : Mem} (hI : PI L s) (h : PMr bs L s M) (HE : ∀ w pl, oilP bs L s = Sum.inl (w, pl) → ∀ M', FrRm M M' → M' 98 4 = w → M' 98 5 = (pl : Int) → f 0 M') (HO : ∀ r, oilP bs L s = Sum.inr r → ∀ M', FrRm M M' → M' 98 4 = M 98 4 → M' 98 5 = M 98 5 → PMr bs L r M' → f 1 M') : CI E mX11_oilLine [pR 98] M f := by
  obtain ⟨hTk, ⟨hn, hu⟩, ⟨hln, hlt, hlo, hll⟩, ⟨-, hps⟩, -⟩ := id hI
  unfold oilP at HE HO
  apply vX11_oilLine_0
  rw [h.2.2.2.2.2.2.2.1.1]
  refine fun _ => ⟨fun c8 => ?_, fun c8 => ?_⟩
  · rw [if_neg (by omega)] at HE HO
    refine c_tokP hTk h (fun M1 b1 i2 b3 => ?_)
    generalize ht1 : tok bs L (tN (sT s)) = t2 at HE HO i2 b3
    have e17 : M1 98 18 = ((sOi s).length : Int) := b3.2.2.2.2.2.2.2.1.1
    refine c_number (by decide) i2 b3.1 b3.2.1 (fun e1 e2 M4 g1 g2 g3 g4 g5 => ⟨⟨by decide, by decide⟩, fun _ => ?_, fun z => absurd z (by decide)⟩) (fun w hw M4 g1 g2 g3 => ⟨⟨by decide, by decide⟩, fun z => absurd rfl z, fun _ => HE w (tS t2) ?_ M4 (b1.toH.toRm.tr g1.toRm) g2 g3⟩)
    · rw [if_neg (fun y => y e1), if_neg (by omega)] at HO
      have hv2 := i2.2.2.2.2.2
      have e17' : M4 98 18 = ((sOi s).length : Int) := by rw [g3 18 (by decide)]; exact e17
      rw [e17', g4, show ((4 : Int) + ((sOi s).length : Int)).toNat = 4 + (sOi s).length by omega]
      refine fun _ _ => ⟨⟨by omega, by omega⟩, fun _ => ⟨⟨by omega, by omega⟩, ?_⟩⟩
      generalize hM5 : upM (upM M4 109 (4 + (sOi s).length) (tV t2)) 98 18 (((sOi s).length : Int) + 1) = M5
      have hcc : ∀ a, a ≠ 98 → a ≠ 109 → M5 a = M1 a := fun a a1 a2 => by rw [← hM5, upM_ne _ _ _ a1, upM_ne _ _ _ a2, g2 a a1]
      have hqq : ∀ q, ¬ (7 ≤ q ∧ q ≤ 11) → q ≠ 18 → M5 98 q = M1 98 q := fun q q1 q2 => by rw [← hM5, upM_self, va_up_neq _ _ q2, upM_ne _ _ _ (by decide)]; exact g3 q q1
      have hqt : ∀ q, 7 ≤ q → q ≤ 10 → M5 98 q = M4 98 q := fun q q1 q2 => by rw [← hM5, upM_self, va_up_neq _ _ (by omega), upM_ne _ _ _ (by decide)]
      have hQ : FrRm M M5 := by
        rw [← hM5]
        exact ((b1.toH.toRm.tr g1.1.toRm).tr (FrRm.uA _ (by omega) (by unfold lowH; omega))).tr (FrRm.u98 _ (by omega))
      obtain ⟨p1, p2, p3, p4, p5, p6, p7, p8, p9, p10, p11, p12⟩ := b3
      refine HO _ rfl M5 hQ (by rw [hqq 4 (by decide) (by decide), b1.2 4 (by decide)]) (by rw [hqq 5 (by decide) (by decide), b1.2 5 (by decide)]) ⟨?_, g5.of hqt, ?_, ?_, ?_, p6.of (hcc 106 (by decide) (by decide)), ?_, ⟨?_, fun i m hq => ?_⟩, ?_, ?_, ?_, ?_⟩
      · unfold TPm; rw [hqq 6 (by decide) (by decide), hcc 99 (by decide) (by decide), hcc 100 (by decide) (by decide)]; exact p1
      · unfold NmM; rw [hqq 16 (by decide) (by decide), hcc 103 (by decide) (by decide), hcc 105 (by decide) (by decide)]; exact p3
      · rw [hcc 105 (by decide) (by decide)]; exact p4
      · rw [hcc 104 (by decide) (by decide)]; exact p5
      · rw [hqq 17 (by decide) (by decide), hcc 107 (by decide) (by decide), hcc 108 (by decide) (by decide)]; exact p7
      · rw [← hM5]; show ((sOi s).length : Int) + 1 = ((sOi s ++ [tV t2]).length : Int); rw [List.length_append]; show _ = (((sOi s).length + 1 : Nat) : Int); omega
      · have hq' : (sOi s ++ [tV t2])[i]? = some m := hq
        have e109 : M5 109 = va_up (M1 109) (4 + (sOi s).length) (tV t2) := by rw [← hM5, upM_ne _ _ _ (by decide), upM_self, g2 109 (by decide)]
        rw [e109]
        rcases snoc_get hq' with ⟨c, z⟩ | ⟨c, z⟩
        · rw [va_up_neq _ _ (by omega)]; exact p8.2 i m z
        · cases z; rw [c, va_up_self]
      · rw [hcc 102 (by decide) (by decide), hcc 101 (by decide) (by decide)]; exact p9
      · unfold upH; rw [hcc 113 (by decide) (by decide), hcc 114 (by decide) (by decide), hcc 115 (by decide) (by decide), hcc 116 (by decide) (by decide), hcc 117 (by decide) (by decide), hcc 118 (by decide) (by decide)]; exact p10
      · unfold upH; rw [hcc 110 (by decide) (by decide), hcc 111 (by decide) (by decide), hcc 112 (by decide) (by decide)]; exact p11
      · rw [hqq 33 (by decide) (by decide), hqq 19 (by decide) (by decide), hqq 45 (by decide) (by decide)]; exact p12
    · rcases hw with ⟨z1, z2⟩ | ⟨z1, z2, z3⟩
      · rw [if_pos z1, z2]
      · rw [if_neg (fun z => z z1), if_pos z2, z3]
  · rw [if_pos (by omega)] at HE
    exact c_wrong (by decide) h.2.1.2.1 (fun M' a1 a2 a3 => ⟨Or.inl rfl, HE 2 (tS (sT s)) rfl M' a1.toRm a2 a3⟩)
theorem c_lineM_rust {f : Int → Mem → Prop} {M : Mem} (hI : PI L s) (h : PMr bs L s M) (HE : ∀ w pl, rustP bs L s = Sum.inl (w, pl) → ∀ M', FrRm M M' → M' 98 4 = w → M' 98 5 = (pl : Int) → f 0 M') (HO : ∀ r, rustP bs L s = Sum.inr r → ∀ M', FrRm M M' → M' 98 4 = M 98 4 → M' 98 5 = M 98 5 → PMr bs L r M' → f 1 M') : CI E mX11_onceLine [pR 98, pI 0, pI 100] M f := by
  obtain ⟨hTk, -⟩ := id hI
  unfold rustP at HE HO
  apply vX11_onceLine_0
  have e101 : M 101 ((0 : Int).toNat) = bI (sRd s) := h.2.2.2.2.2.2.2.2.1.2.2.1
  rw [e101]
  refine ⟨by decide, fun _ => ⟨fun c0 => ⟨by decide, ?_⟩, fun c0 => ?_⟩⟩
  · have hb := bI_eq0 c0
    rw [if_neg (by rw [hb]; decide)] at HE HO
    generalize hM0 : upM M 101 ((0 : Int).toNat) 1 = M0
    have hT0 : TPm bs L M0 := by rw [← hM0]; exact h.1
    have hQ0 : FrRm M M0 := by rw [← hM0]; exact FrRm.uA _ (by decide) (by unfold lowH; decide)
    have h70 : M0 98 7 = (tN (sT s) : Int) := by rw [← hM0]; exact h.2.1.2.2
    refine c_token hT0 hTk.2.2.1 h70 (fun M1 b1 b2 => ?_)
    have i2 := (tok_I (bs := bs) hTk.2.2.1).1
    generalize ht1 : tok bs L (tN (sT s)) = t2 at HE HO b2 i2
    refine c_number (by decide) i2 (hT0.fr b1) b2 (fun e1 e2 M4 g1 g2 g3 g4 g5 => ⟨⟨by decide, by decide⟩, fun _ => ?_, fun z => absurd z (by decide)⟩) (fun w hw M4 g1 g2 g3 => ⟨⟨by decide, by decide⟩, fun z => absurd rfl z, fun _ => HE w (tS t2) ?_ M4 ((hQ0.tr b1.toH.toRm).tr g1.toRm) g2 g3⟩)
    · rw [if_neg (fun y => y e1), if_neg (by omega)] at HO
      have hv2 := i2.2.2.2.2.2
      rw [g4]
      refine fun _ => ⟨by decide, ?_⟩
      generalize hM5 : upM M4 102 ((2 + (0 : Int)).toNat) (tV t2) = M5
      have hcc : ∀ a, a ≠ 98 → a ≠ 101 → a ≠ 102 → M5 a = M a := fun a a1 a2 a3 => by rw [← hM5, upM_ne _ _ _ a3, g2 a a1, b1.1 a a1, ← hM0, upM_ne _ _ _ a2]
      have hqq : ∀ q, ¬ (7 ≤ q ∧ q ≤ 11) → M5 98 q = M 98 q := fun q q1 => by rw [← hM5, upM_ne _ _ _ (by decide), g3 q q1, b1.2 q (by omega), ← hM0, upM_ne _ _ _ (by decide)]
      have hqt : ∀ q, 7 ≤ q → q ≤ 10 → M5 98 q = M4 98 q := fun q q1 q2 => by rw [← hM5, upM_ne _ _ _ (by decide)]
      have hQ : FrRm M M5 := by
        rw [← hM5]
        exact ((hQ0.tr b1.toH.toRm).tr g1.1.toRm).tr (FrRm.uA _ (by decide) (by unfold lowH; decide))
      obtain ⟨p1, p2, p3, p4, p5, p6, p7, p8, p9, p10, p11, p12⟩ := h
      have e102 : M5 102 = va_up (M 102) 2 (tV t2) := by rw [← hM5, show (2 + (0 : Int)).toNat = 2 from rfl, upM_self, g2 102 (by decide), b1.1 102 (by decide), ← hM0, upM_ne _ _ _ (by decide)]
      have e101 : M5 101 = va_up (M 101) 0 1 := by rw [← hM5, upM_ne _ _ _ (by decide), g2 101 (by decide), b1.1 101 (by decide), ← hM0, show (0 : Int).toNat = 0 from rfl, upM_self]
      refine HO _ rfl M5 hQ (hqq 4 (by decide)) (hqq 5 (by decide)) ⟨?_, g5.of hqt, ?_, ?_, ?_, p6.of (hcc 106 (by decide) (by decide) (by decide)), ?_, ?_, ⟨?_, ?_, ?_, ?_⟩, ?_, ?_, ?_⟩
      · unfold TPm; rw [hqq 6 (by decide), hcc 99 (by decide) (by decide) (by decide), hcc 100 (by decide) (by decide) (by decide)]; exact p1
      · unfold NmM; rw [hqq 16 (by decide), hcc 103 (by decide) (by decide) (by decide), hcc 105 (by decide) (by decide) (by decide)]; exact p3
      · rw [hcc 105 (by decide) (by decide) (by decide)]; exact p4
      · rw [hcc 104 (by decide) (by decide) (by decide)]; exact p5
      · rw [hqq 17 (by decide), hcc 107 (by decide) (by decide) (by decide), hcc 108 (by decide) (by decide) (by decide)]; exact p7
      · rw [hqq 18 (by decide), hcc 109 (by decide) (by decide) (by decide)]; exact p8
      · rw [e102, va_up_self]
      · rw [e102, va_up_neq _ _ (by decide)]; exact p9.2.1
      · rw [e101, va_up_self]; rfl
      · rw [e101, va_up_neq _ _ (by decide)]; exact p9.2.2.2
      · unfold upH; rw [hcc 113 (by decide) (by decide) (by decide), hcc 114 (by decide) (by decide) (by decide), hcc 115 (by decide) (by decide) (by decide), hcc 116 (by decide) (by decide) (by decide), hcc 117 (by decide) (by decide) (by decide), hcc 118 (by decide) (by decide) (by decide)]; exact p10
      · unfold upH; rw [hcc 110 (by decide) (by decide) (by decide), hcc 111 (by decide) (by decide) (by decide), hcc 112 (by decide) (by decide) (by decide)]; exact p11
      · rw [hqq 33 (by decide), hqq 19 (by decide), hqq 45 (by decide)]; exact p12
    · rcases hw with ⟨z1, z2⟩ | ⟨z1, z2, z3⟩
      · rw [if_pos z1, z2]
      · rw [if_neg (fun z => z z1), if_pos z2, z3]
  · rw [if_pos (bI_ne c0)] at HE
    exact c_wrong (by decide) h.2.1.2.1 (fun M' a1 a2 a3 => ⟨Or.inl rfl, HE 3 (tS (sT s)) rfl M' a1.toRm a2 a3⟩)
theorem c_lineM_seed {f : Int → Mem → Prop} {M : Mem} (hI : PI L s) (h : PMr bs L s M) (HE : ∀ w pl, seedP bs L s = Sum.inl (w, pl) → ∀ M', FrRm M M' → M' 98 4 = w → M' 98 5 = (pl : Int) → f 0 M') (HO : ∀ r, seedP bs L s = Sum.inr r → ∀ M', FrRm M M' → M' 98 4 = M 98 4 → M' 98 5 = M 98 5 → PMr bs L r M' → f 1 M') : CI E mX11_onceLine [pR 98, pI 1, pI 99999] M f := by
  obtain ⟨hTk, -⟩ := id hI
  unfold seedP at HE HO
  apply vX11_onceLine_0
  have e101 : M 101 ((1 : Int).toNat) = bI (sSd s) := h.2.2.2.2.2.2.2.2.1.2.2.2
  rw [e101]
  refine ⟨by decide, fun _ => ⟨fun c0 => ⟨by decide, ?_⟩, fun c0 => ?_⟩⟩
  · have hb := bI_eq0 c0
    rw [if_neg (by rw [hb]; decide)] at HE HO
    generalize hM0 : upM M 101 ((1 : Int).toNat) 1 = M0
    have hT0 : TPm bs L M0 := by rw [← hM0]; exact h.1
    have hQ0 : FrRm M M0 := by rw [← hM0]; exact FrRm.uA _ (by decide) (by unfold lowH; decide)
    have h70 : M0 98 7 = (tN (sT s) : Int) := by rw [← hM0]; exact h.2.1.2.2
    refine c_token hT0 hTk.2.2.1 h70 (fun M1 b1 b2 => ?_)
    have i2 := (tok_I (bs := bs) hTk.2.2.1).1
    generalize ht1 : tok bs L (tN (sT s)) = t2 at HE HO b2 i2
    refine c_number (by decide) i2 (hT0.fr b1) b2 (fun e1 e2 M4 g1 g2 g3 g4 g5 => ⟨⟨by decide, by decide⟩, fun _ => ?_, fun z => absurd z (by decide)⟩) (fun w hw M4 g1 g2 g3 => ⟨⟨by decide, by decide⟩, fun z => absurd rfl z, fun _ => HE w (tS t2) ?_ M4 ((hQ0.tr b1.toH.toRm).tr g1.toRm) g2 g3⟩)
    · rw [if_neg (fun y => y e1), if_neg (by omega)] at HO
      have hv2 := i2.2.2.2.2.2
      rw [g4]
      refine fun _ => ⟨by decide, ?_⟩
      generalize hM5 : upM M4 102 ((2 + (1 : Int)).toNat) (tV t2) = M5
      have hcc : ∀ a, a ≠ 98 → a ≠ 101 → a ≠ 102 → M5 a = M a := fun a a1 a2 a3 => by rw [← hM5, upM_ne _ _ _ a3, g2 a a1, b1.1 a a1, ← hM0, upM_ne _ _ _ a2]
      have hqq : ∀ q, ¬ (7 ≤ q ∧ q ≤ 11) → M5 98 q = M 98 q := fun q q1 => by rw [← hM5, upM_ne _ _ _ (by decide), g3 q q1, b1.2 q (by omega), ← hM0, upM_ne _ _ _ (by decide)]
      have hqt : ∀ q, 7 ≤ q → q ≤ 10 → M5 98 q = M4 98 q := fun q q1 q2 => by rw [← hM5, upM_ne _ _ _ (by decide)]
      have hQ : FrRm M M5 := by
        rw [← hM5]
        exact ((hQ0.tr b1.toH.toRm).tr g1.1.toRm).tr (FrRm.uA _ (by decide) (by unfold lowH; decide))
      obtain ⟨p1, p2, p3, p4, p5, p6, p7, p8, p9, p10, p11, p12⟩ := h
      have e102 : M5 102 = va_up (M 102) 3 (tV t2) := by rw [← hM5, show (2 + (1 : Int)).toNat = 3 from rfl, upM_self, g2 102 (by decide), b1.1 102 (by decide), ← hM0, upM_ne _ _ _ (by decide)]
      have e101 : M5 101 = va_up (M 101) 1 1 := by rw [← hM5, upM_ne _ _ _ (by decide), g2 101 (by decide), b1.1 101 (by decide), ← hM0, show (1 : Int).toNat = 1 from rfl, upM_self]
      refine HO _ rfl M5 hQ (hqq 4 (by decide)) (hqq 5 (by decide)) ⟨?_, g5.of hqt, ?_, ?_, ?_, p6.of (hcc 106 (by decide) (by decide) (by decide)), ?_, ?_, ⟨?_, ?_, ?_, ?_⟩, ?_, ?_, ?_⟩
      · unfold TPm; rw [hqq 6 (by decide), hcc 99 (by decide) (by decide) (by decide), hcc 100 (by decide) (by decide) (by decide)]; exact p1
      · unfold NmM; rw [hqq 16 (by decide), hcc 103 (by decide) (by decide) (by decide), hcc 105 (by decide) (by decide) (by decide)]; exact p3
      · rw [hcc 105 (by decide) (by decide) (by decide)]; exact p4
      · rw [hcc 104 (by decide) (by decide) (by decide)]; exact p5
      · rw [hqq 17 (by decide), hcc 107 (by decide) (by decide) (by decide), hcc 108 (by decide) (by decide) (by decide)]; exact p7
      · rw [hqq 18 (by decide), hcc 109 (by decide) (by decide) (by decide)]; exact p8
      · rw [e102, va_up_neq _ _ (by decide)]; exact p9.1
      · rw [e102, va_up_self]
      · rw [e101, va_up_neq _ _ (by decide)]; exact p9.2.2.1
      · rw [e101, va_up_self]; rfl
      · unfold upH; rw [hcc 113 (by decide) (by decide) (by decide), hcc 114 (by decide) (by decide) (by decide), hcc 115 (by decide) (by decide) (by decide), hcc 116 (by decide) (by decide) (by decide), hcc 117 (by decide) (by decide) (by decide), hcc 118 (by decide) (by decide) (by decide)]; exact p10
      · unfold upH; rw [hcc 110 (by decide) (by decide) (by decide), hcc 111 (by decide) (by decide) (by decide), hcc 112 (by decide) (by decide) (by decide)]; exact p11
      · rw [hqq 33 (by decide), hqq 19 (by decide), hqq 45 (by decide)]; exact p12
    · rcases hw with ⟨z1, z2⟩ | ⟨z1, z2, z3⟩
      · rw [if_pos z1, z2]
      · rw [if_neg (fun z => z z1), if_pos z2, z3]
  · rw [if_pos (bI_ne c0)] at HE
    exact c_wrong (by decide) h.2.1.2.1 (fun M' a1 a2 a3 => ⟨Or.inl rfl, HE 3 (tS (sT s)) rfl M' a1.toRm a2 a3⟩)
end LINESM2
