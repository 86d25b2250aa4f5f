/-! lines in the reference -/
theorem RK.k2 {t : Tk} {kd wh : Int} (h : RK t kd wh) : (kd = 2 → tK t = 38) ∧ (tK t = 38 → kd = 2) ∧ (kd = 0 → tK t = 39) ∧ (tK t = 39 → kd = 0) := by
  unfold RK at h
  rcases h with z|z|z|z|z|z|z|z|z|z|z|z|z|z|z|z|z|z|z|z|z|z <;> (refine ⟨?_, ?_, ?_, ?_⟩ <;> omega)
theorem RK.k1 {t : Tk} {kd wh : Int} (h : RK t kd wh) : (0 ≤ tK t ∧ tK t ≤ 9 → kd = 1 ∧ wh = tK t) ∧ (kd = 1 → wh ≤ 9 → 0 ≤ tK t ∧ wh = tK t) ∧ (kd = 1 → 0 ≤ wh ∧ wh ≤ 23) := by
  unfold RK at h
  rcases h with z|z|z|z|z|z|z|z|z|z|z|z|z|z|z|z|z|z|z|z|z|z <;> (refine ⟨?_, ?_, ?_⟩ <;> omega)
def lowH (a i : Nat) : Prop := (a = 102 ∧ i < 2) ∨ (103 ≤ a ∧ a ≤ 106 ∧ i < 8) ∨ (107 ≤ a ∧ a ≤ 108 ∧ i < 16) ∨ (a = 109 ∧ i < 4) ∨ (110 ≤ a ∧ a ≤ 112 ∧ i < 64) ∨ (113 ≤ a ∧ a ≤ 115 ∧ i < 3) ∨ (116 ≤ a ∧ a ≤ 118 ∧ i < 64)
/-- what the reading of a text may change in the reference -/
def FrRm (M M' : Mem) : Prop := (∀ a, a ≠ 98 → ¬ (101 ≤ a ∧ a ≤ 120) → M' a = M a) ∧ (∀ a i, lowH a i → M' a i = M a i) ∧ ∀ k, ¬ (4 ≤ k ∧ k ≤ 5) → ¬ (7 ≤ k ∧ k ≤ 11) → ¬ (16 ≤ k ∧ k ≤ 19) → k ≠ 33 → ¬ (42 ≤ k ∧ k ≤ 47) → M' 98 k = M 98 k
theorem FrRm.rf (M : Mem) : FrRm M M := ⟨fun _ _ _ => rfl, fun _ _ _ => rfl, fun _ _ _ _ _ _ => rfl⟩
theorem FrRm.tr {M M1 M2 : Mem} (h1 : FrRm M M1) (h2 : FrRm M1 M2) : FrRm M M2 := ⟨fun a a1 a2 => (h2.1 a a1 a2).trans (h1.1 a a1 a2), fun a i a1 => (h2.2.1 a i a1).trans (h1.2.1 a i a1), fun k k1 k2 k3 k4 k5 => (h2.2.2 k k1 k2 k3 k4 k5).trans (h1.2.2 k k1 k2 k3 k4 k5)⟩
theorem FrH.toRm {M M' : Mem} (h : FrH M M') : FrRm M M' := by
  refine ⟨fun a a1 a2 => h.1 a a1 (by omega) (by omega) (by omega), fun a i hl => ?_, fun k k1 k2 k3 k4 k5 => h.2.2.2 k k1 k2 (by omega) k4 k5⟩
  unfold lowH at hl
  by_cases c1 : a = 106
  · exact h.2.1 a c1 i (by omega)
  by_cases c2 : 110 ≤ a ∧ a ≤ 112
  · exact h.2.2.1.1 a c2.1 c2.2 i (by omega)
  by_cases c3 : 116 ≤ a ∧ a ≤ 118
  · exact h.2.2.1.2.1 a c3.1 c3.2 i (by omega)
  · rw [h.1 a (by omega) c1 c2 (by omega)]
theorem FrRm.uA {M : Mem} {a k : Nat} (v : Int) (h : 101 ≤ a ∧ a ≤ 120) (hl : ¬ lowH a k) : FrRm M (upM M a k v) := by
  refine ⟨fun c c1 c2 => upM_ne _ _ _ (by omega), fun c i hc => ?_, fun q _ _ _ _ _ => by rw [upM_ne _ _ _ (by omega)]⟩
  by_cases e : c = a
  · subst e
    rw [upM_self, va_up_neq _ _ (fun z => hl (by rw [← z]; exact hc))]
  · rw [upM_ne _ _ _ e]
theorem FrRm.u98 {M : Mem} {k : Nat} (v : Int) (h : (4 ≤ k ∧ k ≤ 5) ∨ (7 ≤ k ∧ k ≤ 11) ∨ (16 ≤ k ∧ k ≤ 19) ∨ k = 33 ∨ (42 ≤ k ∧ k ≤ 47)) : FrRm M (upM M 98 k v) :=
  ⟨fun c c1 c2 => upM_ne _ _ _ c1, fun c i hc => by unfold lowH at hc; rw [upM_ne _ _ _ (by omega)], fun q _ _ _ _ _ => by rw [upM_self, va_up_neq _ _ (by omega)]⟩
/-- as it lies in the reference -/
def PMr (bs : BF) (L : Nat) (s : PSt) (M : Mem) : Prop :=
  TPm bs L M ∧ TM (sT s) M ∧ NmM (sN s) (sM s) (sLn s) (sRt s) M ∧ (∀ l, l < 8 → (sLn s).testBit l = false → M 105 (8 + l) = -1) ∧ (∀ l, l < sN s → M 104 (8 + l) = ((bt (sU s) l : Nat) : Int)) ∧ LnM (sLt s) M ∧
  (M 98 17 = ((sPu s).length : Int) ∧ ∀ (i o : Nat) (m : Int), (sPu s)[i]? = some (o, m) → M 107 (16 + i) = (o : Int) ∧ M 108 (16 + i) = m) ∧ (M 98 18 = ((sOi s).length : Int) ∧ ∀ (i : Nat) (m : Int), (sOi s)[i]? = some m → M 109 (4 + i) = m) ∧ (M 102 2 = sRu s ∧ M 102 3 = sSe s ∧ M 101 0 = bI (sRd s) ∧ M 101 1 = bI (sSd s)) ∧
  (∀ k, k < 3 → (sWf s k = [] ∧ M 113 (3 + k) = 0) ∨ (sWf s k ≠ [] ∧ M 113 (3 + k) = 1 ∧ M 114 (3 + k) = (sWb s k : Int) ∧ M 115 (3 + k) = ((sWb s k + (sWf s k).length : Nat) : Int) ∧ ND (ndW (upH M 116) (upH M 117) (upH M 118)) (sWb s k) [] (sWf s k))) ∧
  (∀ e, e ∈ sLf s → ND (ndL (sRt s) (upH M 110) (upH M 111) (upH M 112)) e.2.2.2 [] e.2.1) ∧ (M 98 33 = (sLk s : Int) ∧ M 98 19 = (sWk s : Int) ∧ M 98 45 = (sC s : Int))
section LINESM
variable {E : Scr} {bs : BF} {L : Nat} {s : PSt}
theorem PMr.tk {M M' : Mem} {t : Tk} (h : PMr bs L s M) (hc : ∀ c, c ≠ 98 → M' c = M c) (hq : ∀ q, ¬ (7 ≤ q ∧ q ≤ 11) → M' 98 q = M 98 q) (ht : TM t M') : PMr bs L (t, s.2) M' := by
  obtain ⟨p1, p2, p3, p4, p5, p6, p7, p8, p9, p10, p11, p12⟩ := h
  refine ⟨?_, ht, ?_, ?_, ?_, p6.of (hc 106 (by decide)), ?_, ?_, ?_, ?_, ?_, ?_⟩
  · unfold TPm; rw [hq 6 (by decide), hc 99 (by decide), hc 100 (by decide)]; exact p1
  · unfold NmM; rw [hq 16 (by decide), hc 103 (by decide), hc 105 (by decide)]; exact p3
  · rw [hc 105 (by decide)]; exact p4
  · rw [hc 104 (by decide)]; exact p5
  · rw [hq 17 (by decide), hc 107 (by decide), hc 108 (by decide)]; exact p7
  · rw [hq 18 (by decide), hc 109 (by decide)]; exact p8
  · rw [hc 102 (by decide), hc 101 (by decide)]; exact p9
  · unfold upH; rw [hc 113 (by decide), hc 114 (by decide), hc 115 (by decide), hc 116 (by decide), hc 117 (by decide), hc 118 (by decide)]; exact p10
  · unfold upH; rw [hc 110 (by decide), hc 111 (by decide), hc 112 (by decide)]; exact p11
  · rw [hq 33 (by decide), hq 19 (by decide), hq 45 (by decide)]; exact p12
theorem c_tokP {f : Mem → Prop} {M : Mem} (hI : TkI L (sT s)) (h : PMr bs L s M) (H : ∀ M', FrTm M M' → TkI L (tok bs L (tN (sT s))) → PMr bs L (tok bs L (tN (sT s)), s.2) M' → f M') : CV E mX11_token [pR 98] M f :=
  c_token h.1 hI.2.2.1 h.2.1.2.2 (fun M1 b1 b2 => H M1 b1 (tok_I hI.2.2.1).1 (h.tk b1.1 (fun q hq => b1.2 q (by omega)) b2))
theorem bt_or {u v n l : Nat} (hu : u < 2 ^ n) (hv : v ≤ 1) : bt (u ||| v * 2 ^ n) l = if l = n then v else bt u l := by
  have h1 : bt (v * 2 ^ n) l = if l = n then v else 0 := by
    rw [bt_tb]
    rcases Nat.le_one_iff_eq_zero_or_eq_one.mp hv with z | z
    · rw [z, Nat.zero_mul, Nat.zero_testBit]; simp
    · rw [z, Nat.one_mul, Nat.testBit_two_pow]
      by_cases e : l = n
      · rw [if_pos e, e]; simp
      · rw [if_neg e]; have : ¬ n = l := fun y => e y.symm
        simp [this]
  rw [bt_tb] at h1 ⊢
  rw [Nat.testBit_or]
  by_cases e : l = n
  · rw [if_pos e] at h1 ⊢
    rw [e] at h1 ⊢
    rw [tb_top hu, Bool.false_or]; exact h1
  · rw [if_neg e] at h1 ⊢
    rw [bt_tb]
    cases hz : (v * 2 ^ n).testBit l
    · rw [Bool.or_false]
    · rw [hz] at h1; exact absurd h1 (by decide)
theorem c_lineM_latch {f : Int → Mem → Prop} {M : Mem} (hI : PI L s) (h : PMr bs L s M) (HE : ∀ w pl, latchP bs L s = Sum.inl (w, pl) → ∀ M', FrRm M M' → M' 98 4 = w → M' 98 5 = (pl : Int) → f 0 M') (HO : ∀ r, latchP bs L s = Sum.inr r → ∀ M', FrRm M M' → M' 98 4 = M 98 4 → M' 98 5 = M 98 5 → PMr bs L r M' → f 1 M') : CI E mX11_latchLine [pR 98] M f := by
  obtain ⟨hTk, ⟨hn, hu⟩, ⟨hln, hlt, hlo, hll⟩, -⟩ := id hI
  unfold latchP at HE HO
  apply vX11_latchLine_0
  rw [h.2.2.1.1]
  refine fun _ => ⟨fun c8 => ?_, fun c8 => ?_⟩
  · rw [if_neg (by omega)] at HE HO
    refine c_tokP hTk h (fun M1 b1 b2 b3 => ?_)
    generalize ht1 : tok bs L (tN (sT s)) = t1 at HE HO b2 b3
    have hk1 : RK t1 (M1 98 8) (M1 98 9) := b3.2.1.1
    have h10 : M1 98 10 = (tS t1 : Int) := b3.2.1.2.1
    have hk2 := hk1.k2
    have hv := b2.2.2.2.2.2
    refine fun _ => ⟨fun c2 => ?_, fun c2 => ?_⟩
    · have h38 := hk2.1 c2
      rw [if_neg (fun z => z h38)] at HE HO
      have hN1 : NmM (sN s) (sM s) (sLn s) (sRt s) M1 := b3.2.2.1
      rw [hN1.1, hk1.nmv c2]
      refine fun _ _ => c_findM (fr := 8) (nm := sM s) ⟨by omega, by omega⟩ hn (by decide) hN1.2.2.1 ?_
      rw [hN1.1, hk1.nmv c2]
      rcases findN_c (nm := sM s) (v := tV t1) (sN s) 0 with z | ⟨q, q1, q2, q3⟩
      · rw [if_neg (fun y => y z)] at HE HO
        rw [z]
        refine ⟨⟨by decide, by decide⟩, fun _ _ _ => ?_, fun y => absurd y (by decide)⟩
        rw [show ((8 : Int) + (sN s : Int)).toNat = 8 + sN s by omega]
        refine ⟨⟨by omega, by omega⟩, ?_⟩
        have hT2 : TPm bs L (upM M1 103 (8 + sN s) (tV t1)) := b3.1
        refine c_token hT2 b2.2.2.1 b3.2.1.2.2 (fun M2 d1 d2 => ?_)
        have i2 := (tok_I (bs := bs) b2.2.2.1).1
        generalize ht2 : tok bs L (tN t1) = t2 at HE HO d2 i2
        refine c_number (by decide) i2 (hT2.fr d1) d2 (fun e1 e2 M3 g1 g2 g3 g4 g5 => ⟨⟨by decide, by decide⟩, fun _ => ?_, fun z => absurd z (by decide)⟩) (fun w hw M3 g1 g2 g3 => ⟨⟨by decide, by decide⟩, fun z => absurd rfl z, fun _ => HE w (tS t2) ?_ M3 ((((b1.toH.toRm).tr (FrRm.uA _ (by omega) (by unfold lowH; omega))).tr d1.toH.toRm).tr g1.toRm) g2 g3⟩)
        · rw [if_neg (fun y => y e1), if_neg (by omega)] at HO
          have hv2 := i2.2.2.2.2.2
          have e16 : M3 98 16 = (sN s : Int) := by rw [g3 16 (by decide), d1.2 16 (by decide)]; exact hN1.1
          rw [e16, g4, show ((8 : Int) + (sN s : Int)).toNat = 8 + sN s by omega]
          refine fun _ _ => ⟨⟨by omega, by omega⟩, fun _ => ⟨⟨by omega, by omega⟩, ?_⟩⟩
          have c13 : ∀ a, a ≠ 98 → M3 a = (upM M1 103 (8 + sN s) (tV t1)) a := fun a ha => (g2 a ha).trans (d1.1 a ha)
          have q13 : ∀ q, ¬ (7 ≤ q ∧ q ≤ 11) → M3 98 q = M1 98 q := fun q hq => (g3 q hq).trans (d1.2 q (by omega))
          generalize hM4 : upM (upM M3 104 (8 + sN s) (tV t2)) 98 16 ((sN s : Int) + 1) = M4
          have hcc : ∀ a, a ≠ 98 → a ≠ 103 → a ≠ 104 → M4 a = M1 a := fun a a1 a2 a3 => by rw [← hM4, upM_ne _ _ _ a1, upM_ne _ _ _ a3, c13 a a1, upM_ne _ _ _ a2]
          have hqq : ∀ q, ¬ (7 ≤ q ∧ q ≤ 11) → q ≠ 16 → M4 98 q = M1 98 q := fun q q1 q2 => by rw [← hM4, upM_self, va_up_neq _ _ q2, upM_ne _ _ _ (by decide)]; exact q13 q q1
          have hqt : ∀ q, 7 ≤ q → q ≤ 10 → M4 98 q = M3 98 q := fun q q1 q2 => by rw [← hM4, upM_self, va_up_neq _ _ (by omega), upM_ne _ _ _ (by decide)]
          have hQ : FrRm M M4 := by
            rw [← hM4]
            exact ((((b1.toH.toRm.tr (FrRm.uA _ (by omega) (by unfold lowH; omega))).tr d1.toH.toRm).tr g1.1.toRm).tr (FrRm.uA _ (by omega) (by unfold lowH; omega))).tr (FrRm.u98 _ (by omega))
          obtain ⟨p1, p2, p3, p4, p5, p6, p7, p8, p9, p10, p11, p12⟩ := b3
          refine HO _ rfl M4 hQ (by rw [hqq 4 (by decide) (by decide), b1.2 4 (by decide)]) (by rw [hqq 5 (by decide) (by decide), b1.2 5 (by decide)]) ⟨?_, g5.of hqt, ⟨?_, by show sN s + 1 ≤ 8; omega, fun l hl => ?_, fun l hl => ?_⟩, ?_, fun l hl => ?_, p6.of (hcc 106 (by decide) (by decide) (by decide)), ?_, ?_, ?_, ?_, ?_, ?_⟩
          · unfold TPm; rw [hqq 6 (by decide) (by decide), hcc 99 (by decide) (by decide) (by decide), hcc 100 (by decide) (by decide) (by decide)]; exact p1
          · rw [← hM4]; show (sN s : Int) + 1 = ((sN s + 1 : Nat) : Int); omega
          · have hl' : l < sN s + 1 := hl
            show M4 103 (8 + l) = upN (sM s) (sN s) (tV t1) l
            have e103 : M4 103 = va_up (M1 103) (8 + sN s) (tV t1) := by rw [← hM4, upM_ne _ _ _ (by decide), upM_ne _ _ _ (by decide), c13 103 (by decide), upM_self]
            rw [e103]
            by_cases e : l = sN s
            · rw [e, va_up_self, upN_self]
            · rw [va_up_neq _ _ (by omega), upN_ne _ _ e]; exact hN1.2.2.1 l (by omega)
          · have hl' : l < sN s + 1 := hl
            show if (sLn s).testBit l = true then M4 105 (8 + l) = (sRt s l : Int) ∧ sRt s l < 64 else M4 105 (8 + l) = -1
            rw [hcc 105 (by decide) (by decide) (by decide)]
            by_cases e : l = sN s
            · rw [e, tb_top hln, if_neg (by decide)]
              exact p4 (sN s) (by omega) (tb_top hln)
            · exact hN1.2.2.2 l (by omega)
          · rw [hcc 105 (by decide) (by decide) (by decide)]; exact p4
          · have hl' : l < sN s + 1 := hl
            show M4 104 (8 + l) = ((bt (sU s ||| (tV t2).toNat * 2 ^ sN s) l : Nat) : Int)
            have e104 : M4 104 = va_up (M1 104) (8 + sN s) (tV t2) := by rw [← hM4, upM_ne _ _ _ (by decide), upM_self, c13 104 (by decide)]; rfl
            rw [e104, bt_or hu (by omega)]
            by_cases e : l = sN s
            · rw [if_pos e, e, va_up_self]; omega
            · rw [if_neg e, va_up_neq _ _ (by omega)]; exact p5 l (by show l < sN s; omega)
          · rw [hqq 17 (by decide) (by decide), hcc 107 (by decide) (by decide) (by decide), hcc 108 (by decide) (by decide) (by decide)]; exact p7
          · rw [hqq 18 (by decide) (by decide), hcc 109 (by decide) (by decide) (by decide)]; exact p8
          · rw [hcc 102 (by decide) (by decide) (by decide), hcc 101 (by decide) (by decide) (by decide)]; exact p9
          · unfold upH; rw [hcc 113 (by decide) (by decide) (by decide), hcc 114 (by decide) (by decide) (by decide), hcc 115 (by decide) (by decide) (by decide), hcc 116 (by decide) (by decide) (by decide), hcc 117 (by decide) (by decide) (by decide), hcc 118 (by decide) (by decide) (by decide)]; exact p10
          · unfold upH; rw [hcc 110 (by decide) (by decide) (by decide), hcc 111 (by decide) (by decide) (by decide), hcc 112 (by decide) (by decide) (by decide)]; exact p11
          · rw [hqq 33 (by decide) (by decide), hqq 19 (by decide) (by decide), hqq 45 (by decide) (by decide)]; exact p12
        · rcases hw with ⟨z1, z2⟩ | ⟨z1, z2, z3⟩
          · rw [if_pos z1, z2]
          · rw [if_neg (fun z => z z1), if_pos z2, z3]
      · rw [if_pos (by omega)] at HE
        rw [q3]
        exact ⟨⟨by omega, by omega⟩, fun y => absurd y (by omega), fun _ => c_wrong (by decide) h10 (fun M' a1 a2 a3 => ⟨Or.inl rfl, HE 3 (tS t1) rfl M' (b1.toH.toRm.tr a1.toRm) a2 a3⟩)⟩
    · rw [if_pos (fun z => c2 (hk2.2.1 z))] at HE
      exact c_wrong (by decide) h10 (fun M' a1 a2 a3 => ⟨Or.inl rfl, HE 1 (tS t1) rfl M' (b1.toH.toRm.tr a1.toRm) a2 a3⟩)
  · rw [if_pos (by omega)] at HE
    exact c_wrong (by decide) h.2.1.2.1 (fun M' a1 a2 a3 => ⟨Or.inl rfl, HE 2 (tS (sT s)) rfl M' a1.toRm a2 a3⟩)
end LINESM
