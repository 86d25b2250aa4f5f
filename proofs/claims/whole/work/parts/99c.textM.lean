/-! a text in the reference: line after line -/
section TEXTM
variable {E : Scr} {bs : BF} {L : Nat}
theorem c_textL {f : Int → Mem → Prop} {M0 : Mem} : ∀ (j m : Nat) (s : PSt) (M : Mem), PI L s → L < tS (sT s) + j → FrRm M0 M → M 98 4 = 0 → M 98 5 = -1 → PMr bs L s M →
    (∀ w pl, txtP bs L j m s = Sum.inl (w, pl) → ∀ M', FrRm M0 M' → M' 98 4 = w → M' 98 5 = (pl : Int) → f (-1) M') →
    (∀ r m', txtP bs L j m s = Sum.inr (r, m') → PI L r → ∀ M', FrRm M0 M' → M' 98 4 = 0 → M' 98 5 = -1 → PMr bs L r M' → CV E mX11_keepText [pR 98] M' (fun M3 => f (m' : Int) M3)) →
    KW E mX11_text (qI f) M 55 [(0, pR 98), (2, pI (m : Int))] [] := by
  intro j
  induction j with
  | zero => intro m s M hI hj; have := hI.1.1; omega
  | succ j ih =>
    intro m s M hI hj hF h4 h5 hP HE HO
    simp only [txtP] at HE HO
    have hk : RK (sT s) (M 98 8) (M 98 9) := hP.2.1.1
    have hk2 := hk.k2
    apply vX11_text_55
    refine fun _ => ⟨fun c => ?_, fun c => ?_⟩
    · rw [if_pos (hk2.2.2.1 c)] at HO
      exact HO s m rfl hI M hF h4 h5 hP
    · have h39 : tK (sT s) ≠ 39 := fun z => c (hk2.2.2.2 z)
      rw [if_neg h39] at HE HO
      refine c_lineM hI h39 hP (fun w pl e M1 a1 a2 a3 => ?_) (fun r e M1 a1 a2 a3 a4 => ?_)
      · rw [e] at HE
        exact ⟨⟨by decide, by decide⟩, fun z => absurd rfl z, fun _ => HE w pl rfl M1 (hF.tr a1) a2 a3⟩
      · rw [e] at HE HO
        have hle := hI.lnE h39 e
        rw [show (m : Int) + 1 = ((m + 1 : Nat) : Int) by omega]
        exact ⟨⟨by decide, by decide⟩, fun _ => ih (m + 1) r M1 hle.1 (by omega) (hF.tr a1) (a2.trans h4) (a3.trans h5) a4 HE HO, fun z => absurd z (by decide)⟩
theorem c_plain {f : Mem → Prop} {M : Mem} (H : ∀ M', FrRm M M' → (∀ k, ¬ (16 ≤ k ∧ k ≤ 19) → k ≠ 33 → k ≠ 45 → M' 98 k = M 98 k) → (M' 98 16 = 0 ∧ M' 98 17 = 0 ∧ M' 98 18 = 0 ∧ M' 98 19 = 0 ∧ M' 98 33 = 0 ∧ M' 98 45 = 0) → (∀ i, i < 2 → M' 101 i = 0 ∧ M' 102 (2 + i) = 0) → (∀ l, l < 8 → M' 105 (8 + l) = -1 ∧ M' 106 (8 + l) = 0) → (∀ k, k < 3 → M' 113 (3 + k) = 0) → f M') : CV E mX11_plain [pR 98] M f := by
  apply vX11_plain_0
  generalize hM0 : upM (upM (upM (upM (upM (upM M 98 16 0) 98 17 0) 98 18 0) 98 19 0) 98 33 0) 98 45 0 = M0
  have hF0 : FrRm M M0 := by rw [← hM0]; exact (((((FrRm.u98 _ (by omega)).tr (FrRm.u98 _ (by omega))).tr (FrRm.u98 _ (by omega))).tr (FrRm.u98 _ (by omega))).tr (FrRm.u98 _ (by omega))).tr (FrRm.u98 _ (by omega))
  have q0 : ∀ k, ¬ (16 ≤ k ∧ k ≤ 19) → k ≠ 33 → k ≠ 45 → M0 98 k = M 98 k := fun k k1 k2 k3 => by rw [← hM0, upM_self, va_up_neq _ _ k3, upM_self, va_up_neq _ _ k2, upM_self, va_up_neq _ _ (by omega), upM_self, va_up_neq _ _ (by omega), upM_self, va_up_neq _ _ (by omega), upM_self, va_up_neq _ _ (by omega)]
  have z0 : M0 98 16 = 0 ∧ M0 98 17 = 0 ∧ M0 98 18 = 0 ∧ M0 98 19 = 0 ∧ M0 98 33 = 0 ∧ M0 98 45 = 0 := by rw [← hM0]; exact ⟨rfl, rfl, rfl, rfl, rfl, rfl⟩
  have l3 : ∀ (j i : Nat) (M1 : Mem), i + j = 3 → FrRm M0 M1 → M1 98 = M0 98 → (∀ i, i < 2 → M1 101 i = 0 ∧ M1 102 (2 + i) = 0) → (∀ l, l < 8 → M1 105 (8 + l) = -1 ∧ M1 106 (8 + l) = 0) → (∀ k, k < i → M1 113 (3 + k) = 0) → KW E mX11_plain (qV f) M1 90 [(0, pR 98), (1, pI ((3 + i : Nat) : Int))] [] := by
    intro j
    induction j with
    | zero =>
      intro i M1 hij hF h98 hA hB hC
      refine vX11_plain_90 _ ⟨⟨by omega, by omega⟩, fun _ => H M1 (hF0.tr hF) (by rw [h98]; exact q0) (by rw [h98]; exact z0) hA hB (fun k hk => hC k (by omega)), fun z => absurd z (by omega)⟩
    | succ j ih =>
      intro i M1 hij hF h98 hA hB hC
      refine vX11_plain_90 _ ⟨⟨by omega, by omega⟩, fun z => absurd z (by omega), fun _ => ⟨⟨by omega, by omega⟩, ?_⟩⟩
      rw [Int.toNat_natCast, show ((3 + i : Nat) : Int) + 1 = ((3 + (i + 1) : Nat) : Int) by omega]
      refine ih (i + 1) _ (by omega) (hF.tr (FrRm.uA _ (by omega) (by unfold lowH; omega))) (by rw [upM_ne _ _ _ (by decide)]; exact h98) (by rw [upM_ne _ _ _ (by decide), upM_ne _ _ _ (by decide)]; exact hA) (by rw [upM_ne _ _ _ (by decide), upM_ne _ _ _ (by decide)]; exact hB) (fun k hk => ?_)
      rw [upM_self]
      by_cases e : k = i
      · rw [e, va_up_self]
      · rw [va_up_neq _ _ (by omega)]; exact hC k (by omega)
  have l2 : ∀ (j i : Nat) (M1 : Mem), i + j = 8 → FrRm M0 M1 → M1 98 = M0 98 → (∀ i, i < 2 → M1 101 i = 0 ∧ M1 102 (2 + i) = 0) → (∀ l, l < i → M1 105 (8 + l) = -1 ∧ M1 106 (8 + l) = 0) → KW E mX11_plain (qV f) M1 62 [(0, pR 98), (1, pI ((8 + i : Nat) : Int))] [] := by
    intro j
    induction j with
    | zero =>
      intro i M1 hij hF h98 hA hB
      exact vX11_plain_62 _ ⟨⟨by omega, by omega⟩, fun _ => l3 3 0 M1 (by omega) hF h98 hA (fun l hl => hB l (by omega)) (fun k hk => absurd hk (Nat.not_lt_zero _)), fun z => absurd z (by omega)⟩
    | succ j ih =>
      intro i M1 hij hF h98 hA hB
      refine vX11_plain_62 _ ⟨⟨by omega, by omega⟩, fun z => absurd z (by omega), fun _ => ⟨⟨by omega, by omega⟩, ⟨by omega, by omega⟩, ?_⟩⟩
      rw [Int.toNat_natCast, show ((8 + i : Nat) : Int) + 1 = ((8 + (i + 1) : Nat) : Int) by omega]
      refine ih (i + 1) _ (by omega) ((hF.tr (FrRm.uA _ (by omega) (by unfold lowH; omega))).tr (FrRm.uA _ (by omega) (by unfold lowH; omega))) (by rw [upM_ne _ _ _ (by decide), upM_ne _ _ _ (by decide)]; exact h98) (by rw [upM_ne _ _ _ (by decide), upM_ne _ _ _ (by decide), upM_ne _ _ _ (by decide), upM_ne _ _ _ (by decide)]; exact hA) (fun l hl => ?_)
      rw [upM_ne _ _ _ (by decide), upM_self, upM_self, upM_ne _ _ _ (by decide)]
      by_cases e : l = i
      · rw [e, va_up_self, va_up_self]; exact ⟨rfl, rfl⟩
      · rw [va_up_neq _ _ (by omega), va_up_neq _ _ (by omega)]; exact hB l (by omega)
  have l1 : ∀ (j i : Nat) (M1 : Mem), i + j = 2 → FrRm M0 M1 → M1 98 = M0 98 → (∀ q, q < i → M1 101 q = 0 ∧ M1 102 (2 + q) = 0) → KW E mX11_plain (qV f) M1 32 [(0, pR 98), (1, pI (i : Int))] [] := by
    intro j
    induction j with
    | zero =>
      intro i M1 hij hF h98 hA
      exact vX11_plain_32 _ ⟨⟨by omega, by omega⟩, fun _ => l2 8 0 M1 (by omega) hF h98 (fun q hq => hA q (by omega)) (fun k hk => absurd hk (Nat.not_lt_zero _)), fun z => absurd z (by omega)⟩
    | succ j ih =>
      intro i M1 hij hF h98 hA
      refine vX11_plain_32 _ ⟨⟨by omega, by omega⟩, fun z => absurd z (by omega), fun _ => ⟨⟨by omega, by omega⟩, ⟨by omega, by omega⟩, ?_⟩⟩
      rw [Int.toNat_natCast, show ((2 : Int) + (i : Int)).toNat = 2 + i by omega, show (i : Int) + 1 = ((i + 1 : Nat) : Int) by omega]
      refine ih (i + 1) _ (by omega) ((hF.tr (FrRm.uA _ (by omega) (by unfold lowH; omega))).tr (FrRm.uA _ (by omega) (by unfold lowH; omega))) (by rw [upM_ne _ _ _ (by decide), upM_ne _ _ _ (by decide)]; exact h98) (fun l hl => ?_)
      rw [upM_ne _ _ _ (by decide), upM_self, upM_self, upM_ne _ _ _ (by decide)]
      by_cases e : l = i
      · rw [e, va_up_self, va_up_self]; exact ⟨rfl, rfl⟩
      · rw [va_up_neq _ _ (by omega), va_up_neq _ _ (by omega)]; exact hA l (by omega)
  exact l1 2 0 M0 (by omega) (FrRm.rf _) rfl (fun k hk => absurd hk (Nat.not_lt_zero _))
/-- what a text may change, before it is kept -/
def FrRt (M M' : Mem) : Prop := (∀ a, a ≠ 98 → ¬ (101 ≤ a ∧ a ≤ 120) → M' a = M a) ∧ (∀ a i, lowH a i → M' a i = M a i) ∧ ∀ k, ¬ (1 ≤ k ∧ k ≤ 2) → ¬ (4 ≤ k ∧ k ≤ 11) → ¬ (16 ≤ k ∧ k ≤ 19) → k ≠ 33 → ¬ (42 ≤ k ∧ k ≤ 47) → M' 98 k = M 98 k
theorem c_textM {f : Int → Mem → Prop} {M : Mem} {sz : Nat} (h1 : M 98 1 = (sz : Int)) (hL : L ≤ sz) (hsz : sz ≤ 700) (hb : ∀ i, i < L → M 99 i = (bs i : Int) ∧ bs i < 256) (hw : ∀ i, i < 116 → M 100 i = (rwN i : Int))
    (HE : ∀ w pl, txtP bs L (L + 1) 0 (ps0 bs L) = Sum.inl (w, pl) → ∀ M', FrRt M M' → M' 98 1 = 0 → M' 98 2 = 0 → M' 98 4 = w → M' 98 5 = (pl : Int) → f (-1) M')
    (HO : ∀ r m, txtP bs L (L + 1) 0 (ps0 bs L) = Sum.inr (r, m) → PI L r → ∀ M', FrRt M M' → M' 98 1 = 0 → M' 98 2 = 0 → M' 98 4 = 0 → M' 98 5 = -1 → PMr bs L r M' → CV E mX11_keepText [pR 98] M' (fun M3 => f (m : Int) M3)) :
    CI E mX11_text [pR 98, pI (L : Int)] M f := by
  apply vX11_text_0
  rw [h1]
  refine ⟨⟨by omega, by omega⟩, fun z => absurd z (by omega), fun _ _ => ⟨⟨by omega, by omega⟩, fun _ => ⟨⟨by omega, by omega⟩, ?_⟩, fun z => absurd z (by omega)⟩⟩
  generalize hM0 : upM (upM (upM (upM (upM (upM M 98 2 0) 98 6 (L : Int)) 98 1 0) 98 4 0) 98 5 (-1)) 98 7 0 = M0
  have c0 : ∀ a, a ≠ 98 → M0 a = M a := fun a ha => by rw [← hM0, upM_ne _ _ _ ha, upM_ne _ _ _ ha, upM_ne _ _ _ ha, upM_ne _ _ _ ha, upM_ne _ _ _ ha, upM_ne _ _ _ ha]
  have q0 : ∀ k, ¬ (1 ≤ k ∧ k ≤ 2) → ¬ (4 ≤ k ∧ k ≤ 7) → M0 98 k = M 98 k := fun k k1 k2 => by rw [← hM0, upM_self, va_up_neq _ _ (by omega), upM_self, va_up_neq _ _ (by omega), upM_self, va_up_neq _ _ (by omega), upM_self, va_up_neq _ _ (by omega), upM_self, va_up_neq _ _ (by omega), upM_self, va_up_neq _ _ (by omega)]
  refine c_plain (fun M1 a1 a2 a3 a4 a5 a6 => ?_)
  have hT1 : TPm bs L M1 := by
    unfold TPm
    rw [a2 6 (by decide) (by decide) (by decide), a1.1 99 (by decide) (by decide), a1.1 100 (by decide) (by decide), c0 99 (by decide), c0 100 (by decide)]
    exact ⟨by rw [← hM0]; rfl, by omega, hb, hw⟩
  refine c_token hT1 (Nat.zero_le L) (by rw [a2 7 (by decide) (by decide) (by decide), ← hM0]; rfl) (fun M2 b1 b2 => ?_)
  have toT : ∀ M', FrRm M2 M' → FrRt M M' := fun M' hF => by
    have h02 := a1.tr b1.toH.toRm
    refine ⟨fun a x1 x2 => by rw [hF.1 a x1 x2, h02.1 a x1 x2, c0 a x1], fun a i hl => by rw [hF.2.1 a i hl, h02.2.1 a i hl, c0 a (by unfold lowH at hl; omega)], fun k k1 k2 k3 k4 k5 => by rw [hF.2.2 k (by omega) (by omega) k3 k4 k5, h02.2.2 k (by omega) (by omega) k3 k4 k5, q0 k k1 (by omega)]⟩
  have kp : ∀ M', FrRm M2 M' → M' 98 1 = 0 ∧ M' 98 2 = 0 := fun M' hF => by
    have h02 := (a1.tr b1.toH.toRm).tr hF
    rw [h02.2.2 1 (by decide) (by decide) (by decide) (by decide) (by decide), h02.2.2 2 (by decide) (by decide) (by decide) (by decide) (by decide), ← hM0]; exact ⟨rfl, rfl⟩
  have hP : PMr bs L (ps0 bs L) M2 := by
    have cc : ∀ a, a ≠ 98 → M2 a = M1 a := b1.1
    refine ⟨hT1.fr b1, b2, ⟨by rw [b1.2 16 (by decide)]; exact a3.1, Nat.zero_le _, fun l hl => absurd hl (Nat.not_lt_zero _), fun l hl => absurd hl (Nat.not_lt_zero _)⟩, fun l hl _ => by rw [cc 105 (by decide)]; exact (a5 l hl).1, fun l hl => absurd hl (Nat.not_lt_zero _), fun l hl => by rw [cc 106 (by decide)]; exact (a5 l hl).2, ⟨by rw [b1.2 17 (by decide)]; exact a3.2.1, fun i o m he => absurd he (show ¬ ([] : List (Nat × Int))[i]? = some (o, m) by simp)⟩, ⟨by rw [b1.2 18 (by decide)]; exact a3.2.2.1, fun i m he => absurd he (show ¬ ([] : List Int)[i]? = some m by simp)⟩, ⟨by rw [cc 102 (by decide)]; exact (a4 0 (by decide)).2, by rw [cc 102 (by decide)]; exact (a4 1 (by decide)).2, by rw [cc 101 (by decide)]; exact (a4 0 (by decide)).1, by rw [cc 101 (by decide)]; exact (a4 1 (by decide)).1⟩, fun k hk => Or.inl ⟨rfl, by rw [cc 113 (by decide)]; exact a6 k hk⟩, fun e he => absurd he (show ¬ e ∈ ([] : List LF) by simp), ⟨by rw [b1.2 33 (by decide)]; exact a3.2.2.2.2.1, by rw [b1.2 19 (by decide)]; exact a3.2.2.2.1, by rw [b1.2 45 (by decide)]; exact a3.2.2.2.2.2⟩⟩
  refine c_textL (M0 := M2) (L + 1) 0 (ps0 bs L) M2 PI.zero (by omega) (FrRm.rf _) ?_ ?_ hP (fun w pl e M' k1 k2 k3 => HE w pl e M' (toT M' k1) (kp M' k1).1 (kp M' k1).2 k2 k3) (fun r m e e2 M' k1 k2 k3 k4 => HO r m e e2 M' (toT M' k1) (kp M' k1).1 (kp M' k1).2 k2 k3 k4)
  · rw [b1.2 4 (by decide), a2 4 (by decide) (by decide) (by decide), ← hM0]; rfl
  · rw [b1.2 5 (by decide), a2 5 (by decide) (by decide) (by decide), ← hM0]; rfl
end TEXTM
