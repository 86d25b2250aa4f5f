/-! the class's table -/
theorem pw8' {n : Nat} (h : n ≤ 8) : 2 ^ n ≤ 256 := Nat.pow_le_pow_right (by decide) h
section SETTLEC
variable {E : Scr} {bs : BF} {L : Nat} {s : PSt}
def FrO3 (M M' : Mem) : Prop := ∀ a, a ≠ 10 → a ≠ 18 → a ≠ 19 → M' a = M a
theorem FrO3.rf (M : Mem) : FrO3 M M := fun _ _ _ _ => rfl
theorem FrO3.tr {M M1 M2 : Mem} (h1 : FrO3 M M1) (h2 : FrO3 M1 M2) : FrO3 M M2 := fun a a1 a2 a3 => (h2 a a1 a2 a3).trans (h1 a a1 a2 a3)
theorem FrO2.to3 {M M' : Mem} (h : FrO2 M M') : FrO3 M M' := fun a _ a2 a3 => h a a2 a3
theorem PrC.of3 {M M' : Mem} (h : PrC bs L s M) (hF : FrO3 M M') : PrC bs L s M' := by
  obtain ⟨g1, g2, g3, g4, g5, g6, g7, g8, g9, g10, g11, g12⟩ := h
  have hc : ∀ a, a < 10 ∨ (10 < a ∧ a < 18) → M' a = M a := fun a ha => hF a (by omega) (by omega) (by omega)
  refine ⟨?_, g2.of (hc 2 (by decide)), ?_, ?_, g5.of (hc 9 (by decide)), ?_, ?_, ?_, ?_, ?_, g11.of (hc 15 (by decide)) (hc 16 (by decide)) (hc 17 (by decide)), ?_⟩
  · unfold TPc; rw [hc 2 (by decide), hc 3 (by decide), hc 4 (by decide)]; exact g1
  · unfold NmC; rw [hc 5 (by decide), hc 6 (by decide)]; exact g3
  · rw [hc 5 (by decide)]; exact g4
  · rw [hc 5 (by decide), hc 7 (by decide), hc 8 (by decide)]; exact g6
  · rw [hc 5 (by decide), hc 11 (by decide), hc 12 (by decide)]; exact g7
  · rw [hc 5 (by decide), hc 13 (by decide)]; exact g8
  · rw [hc 5 (by decide), hc 1 (by decide)]; exact g9
  · rw [hc 14 (by decide)]; exact g10
  · rw [hc 1 (by decide)]; exact g12
theorem c_settle {f : Mem → Prop} {M0 : Mem} (hI : PI L s) (hP : PrC bs L s M0) (H : ∀ M', FrO3 M0 M' → (∀ x, x < 2 ^ sN s → M' 10 x = (mayP s x : Int) ∧ mayP s x < 2 ^ sN s) → f M') : CV E mX1_settle [pR 5] M0 f := by
  obtain ⟨hTk, ⟨hn, hu⟩, -⟩ := id hI
  have hp8 := pw8' hn
  have hN : NmC (sN s) (sM s) (sLn s) M0 := hP.2.2.1
  apply vX1_settle_0
  have loop : ∀ (j x : Nat) (M : Mem), x + j = 2 ^ sN s → FrO3 M0 M → (∀ y, y < x → M 10 y = (mayP s y : Int) ∧ mayP s y < 2 ^ sN s) → KW E mX1_settle (qV f) M 2 [(0, pR 5), (1, pI (x : Int))] [] := by
    intro j
    induction j with
    | zero =>
      intro x M hx hF hy
      apply vX1_settle_2
      have e51 : M 5 1 = (sN s : Int) := by rw [hF 5 (by decide) (by decide) (by decide)]; exact hN.1
      rw [e51, bShl_one (by omega)]
      exact fun _ => ⟨⟨by omega, by omega⟩, fun _ => H M hF (fun y h => hy y (by omega)), fun z => absurd z (by omega)⟩
    | succ j ih =>
      intro x M hx hF hy
      apply vX1_settle_2
      have e51 : M 5 1 = (sN s : Int) := by rw [hF 5 (by decide) (by decide) (by decide)]; exact hN.1
      rw [e51, bShl_one (by omega)]
      refine fun _ => ⟨⟨by omega, by omega⟩, fun z => absurd z (by omega), fun _ => ⟨⟨by omega, by omega⟩, fun z => absurd z (by omega), fun _ => ?_⟩⟩
      have hpo : pop x ≤ 17 := popN_le 17 x
      refine c_bitCount (by omega) ?_
      refine c_openBy hI (by omega) ⟨by omega, by omega⟩ (hP.of3 hF) (fun M1 a1 a2 => ?_)
      refine c_openBy hI (by omega) ⟨by omega, by omega⟩ (hP.of3 (hF.tr a1.to3)) (fun M2 b1 b2 => ?_)
      rw [bAndN_nat (by omega) (by omega), bAnd_nat (by omega) (by omega)]
      have hl1 : andN (opA s x (pop x : Int)) x ≤ opA s x (pop x : Int) := andN_le _ _
      have hl2 : opA s x ((pop x : Int) - 1) &&& x ≤ x := Nat.and_le_right
      rw [bOr_nat (by omega) (by omega), Int.toNat_natCast]
      have hmx : andN (opA s x (pop x : Int)) x ||| (opA s x ((pop x : Int) - 1) &&& x) = mayP s x := rfl
      rw [hmx, show (x : Int) + 1 = ((x + 1 : Nat) : Int) by omega]
      have hml : mayP s x < 2 ^ sN s := Nat.or_lt_two_pow (by omega) (by omega)
      refine ⟨⟨by omega, by omega⟩, ih (x + 1) _ (by omega) ((hF.tr (a1.tr b1).to3).tr (fun a c1 _ _ => upM_ne _ _ _ c1)) (fun y hy2 => ?_)⟩
      rw [upM_self]
      by_cases e : y = x
      · rw [e, va_up_self]; exact ⟨rfl, hml⟩
      · rw [va_up_neq _ _ e, (a1.tr b1) 10 (by decide) (by decide)]; exact hy y (by omega)
  exact loop (2 ^ sN s) 0 M0 (by omega) (FrO3.rf _) (fun y h => absurd h (Nat.not_lt_zero _))
/-- a text read, in the class -/
theorem c_readsT {f : Int → Mem → Prop} {M : Mem} {sz : Nat} (h22 : M 2 2 = (sz : Int)) (hL : L ≤ sz) (hsz : sz ≤ 700) (hb : ∀ i, i < L → M 3 i = (bs i : Int) ∧ bs i < 256) (hw : ∀ w, w < 24 → M 4 w = (wcN w : Int))
    (HE : ∀ w pl, txtP bs L (L + 1) 0 (ps0 bs L) = Sum.inl (w, pl) → ∀ M', FrX M M' → M' 1 9 = w → M' 1 10 = (pl : Int) → f 0 M')
    (HO : ∀ r m, txtP bs L (L + 1) 0 (ps0 bs L) = Sum.inr (r, m) → PI L r → ∀ M', FrX M M' → M' 1 9 = 0 → M' 1 10 = -1 → M' 5 0 = (m : Int) → PrC bs L r M' → (∀ x, x < 2 ^ sN r → M' 10 x = (mayP r x : Int) ∧ mayP r x < 2 ^ sN r) → f 1 M') :
    CI E mX5_reads [pR 1, pI (L : Int)] M f :=
  c_reads h22 hL hsz hb hw HE (fun r m e hI M1 a1 a2 a3 a4 a5 => c_settle hI a5 (fun M2 b1 b2 => HO r m e hI M2 (a1.tr ⟨fun a c1 c2 => b1 a (by omega) (by omega) (by omega), fun k _ => by rw [b1 2 (by decide) (by decide) (by decide)]⟩) (by rw [b1 1 (by decide) (by decide) (by decide)]; exact a2) (by rw [b1 1 (by decide) (by decide) (by decide)]; exact a3) (by rw [b1 5 (by decide) (by decide) (by decide)]; exact a4) (a5.of3 b1) b2))
end SETTLEC
