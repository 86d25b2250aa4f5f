/-! a text in the class: line after line -/
section READSC
variable {E : Scr} {bs : BF} {L : Nat}
theorem c_readsL {f : Int → Mem → Prop} {M0 : Mem} : ∀ (j m x : Nat) (s : PSt) (M : Mem), PI L s → L < tS (sT s) + j → x ≤ tS (sT s) → m ≤ x → FrRd M0 M → M 1 9 = 0 → M 1 10 = -1 → M 5 0 = (m : Int) → PrC bs L s M →
    (∀ w pl, txtP bs L j m s = Sum.inl (w, pl) → ∀ M', FrRd M0 M' → M' 1 9 = w → M' 1 10 = (pl : Int) → f 0 M') →
    (∀ r m', txtP bs L j m s = Sum.inr (r, m') → PI L r → ∀ M', FrRd M0 M' → M' 1 9 = 0 → M' 1 10 = -1 → M' 5 0 = (m' : Int) → PrC bs L r M' → CV E mX1_settle [pR 5] M' (fun M3 => f 1 M3)) →
    KW E mX5_reads (qI f) M 42 [(0, pR 1), (2, pI (x : Int))] [] := by
  intro j
  induction j with
  | zero => intro m x s M hI hj; have := hI.1.1; omega
  | succ j ih =>
    intro m x s M hI hj hx hm hF h9 h10 h50 hP HE HO
    have hL := hP.1.2.1
    have hk := hI.1.1
    simp only [txtP] at HE HO
    apply vX5_reads_42
    rw [hP.2.1.1]
    refine ⟨⟨by omega, by omega⟩, fun z => absurd z (by omega), fun _ _ => ⟨fun c => ?_, fun c => ?_⟩⟩
    · rw [if_pos c] at HO
      exact HO s m rfl hI M hF h9 h10 h50 hP
    · rw [if_neg c] at HE HO
      refine c_lineC hI hP (fun w pl e M1 a1 a2 a3 => ⟨⟨by decide, by decide⟩, fun _ => HE w pl ?_ M1 (hF.tr a1) a2 a3, fun z => absurd rfl z⟩) (fun r e M1 a1 a2 => ⟨⟨by decide, by decide⟩, fun z => absurd z (by decide), fun _ => ?_⟩)
      · unfold lineE; rw [e]
      · have hr := hI.line c e
        apply vX5_ends_0
        rw [a2.2.1.1]
        refine fun _ => ⟨fun c24 => ?_, fun c24 => ?_⟩
        · have el : lineE bs L s = Sum.inr (tok bs L (tN (sT r)), r.2) := by
            unfold lineE; rw [e]; simp only; rw [if_pos c24]
          rw [el] at HE HO
          have hle := hI.lnE c el
          refine c_advP hr.1.1 a2 (fun M2 b1 b2 b2' b3 => ⟨⟨by decide, by decide⟩, fun _ => ?_, fun z => absurd z (by decide)⟩)
          have e50 : M2 5 0 = (m : Int) := by rw [b1.2.2.2, a1.2.2.2]; exact h50
          rw [e50]
          intro _
          have hmx : (m : Int) + 1 = ((m + 1 : Nat) : Int) := by omega
          have hxx : (x : Int) + 1 = ((x + 1 : Nat) : Int) := by omega
          rw [hmx, hxx]
          have hle2 : tS (sT s) + 1 ≤ tS (tok bs L (tN (sT r))) := hle.2
          refine ⟨⟨by omega, by omega⟩, ih (m + 1) (x + 1) (tok bs L (tN (sT r)), r.2) _ hle.1 (by show L < tS (tok bs L (tN (sT r))) + j; omega) (by show x + 1 ≤ tS (tok bs L (tN (sT r))); omega) (by omega) ((hF.tr (a1.tr b1).1).tr (FrRd.u _ (by omega))) ?_ ?_ rfl ?_ HE HO⟩
          · rw [upM_ne _ _ _ (by decide), b1.2.1, a1.2.1]; exact h9
          · rw [upM_ne _ _ _ (by decide), b1.2.2.1, a1.2.2.1]; exact h10
          · generalize hM3 : upM M2 5 0 ((m + 1 : Nat) : Int) = M3
            have hc : ∀ a, a ≠ 5 → M3 a = M2 a := fun a ha => by rw [← hM3, upM_ne _ _ _ ha]
            have h5 : ∀ q, q ≠ 0 → M3 5 q = M2 5 q := fun q hq => by rw [← hM3, upM_self, va_up_neq _ _ hq]
            obtain ⟨g1, g2, g3, g4, g5, g6, g7, g8, g9, g10, g11, g12⟩ := b3
            refine ⟨(show FrRd M2 M3 by rw [← hM3]; exact FrRd.u _ (by omega)).tp g1, g2.of (hc 2 (by decide)), ?_, ?_, g5.of (hc 9 (by decide)), ?_, ?_, ?_, ?_, ?_, g11.of (hc 15 (by decide)) (hc 16 (by decide)) (hc 17 (by decide)), ?_⟩
            · unfold NmC; rw [h5 1 (by decide), h5 5 (by decide), hc 6 (by decide)]; exact g3
            · rw [h5 2 (by decide)]; exact g4
            · rw [h5 4 (by decide), hc 7 (by decide), hc 8 (by decide)]; exact g6
            · rw [h5 10 (by decide), hc 11 (by decide), hc 12 (by decide)]; exact g7
            · rw [h5 13 (by decide), hc 13 (by decide)]; exact g8
            · rw [h5 15 (by decide), h5 16 (by decide), hc 1 (by decide)]; exact g9
            · rw [hc 14 (by decide)]; exact g10
            · rw [hc 1 (by decide)]; exact g12
        · have el : lineE bs L s = Sum.inl (1, tS (sT r)) := by
            unfold lineE; rw [e]; simp only; rw [if_neg c24]
          rw [el] at HE
          exact c_failsC (by decide) a2.2.1.2.2.1 (fun M' d1 d2 d3 => ⟨Or.inl rfl, ⟨by decide, by decide⟩, fun z => absurd rfl z, fun _ => HE 1 (tS (sT r)) rfl M' ((hF.tr a1.1).tr d1.toRd) d2 d3⟩)
/-- all but the reader's own stays -/
def FrX (M M' : Mem) : Prop := (∀ a, ¬ (1 ≤ a ∧ a ≤ 2) → ¬ (5 ≤ a ∧ a ≤ 20) → M' a = M a) ∧ ∀ k, k < 3 → M' 2 k = M 2 k
theorem FrRd.toX {M M' : Mem} (h : FrRd M M') : FrX M M' := ⟨fun a a1 a2 => h.1 a a1 (by omega) (by omega) (by omega), fun k k1 => h.2 k (by omega)⟩
theorem FrX.tr {M M1 M2 : Mem} (h1 : FrX M M1) (h2 : FrX M1 M2) : FrX M M2 := ⟨fun a a1 a2 => (h2.1 a a1 a2).trans (h1.1 a a1 a2), fun k k1 => (h2.2 k k1).trans (h1.2 k k1)⟩
theorem c_reads {f : Int → Mem → Prop} {M : Mem} {sz : Nat} (h22 : M 2 2 = (sz : Int)) (hL : L ≤ sz) (hsz : sz ≤ 700) (hb : ∀ i, i < L → M 3 i = (bs i : Int) ∧ bs i < 256) (hw : ∀ w, w < 24 → M 4 w = (wcN w : Int))
    (HE : ∀ w pl, txtP bs L (L + 1) 0 (ps0 bs L) = Sum.inl (w, pl) → ∀ M', FrX M M' → M' 1 9 = w → M' 1 10 = (pl : Int) → f 0 M')
    (HO : ∀ r m, txtP bs L (L + 1) 0 (ps0 bs L) = Sum.inr (r, m) → PI L r → ∀ M', FrX M M' → M' 1 9 = 0 → M' 1 10 = -1 → M' 5 0 = (m : Int) → PrC bs L r M' → CV E mX1_settle [pR 5] M' (fun M3 => f 1 M3)) :
    CI E mX5_reads [pR 1, pI (L : Int)] M f := by
  apply vX5_reads_0
  apply vX1_clear_0
  refine c_fill (aa := 9) (nn := 8) rfl (by decide) ⟨by decide, by decide⟩ (fun M1 a1 a2 => ?_)
  refine c_fill (aa := 14) (nn := 6) rfl (by decide) ⟨by decide, by decide⟩ (fun M2 b1 b2 => ?_)
  apply vX8_begin_0
  have e22 : (upM (upM (upM (upM (upM (upM M2 15 3 0) 1 6 0) 1 7 0) 1 8 0) 1 9 0) 1 10 (-1)) 2 2 = (sz : Int) := by
    show M2 2 2 = _
    rw [b1 2 (by decide)]; show M1 2 2 = _; rw [a1 2 (by decide)]; exact h22
  rw [e22, show min (L : Int) (sz : Int) = (L : Int) by omega]
  refine fun _ => ⟨⟨by omega, by omega⟩, ?_⟩
  generalize hM3 : upM (upM (upM (upM (upM (upM (upM (upM M2 15 3 0) 1 6 0) 1 7 0) 1 8 0) 1 9 0) 1 10 (-1)) 2 3 (L : Int)) 2 4 0 = M3
  have hc : ∀ a, ¬ (1 ≤ a ∧ a ≤ 2) → a ≠ 5 → a ≠ 9 → a ≠ 14 → a ≠ 15 → M3 a = M a := by
    intro a c1 c2 c3 c4 c5
    rw [← hM3, upM_ne _ _ _ (by omega), upM_ne _ _ _ (by omega), upM_ne _ _ _ (by omega), upM_ne _ _ _ (by omega), upM_ne _ _ _ (by omega), upM_ne _ _ _ (by omega), upM_ne _ _ _ (by omega), upM_ne _ _ _ c5, b1 a c4, upM_ne _ _ _ c2, upM_ne _ _ _ c2, upM_ne _ _ _ c2, upM_ne _ _ _ c2, a1 a c3, upM_ne _ _ _ c2, upM_ne _ _ _ c2, upM_ne _ _ _ c2, upM_ne _ _ _ c2, upM_ne _ _ _ c2]
  have h2k : ∀ k, k < 3 → M3 2 k = M 2 k := by
    intro k hk
    rw [← hM3, upM_self, va_up_neq _ _ (by omega), upM_self, va_up_neq _ _ (by omega)]
    show M2 2 k = _
    rw [b1 2 (by decide)]; show M1 2 k = _; rw [a1 2 (by decide)]; rfl
  have hX : FrX M M3 := ⟨fun a c1 c2 => hc a c1 (by omega) (by omega) (by omega) (by omega), h2k⟩
  have hT : TPc bs L M3 := ⟨by rw [← hM3]; rfl, by omega, by rw [hc 3 (by decide) (by decide) (by decide) (by decide) (by decide)]; exact hb, by rw [hc 4 (by decide) (by decide) (by decide) (by decide) (by decide)]; exact hw⟩
  have h5 : ∀ q, q = 0 ∨ q = 1 ∨ q = 2 ∨ q = 4 ∨ q = 5 ∨ q = 10 ∨ q = 13 ∨ q = 15 ∨ q = 16 → M3 5 q = 0 := by
    intro q hq
    have e5 : M3 5 = M2 5 := by rw [← hM3]; rfl
    rw [e5, b1 5 (by decide)]
    rcases hq with z | z | z | z | z | z | z | z | z
    all_goals subst z
    · show M1 5 0 = 0; rw [a1 5 (by decide)]; rfl
    · show M1 5 1 = 0; rw [a1 5 (by decide)]; rfl
    · show M1 5 2 = 0; rw [a1 5 (by decide)]; rfl
    · show M1 5 4 = 0; rw [a1 5 (by decide)]; rfl
    · show M1 5 5 = 0; rw [a1 5 (by decide)]; rfl
    · rfl
    · rfl
    · rfl
    · rfl
  refine c_advance hT (Nat.zero_le L) (by rw [← hM3]; rfl) (fun M4 d1 d2 => ?_)
  refine c_readsL (M0 := M4) (L + 1) 0 0 (ps0 bs L) M4 PI.zero (by omega) (Nat.zero_le _) (Nat.le_refl _) (FrRd.rf _) ?_ ?_ ?_ ?_ (fun w pl e M' k1 k2 k3 => HE w pl e M' ((hX.tr d1.toRd.toX).tr k1.toX) k2 k3) (fun r m e e2 M' k1 k2 k3 k4 k5 => HO r m e e2 M' ((hX.tr d1.toRd.toX).tr k1.toX) k2 k3 k4 k5)
  · rw [d1.1 1 (by decide), ← hM3]; rfl
  · rw [d1.1 1 (by decide), ← hM3]; rfl
  · rw [d1.1 5 (by decide)]; exact h5 0 (by omega)
  · have e5 : M4 5 = M3 5 := d1.1 5 (by decide)
    refine ⟨hT.fr d1, d2, ⟨by rw [e5]; exact h5 1 (by omega), Nat.zero_le _, fun l hl => absurd hl (Nat.not_lt_zero _), by rw [e5]; exact h5 5 (by omega), (by decide : (0 : Nat) < 256)⟩, by rw [e5]; exact h5 2 (by omega), fun l hl => ?_, ⟨by rw [e5]; exact h5 4 (by omega), fun i o P sg rb he => absurd he (show ¬ ([] : List LF)[i]? = some (o, P, sg, rb) by simp)⟩, ⟨by rw [e5]; exact h5 10 (by omega), fun i o m he => absurd he (show ¬ ([] : List (Nat × Int))[i]? = some (o, m) by simp)⟩, ⟨by rw [e5]; exact h5 13 (by omega), fun i m he => absurd he (show ¬ ([] : List Int)[i]? = some m by simp)⟩, ⟨by rw [e5]; exact h5 15 (by omega), by rw [e5]; exact h5 16 (by omega), by rw [d1.1 1 (by decide), ← hM3]; rfl, by rw [d1.1 1 (by decide), ← hM3]; rfl⟩, fun k hk => ?_, ⟨by rw [d1.1 15 (by decide), ← hM3]; rfl, fun i e he => absurd he (show ¬ ([] : KL)[i]? = some e by simp)⟩, by rw [d1.1 1 (by decide), ← hM3]; rfl⟩
    · rw [d1.1 9 (by decide)]
      have : M3 9 = M1 9 := by rw [← hM3]; show M2 9 = _; rw [b1 9 (by decide)]; rfl
      rw [this]; exact a2 l hl
    · rw [d1.1 14 (by decide)]
      have : M3 14 = M2 14 := by rw [← hM3]; rfl
      rw [this, b2 _ (by omega), b2 _ (by omega)]; exact ⟨rfl, rfl⟩
end READSC
