/-! must on both sides -/
section MUST
variable {E : Scr} {law : Lw} {may : Nat → Nat} {rust : Int} {n : Nat} {y : YS}
theorem canG_mus {se r q t : Nat} : (canG (mvF may se) t 0 r).testBit q = (canG may (se ||| t) 0 r).testBit q := by
  unfold canG mvF
  simp only [andN_tb, Nat.testBit_or, Nat.zero_testBit]
  cases (may r).testBit q <;> cases se.testBit q <;> cases t.testBit q <;> rfl
theorem GC.set {mv : Nat → Nat} {nev : Int} {s0 e0 : Nat} {M M' : Mem} (h : GC n mv nev s0 e0 M) (hF : FrB M M') : GC n mv nev s0 e0 M' := h.fr hF
theorem c_mustC {f : Int → Mem → Prop} {M : Mem} {x : Int} (hx : iR x) (hw : wfY n y) (hD : CD n may law rust M) (hy : YC y M) (H : ∀ M', FrQ M M' → f (musY n may x y.1) M') : CI E mX10_must [pR 0, pI x] M f := by
  have hn := hD.2.1
  have hp := pw8 hn
  have h1 := hw.1.1.1
  have h2 := hw.1.1.2.1
  unfold musY at H
  refine vX10_must_0 _ (c_hasRow hx hD.1 hn (fun r er hr => ⟨⟨by decide, by decide⟩, fun _ => ?_, fun z => absurd z (by decide)⟩) (fun z => ⟨⟨by decide, by decide⟩, fun z => absurd rfl z, fun _ => ?_⟩))
  · subst er
    rw [if_pos ⟨by omega, by omega⟩, Int.toNat_natCast] at H
    rw [hy.1.2.2.1]
    refine fun _ => c_layP (by omega) hD (fun M1 b1 b2 => ?_)
    rw [b1 36 (by decide), hy.1.2.1]
    refine fun _ => vX4_needed_0 _ _ (c_spread hn (by decide) (by decide) h1 b2 (fun M2 d1 d2 d3 => ?_))
    rw [bfs_ext (can2 := canG may (dSe y.1) 0) h1 (fun r _ q _ => canG_mv)] at d3
    have loop : ∀ (j l t s0 : Nat) (M3 : Mem), l + j = n → t < 2 ^ 8 → FrQ M M3 → GC n (mvF may (dSe y.1)) (-1) s0 0 M3 → (∀ M', FrQ M M' → f (musF n may y.1 r j l t : Int) M') → KW E mX4_needed (qI f) M3 21 [(0, pR 86), (1, pI (dRo y.1 : Int)), (2, pI (r : Int)), (3, pI (t : Int)), (4, pI (l : Int))] [] := by
      intro j
      induction j with
      | zero =>
        intro l t s0 M3 hl ht hF hG HH
        apply vX4_needed_21
        rw [hG.1]
        exact fun _ => ⟨⟨by omega, by omega⟩, fun _ => HH M3 hF, fun z => absurd z (by omega)⟩
      | succ j ih =>
        intro l t s0 M3 hl ht hF hG HH
        have hl8 : l < 8 := by omega
        have hpl : 2 ^ l < 2 ^ 8 := Nat.pow_lt_pow_right (by decide) hl8
        simp only [musF] at HH
        apply vX4_needed_21
        rw [hG.1, bOne_nat (by omega), bOr_nat (by omega) (by omega)]
        refine fun _ => ⟨⟨by omega, by omega⟩, fun z => absurd z (by omega), fun _ => ?_⟩
        refine c_bar (e2 := 0) ⟨by decide, by decide⟩ (by omega) (by decide) hG (fun M4 g1 g2 g3 => ?_)
        refine c_spread hn (by omega) (by decide) h1 g3 (fun M5 k1 k2 k3 => ?_)
        rw [bfs_ext (can2 := canG may (dSe y.1 ||| 2 ^ l) 0) h1 (fun r _ q _ => canG_mus)] at k3
        have hF5 : FrQ M M5 := (hF.tr (fun a a1 => g1 a (by omega))).tr k1.toQ
        have hG5 := g3.fr k1
        refine c_isHad hn hr hG5.2.1 k3 (fun c => ?_) (fun c => ?_)
        · rw [if_neg c] at HH
          exact ⟨⟨by decide, by decide⟩, fun _ => ih (l + 1) t _ M5 (by omega) ht hF5 hG5 HH, fun z => absurd z (by decide)⟩
        · rw [if_pos c] at HH
          exact ⟨⟨by decide, by decide⟩, fun z => absurd rfl z, fun _ => ih (l + 1) _ _ M5 (by omega) (Nat.or_lt_two_pow ht hpl) hF5 hG5 HH⟩
    refine c_isHad hn hr (b2.fr d1).2.1 d3 (fun c => ?_) (fun c => ?_)
    · have c' : bF (nowB n may y.1) r ≠ -1 := c
      rw [if_neg c'] at H
      exact ⟨⟨by decide, by decide⟩, fun _ => loop n 0 0 0 M2 (by omega) (by decide) (b1.tr d1.toQ) (b2.fr d1) H, fun z => absurd z (by decide)⟩
    · have c' : bF (nowB n may y.1) r = -1 := c
      rw [if_pos c'] at H
      exact ⟨⟨by decide, by decide⟩, fun z => absurd rfl z, fun _ => H M2 (b1.tr d1.toQ)⟩
  · rw [if_neg z] at H
    exact H M (FrQ.rf M)
theorem c_mustM {f : Int → Mem → Prop} {M : Mem} {x : Int} (hx : iR x) (hw : wfY n y) (hD : MD n may law rust M) (hy : YM y M) (H : ∀ M', FrN M M' → f (musY n may x y.1) M') : CI E mX11_must [pR 98, pI x] M f := by
  have hn := hD.2.1
  have hp := pw8 hn
  have h1 := hw.1.1.1
  have h2 := hw.1.1.2.1
  have hF0 := FrN.th M 0
  have hG0 := hD.gm.fN hF0
  have hy0 := hy.fN hF0
  unfold musY at H
  refine vX11_must_0 _ (c_isRow hx hG0.1 hn (fun r er hr => ⟨⟨by decide, by decide⟩, fun _ => ?_, fun z => absurd z (by decide)⟩) (fun z => ⟨⟨by decide, by decide⟩, fun z => absurd rfl z, fun _ => ?_⟩))
  · subst er
    rw [if_pos ⟨by omega, by omega⟩, Int.toNat_natCast] at H
    refine c_layNow hn hw hG0 hy0 (fun M1 b1 b4 => ⟨⟨by omega, by omega⟩, ?_⟩)
    rw [Int.toNat_natCast, b4.1 r (by omega)]
    have hb : BI n (nowB n may y.1) := BI.fs h1
    have loop : ∀ (j l t : Nat) (M3 : Mem), l + j = n → t < 2 ^ 8 → FrN M M3 → (∀ M', FrN M M' → f (musF n may y.1 r j l t : Int) M') → KW E mX11_must (qI f) M3 35 [(0, pR 98), (1, pI (r : Int)), (2, pI (t : Int)), (3, pI (l : Int))] [] := by
      intro j
      induction j with
      | zero =>
        intro l t M3 hl ht hF HH
        apply vX11_must_35
        rw [(hD.gm.fN hF).1]
        exact fun _ => ⟨⟨by omega, by omega⟩, fun _ => HH M3 hF, fun z => absurd z (by omega)⟩
      | succ j ih =>
        intro l t M3 hl ht hF HH
        have hl8 : l < 8 := by omega
        have hpl : 2 ^ l < 2 ^ 8 := Nat.pow_lt_pow_right (by decide) hl8
        have hG3 := hD.gm.fN hF
        have hy3 := hy.fN hF
        have hsl : dSe y.1 ||| 2 ^ l < 2 ^ 8 := Nat.or_lt_two_pow (by omega) hpl
        simp only [musF] at HH
        apply vX11_must_35
        rw [hG3.1, hy3.1.2.1, hy3.1.2.2.1, bOne_nat (by omega), bOr_nat (by omega) (by omega), bOr_nat (by omega) (by omega), show bOr (t : Int) 0 = (t : Int) by have := bOr_nat (a := t) (b := 0) (by omega) (by decide); rw [Nat.or_zero] at this; exact this]
        refine fun _ => ⟨⟨by omega, by omega⟩, fun z => absurd z (by omega), fun _ _ _ => ?_⟩
        refine c_layFar (loose := 0) hn (by omega) (by decide) ⟨by decide, by decide⟩ h1 hG3 (fun M5 k1 k3 => ⟨⟨by omega, by omega⟩, ?_⟩)
        rw [Int.toNat_natCast, k3.1 r (by omega)]
        have hb5 : BI n (bfs (-1) (canG may (dSe y.1 ||| 2 ^ l) 0) n (dRo y.1)) := BI.fs h1
        refine fun _ => ⟨fun c => ?_, fun c => ?_⟩
        · rw [if_neg (by omega)] at HH
          exact ih (l + 1) t M5 (by omega) ht (hF.tr k1.toN) HH
        · have c' : bF (bfs (-1) (canG may (dSe y.1 ||| 2 ^ l) 0) n (dRo y.1)) r = -1 := by
            by_cases z : bF (bfs (-1) (canG may (dSe y.1 ||| 2 ^ l) 0) n (dRo y.1)) r = -1
            · exact z
            · have := (hb5.had z).2.1; omega
          rw [if_pos c'] at HH
          exact ih (l + 1) _ M5 (by omega) (Nat.or_lt_two_pow ht hpl) (hF.tr k1.toN) HH
    refine fun _ => ⟨fun c => ?_, fun c => ?_⟩
    · rw [if_neg (by omega)] at H
      exact loop n 0 0 M1 (by omega) (by decide) (hF0.tr b1) H
    · have c' : bF (nowB n may y.1) r = -1 := by
        by_cases z : bF (nowB n may y.1) r = -1
        · exact z
        · have := (hb.had z).2.1; omega
      rw [if_pos c'] at H
      exact H M1 (hF0.tr b1)
  · rw [if_neg z] at H
    exact H _ hF0
end MUST
