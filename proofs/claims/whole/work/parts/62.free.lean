/-! reach, free, must on both sides -/
def freF (mv : Nat → Nat) (l : Nat) (b : BS) : Nat → Nat → Int
  | 0, _ => -2
  | j + 1, k => if (mv (bM b k)).testBit l = true then bF b (bM b k) + 1 else freF mv l b j (k + 1)
def freY (n : Nat) (may : Nat → Nat) (x : Int) (d : DS) : Int := if 0 ≤ x ∧ x < (n : Int) then freF (mvF may (dSe d)) x.toNat (nowB n may d) (bC (nowB n may d)) 0 else -1
def musF (n : Nat) (may : Nat → Nat) (d : DS) (r : Nat) : Nat → Nat → Nat → Nat
  | 0, _, t => t
  | j + 1, l, t => musF n may d r j (l + 1) (if bF (bfs (-1) (canG may (dSe d ||| 2 ^ l) 0) n (dRo d)) r = -1 then t ||| 2 ^ l else t)
def musY (n : Nat) (may : Nat → Nat) (x : Int) (d : DS) : Int := if 0 ≤ x ∧ x < ((2 ^ n : Nat) : Int) then (if bF (nowB n may d) x.toNat = -1 then -2 else (musF n may d x.toNat n 0 0 : Int)) else -1
section FREE
variable {E : Scr} {law : Lw} {may : Nat → Nat} {rust : Int} {n : Nat} {y : YS}
theorem c_reachM {f : Int → Mem → Prop} {M : Mem} (hw : wfY n y) (hD : MD n may law rust M) (hy : YM y M) (H : ∀ M', FrN M M' → f (bC (nowB n may y.1) : Int) M') : CI E mX11_reach [pR 98] M f := by
  have hF0 := FrN.th M 0
  refine vX11_reach_0 (c_layNow hD.2.1 hw (hD.gm.fN hF0) (hy.fN hF0) (fun M1 b1 b2 => ?_))
  rw [b2.2.2.1]
  exact fun _ => H M1 (hF0.tr b1)
theorem c_isMovable {f : Int → Mem → Prop} {M : Mem} {mv : Nat → Nat} {nev : Int} {s0 e0 r l : Nat} (hn : n ≤ 8) (hr : r < 2 ^ n) (hl : l < n) (hG : GC n mv nev s0 e0 M) (H : f (bI ((mv r).testBit l)) M) : CI E mX4_isMovable [pR 86, pI (r : Int), pI (l : Int)] M f := by
  have hp := pw8 hn
  have hm := hG.2.2.1 r hr
  refine vX4_isMovable_0 _ _ (c_hasP hn hr hG.2.1 ⟨⟨by decide, by decide⟩, fun z => absurd z (by decide), fun _ => ⟨⟨by omega, by omega⟩, ?_⟩⟩)
  rw [Int.toNat_natCast, hm.1, bBit_nat (by omega) (by omega), bt_tb]
  refine fun _ => ⟨fun c => ?_, fun c => ?_⟩
  · have : (mv r).testBit l = false := by
      cases h : (mv r).testBit l
      · rfl
      · rw [h] at c; exact absurd c (by decide)
    rw [this] at H; exact H
  · have : (mv r).testBit l = true := by
      cases h : (mv r).testBit l
      · rw [h] at c; exact absurd rfl c
      · rfl
    rw [this] at H; exact H
theorem c_isHad {f : Int → Mem → Prop} {M : Mem} {b : BS} {r : Nat} (hn : n ≤ 8) (hr : r < 2 ^ n) (h7 : M 86 7 = ((2 ^ n : Nat) : Int)) (hB : BC b M) (H1 : bF b r ≠ -1 → f 1 M) (H0 : bF b r = -1 → f 0 M) : CI E mX4_isHad [pR 86, pI (r : Int)] M f := by
  have hp := pw8 hn
  exact vX4_isHad_0 _ (c_stepsTo hn hr h7 hB (fun h9 => ⟨h9, H0, H1⟩))
theorem c_freeC {f : Int → Mem → Prop} {M : Mem} {x : Int} (hx : iR x) (hw : wfY n y) (hD : CD n may law rust M) (hy : YC y M) (H : ∀ M', FrQ M M' → f (freY n may x y.1) M') : CI E mX10_free [pR 0, pI x] M f := by
  have hn := hD.2.1
  have hp := pw8 hn
  unfold freY at H
  refine vX10_free_0 _ (c_has (Or.inr rfl) hx hD.1 hn (fun l el hl => ⟨⟨by decide, by decide⟩, fun _ => ?_, fun z => absurd z (by decide)⟩) (fun z => ⟨⟨by decide, by decide⟩, fun z => absurd rfl z, fun _ => ?_⟩))
  · subst el
    rw [if_pos ⟨by omega, by omega⟩, Int.toNat_natCast] at H
    refine c_lookAround hw hD hy (fun M1 b1 b2 b3 b4 => vX4_stepsToMove_0 _ ?_)
    have hb : BI n (nowB n may y.1) := BI.fs hw.1.1.1
    have hc := hb.cnt
    have HH := H M1 b1
    have loop : ∀ (j k : Nat), k + j = bC (nowB n may y.1) → f (freF (mvF may (dSe y.1)) l (nowB n may y.1) j k) M1 → KW E mX4_stepsToMove (qI f) M1 2 [(0, pR 86), (1, pI (l : Int)), (2, pI (k : Int))] [] := by
      intro j
      induction j with
      | zero =>
        intro k hk hf
        apply vX4_stepsToMove_2
        rw [b4.2.2]
        exact fun _ => ⟨⟨by omega, by omega⟩, fun _ => hf, fun z => absurd z (by omega)⟩
      | succ j ih =>
        intro k hk hf
        simp only [freF] at hf
        have hkc : k < bC (nowB n may y.1) := by omega
        have hm := hb.2.1 k hkc
        apply vX4_stepsToMove_2
        rw [b4.2.2, Int.toNat_natCast, b4.2.1 k hkc]
        refine fun _ => ⟨⟨by omega, by omega⟩, fun z => absurd z (by omega), fun _ => ⟨⟨by omega, by omega⟩, fun z => absurd z (by omega), fun _ => ⟨⟨by omega, by omega⟩, fun _ => c_isMovable hn hm hl b2 ?_⟩⟩⟩
        rw [b4.2.1 k hkc]
        cases ht : (mvF may (dSe y.1) (bM (nowB n may y.1) k)).testBit l
        · rw [ht] at hf
          exact ⟨⟨by decide, by decide⟩, fun _ => ih (k + 1) (by omega) hf, fun z => absurd rfl z⟩
        · rw [ht] at hf
          exact ⟨⟨by decide, by decide⟩, fun z => absurd z (by decide), fun _ => ⟨⟨by omega, by omega⟩, fun _ => c_stepsTo hn hm b2.2.1 b4 (fun _ => hf)⟩⟩
    exact loop _ 0 (by omega) HH
  · rw [if_neg z] at H
    exact H M (FrQ.rf M)
theorem c_freeM {f : Int → Mem → Prop} {M : Mem} {x : Int} (hx : iR x) (hw : wfY n y) (hD : MD n may law rust M) (hy : YM y M) (H : ∀ M', FrN M M' → f (freY n may x y.1) M') : CI E mX11_free [pR 98, pI x] M f := by
  have hn := hD.2.1
  have hp := pw8 hn
  have hF0 := FrN.th M 0
  have hG0 := hD.gm.fN hF0
  have hy0 := hy.fN hF0
  have hse := hw.1.1.2.1
  unfold freY at H
  refine vX11_free_0 _ (c_isLatch hx hG0.1 (fun l el hl => ⟨⟨by decide, by decide⟩, fun _ => ?_, fun z => absurd z (by decide)⟩) (fun z => ⟨⟨by decide, by decide⟩, fun z => absurd rfl z, fun _ => ?_⟩))
  · subst el
    rw [if_pos ⟨by omega, by omega⟩, Int.toNat_natCast] at H
    refine c_layNow hn hw hG0 hy0 (fun M1 b1 b4 => ?_)
    have hG1 := hG0.fN b1
    have hy1 := hy0.fN b1
    have hb : BI n (nowB n may y.1) := BI.fs hw.1.1.1
    have hc := hb.cnt
    have HH := H M1 (hF0.tr b1)
    have loop : ∀ (j k : Nat), k + j = bC (nowB n may y.1) → f (freF (mvF may (dSe y.1)) l (nowB n may y.1) j k) M1 → KW E mX11_free (qI f) M1 21 [(0, pR 98), (1, pI (l : Int)), (2, pI (k : Int))] [] := by
      intro j
      induction j with
      | zero =>
        intro k hk hf
        apply vX11_free_21
        rw [b4.2.2.1]
        exact fun _ => ⟨⟨by omega, by omega⟩, fun _ => hf, fun z => absurd z (by omega)⟩
      | succ j ih =>
        intro k hk hf
        simp only [freF] at hf
        have hkc : k < bC (nowB n may y.1) := by omega
        have hm := hb.2.1 k hkc
        have hmm := hG1.2 _ hm
        have hle := andN_le (may (bM (nowB n may y.1) k)) (dSe y.1)
        apply vX11_free_21
        rw [b4.2.2.1, Int.toNat_natCast, b4.2.1 k hkc, Int.toNat_natCast, hmm.1, hy1.1.2.2.1, bAndN_nat (by omega) (by omega)]
        refine fun _ => ⟨⟨by omega, by omega⟩, fun z => absurd z (by omega), fun _ => ⟨⟨by omega, by omega⟩, fun _ => ⟨⟨by omega, by omega⟩, fun _ _ => c_isOf (by omega) (by omega) ?_⟩⟩⟩
        rw [b4.2.1 k hkc, Int.toNat_natCast, b4.1 _ (by omega), bt_tb]
        have hf' : f (if (andN (may (bM (nowB n may y.1) k)) (dSe y.1)).testBit l = true then bF (nowB n may y.1) (bM (nowB n may y.1) k) + 1 else freF (mvF may (dSe y.1)) l (nowB n may y.1) j (k + 1)) M1 := hf
        cases ht : (andN (may (bM (nowB n may y.1) k)) (dSe y.1)).testBit l
        · rw [ht] at hf'
          exact ⟨⟨by decide, by decide⟩, fun _ => ih (k + 1) (by omega) hf', fun z => absurd rfl z⟩
        · rw [ht] at hf'
          exact ⟨⟨by decide, by decide⟩, fun z => absurd z (by decide), fun _ => ⟨⟨by omega, by omega⟩, fun _ => ⟨⟨by omega, by omega⟩, fun _ => hf'⟩⟩⟩
    exact loop _ 0 (by omega) HH
  · rw [if_neg z] at H
    exact H _ hF0
end FREE
